def FX11_weighed (Q : Int64 → Prop) (l0 : Int64) (l2 : Int32) (l3 : Int32) (M : Mem) : Prop :=
  ∀ y1 : Int64, y1 = l0 * ((l2 : Int32).toInt64) → ∀ y2 : Int64, y2 = y1 + ((1000000 - l0) * ((l3 : Int32).toInt64)) → ((0 < (lg_cmp y2 0) → (¬ (y2 : Int64) = 0) ∧ Q ((y1 * 1000000) / y2)) ∧ (¬ 0 < (lg_cmp y2 0) → Q 0))
theorem eX11_weighed {Q : Int64 → Prop} {l0 : Int64} {l2 : Int32} {l3 : Int32} {M : Mem} (h : FX11_weighed Q l0 l2 l3 M) : xX RX11 cX11_weighed 8 (some .long) 1 0 [(0, .long l0), (2, .int l2), (3, .int l3)] [] M (xQl (xP M Q)) := by
  unfold FX11_weighed at h
  refine x_lload_n dX11_weighed_0 rfl 1 rfl ?_
  refine x_iload_n dX11_weighed_1 rfl 2 rfl ?_
  refine x_i2l dX11_weighed_2 3 rfl ?_
  refine x_lmul dX11_weighed_3 4 rfl ?_
  refine x_topl (fun y1 hy1 => ?_)
  have h := h y1 hy1
  refine x_lstore dX11_weighed_4 (Nat.le_of_ble_eq_true rfl) [(0, .long l0), (2, .int l2), (3, .int l3), (4, .long y1)] rfl 6 rfl ?_
  refine x_lload dX11_weighed_6 rfl 8 rfl ?_
  refine x_ldc2 dX11_weighed_8 kw5_92 11 rfl ?_
  refine x_lload_n dX11_weighed_11 rfl 12 rfl ?_
  refine x_lsub dX11_weighed_12 13 rfl ?_
  refine x_iload_n dX11_weighed_13 rfl 14 rfl ?_
  refine x_i2l dX11_weighed_14 15 rfl ?_
  refine x_lmul dX11_weighed_15 16 rfl ?_
  refine x_ladd dX11_weighed_16 17 rfl ?_
  refine x_topl (fun y2 hy2 => ?_)
  have h := h y2 hy2
  refine x_lstore dX11_weighed_17 (Nat.le_of_ble_eq_true rfl) [(0, .long l0), (2, .int l2), (3, .int l3), (4, .long y1), (6, .long y2)] rfl 19 rfl ?_
  refine x_lload dX11_weighed_19 rfl 21 rfl ?_
  refine x_lconst (v := 0) dX11_weighed_21 (by decide) 22 rfl ?_
  refine x_lcmp dX11_weighed_22 23 rfl ?_
  refine x_if_gt dX11_weighed_23 30 26 rfl rfl (fun hc => ?_) (fun hc => ?_)
  · have h := h.1 hc
    refine x_lload dX11_weighed_30 rfl 32 rfl ?_
    refine x_ldc2 dX11_weighed_32 kw5_92 35 rfl ?_
    refine x_lmul dX11_weighed_35 36 rfl ?_
    refine x_lload dX11_weighed_36 rfl 38 rfl ?_
    obtain ⟨hne, h⟩ := h
    refine x_ldiv dX11_weighed_38 hne 39 rfl ?_
    exact x_lret dX11_weighed_39 ⟨rfl, h⟩
  · have h := h.2 hc
    refine x_lconst (v := 0) dX11_weighed_26 (by decide) 27 rfl ?_
    refine x_goto dX11_weighed_27 39 rfl ?_
    exact x_lret dX11_weighed_39 ⟨rfl, h⟩
theorem cX11_weighed_ {Q : Int64 → Prop} {l0 : Int64} {l2 : Int32} {l3 : Int32} {M : Mem} (h : FX11_weighed Q l0 l2 l3 M) : xM yX11_weighed cX11_weighed 8 (some .long) 1 [.long l0, .int l2, .int l3] M (xQl (xP M Q)) := xM_of (by decide +kernel) (Nat.le_of_ble_eq_true rfl) (eX11_weighed h)
theorem kX11_weighed {own : String} {cc : ByteArray} {nL : Nat} {rt : Option FieldType} {d pc ix : Nat} {L : List (Nat × Value)} {st : List Value} {M : Mem} {Rt : xGt → Array Value → State → Outcome → State → Prop} {Q : Int64 → Prop} {l0 : Int64} {l2 : Int32} {l3 : Int32} (hd : decode cc pc = .ok (.invokestatic ix, 3)) (q : Nat) (hq : pc + 3 = q) (w1 : Cond.methodLink own ix yX11_weighed ∈ xTs) (hr : 1 < d) (hst : (st.map fun v => v.category).sum ≤ 8) (h : FX11_weighed Q l0 l2 l3 M) (k : ∀ (r : Int64), Q r → xX own cc nL rt d q L (.long r :: st) M Rt) : xX own cc nL rt d pc L (.int l3 :: .int l2 :: .long l0 :: st) M Rt :=
  x_callS_l (n := 3) (As := [.long l0, .int l2, .int l3]) hd q hq w1 kw5_90 kw1_1 kw5_91 (by decide +kernel) rfl hr (by decide) hst _ rfl (cX11_weighed_ h) (fun r N hN => by obtain ⟨rfl, hN⟩ := hN; exact k r hN)
def lbX11_gone_69 (Q : Int32 → Prop) (l3 : Int32) (M : Mem) (B69 : Int64 → Int32 → Prop) (l4 : Int64) (l6 : Int32) : Prop :=
  ((l3 ≤ l6 → Q l4.toInt32) ∧ (¬ l3 ≤ l6 → FX11_weighed (fun (r1 : Int64) => B69 r1 (l6 + 1)) l4 2 8 M))
def NX11_gone_69 (Q : Int32 → Prop) (l3 : Int32) (l4 : Int64) (l6 : Int32) (M : Mem) : Prop := xlp (fun (B : Int64 × Int32 → Prop) a => lbX11_gone_69 Q l3 M (fun l4 l6 => B (l4, l6)) a.1 a.2) (l4, l6)
theorem nX11_gone_69 {Q : Int32 → Prop} {l3 : Int32} {l4 : Int64} {l6 : Int32} {M : Mem} (h : NX11_gone_69 Q l3 l4 l6 M) : xX RX11 cX11_gone 7 (some .int) 2 69 [(3, .int l3), (4, .long l4), (6, .int l6)] [] M (xQi (xP M Q)) := by
  obtain ⟨n, h⟩ := h
  have hB69 : ∀ (n : Nat) (l4 : Int64) (l6 : Int32), xlpn (fun (B : Int64 × Int32 → Prop) a => lbX11_gone_69 Q l3 M (fun l4 l6 => B (l4, l6)) a.1 a.2) n (l4, l6) → xX RX11 cX11_gone 7 (some .int) 2 69 [(3, .int l3), (4, .long l4), (6, .int l6)] [] M (xQi (xP M Q)) := by
    intro n
    induction n with
    | zero => intro l4 l6 h; exact False.elim h
    | succ n ih =>
      intro l4 l6 h
      have hB69 := ih
      have h : lbX11_gone_69 Q l3 M (fun l4 l6 => xlpn (fun (B : Int64 × Int32 → Prop) a => lbX11_gone_69 Q l3 M (fun l4 l6 => B (l4, l6)) a.1 a.2) n (l4, l6)) l4 l6 := h
      unfold lbX11_gone_69 at h
      refine x_iload dX11_gone_69 rfl 71 rfl ?_
      refine x_iload_n dX11_gone_71 rfl 72 rfl ?_
      refine x_icmp_ge dX11_gone_72 91 75 rfl rfl (fun hc => ?_) (fun hc => ?_)
      · have h := h.1 hc
        refine x_lload dX11_gone_91 rfl 93 rfl ?_
        refine x_l2i dX11_gone_93 94 rfl ?_
        exact x_iret dX11_gone_94 ⟨rfl, h⟩
      · have h := h.2 hc
        refine x_lload dX11_gone_75 rfl 77 rfl ?_
        refine x_iconst dX11_gone_77 kc_2 78 rfl ?_
        refine x_bipush dX11_gone_78 kb_8 80 rfl ?_
        refine kX11_weighed dX11_gone_80 83 rfl kw5_89 (Nat.le_of_ble_eq_true rfl) (Nat.le_of_ble_eq_true rfl) h (fun r1 h => ?_)
        refine x_lstore dX11_gone_83 (Nat.le_of_ble_eq_true rfl) [(3, .int l3), (4, .long r1), (6, .int l6)] rfl 85 rfl ?_
        refine x_iinc dX11_gone_85 rfl (congrArg (l6 + ·) kc_1) (Nat.le_of_ble_eq_true rfl) [(3, .int l3), (4, .long r1), (6, .int (l6 + 1))] rfl 88 rfl ?_
        refine x_goto dX11_gone_88 69 rfl ?_
        exact hB69 _ _ h
  exact hB69 n l4 l6 h
def lbX11_gone_44 (Q : Int32 → Prop) (l2 : Int32) (l3 : Int32) (M : Mem) (B44 : Int64 → Int32 → Prop) (l4 : Int64) (l6 : Int32) : Prop :=
  ((l2 ≤ l6 → NX11_gone_69 Q l3 l4 l2 M) ∧ (¬ l2 ≤ l6 → FX11_weighed (fun (r2 : Int64) => B44 r2 (l6 + 1)) l4 8 2 M))
def NX11_gone_44 (Q : Int32 → Prop) (l2 : Int32) (l3 : Int32) (l4 : Int64) (l6 : Int32) (M : Mem) : Prop := xlp (fun (B : Int64 × Int32 → Prop) a => lbX11_gone_44 Q l2 l3 M (fun l4 l6 => B (l4, l6)) a.1 a.2) (l4, l6)
theorem nX11_gone_44 {Q : Int32 → Prop} {l2 : Int32} {l3 : Int32} {l4 : Int64} {l6 : Int32} {M : Mem} (h : NX11_gone_44 Q l2 l3 l4 l6 M) : xX RX11 cX11_gone 7 (some .int) 2 44 [(2, .int l2), (3, .int l3), (4, .long l4), (6, .int l6)] [] M (xQi (xP M Q)) := by
  obtain ⟨n, h⟩ := h
  have hB44 : ∀ (n : Nat) (l4 : Int64) (l6 : Int32), xlpn (fun (B : Int64 × Int32 → Prop) a => lbX11_gone_44 Q l2 l3 M (fun l4 l6 => B (l4, l6)) a.1 a.2) n (l4, l6) → xX RX11 cX11_gone 7 (some .int) 2 44 [(2, .int l2), (3, .int l3), (4, .long l4), (6, .int l6)] [] M (xQi (xP M Q)) := by
    intro n
    induction n with
    | zero => intro l4 l6 h; exact False.elim h
    | succ n ih =>
      intro l4 l6 h
      have hB44 := ih
      have h : lbX11_gone_44 Q l2 l3 M (fun l4 l6 => xlpn (fun (B : Int64 × Int32 → Prop) a => lbX11_gone_44 Q l2 l3 M (fun l4 l6 => B (l4, l6)) a.1 a.2) n (l4, l6)) l4 l6 := h
      unfold lbX11_gone_44 at h
      refine x_iload dX11_gone_44 rfl 46 rfl ?_
      refine x_iload_n dX11_gone_46 rfl 47 rfl ?_
      refine x_icmp_ge dX11_gone_47 66 50 rfl rfl (fun hc => ?_) (fun hc => ?_)
      · have h := h.1 hc
        refine x_iload_n dX11_gone_66 rfl 67 rfl ?_
        refine x_istore dX11_gone_67 (Nat.le_of_ble_eq_true rfl) [(2, .int l2), (3, .int l3), (4, .long l4), (6, .int l2)] rfl 69 rfl ?_
        refine x_weak [(3, .int l3), (4, .long l4), (6, .int l2)] [1, 2, 3] rfl ?_
        exact nX11_gone_69 h
      · have h := h.2 hc
        refine x_lload dX11_gone_50 rfl 52 rfl ?_
        refine x_bipush dX11_gone_52 kb_8 54 rfl ?_
        refine x_iconst dX11_gone_54 kc_2 55 rfl ?_
        refine kX11_weighed dX11_gone_55 58 rfl kw5_89 (Nat.le_of_ble_eq_true rfl) (Nat.le_of_ble_eq_true rfl) h (fun r2 h => ?_)
        refine x_lstore dX11_gone_58 (Nat.le_of_ble_eq_true rfl) [(2, .int l2), (3, .int l3), (4, .long r2), (6, .int l6)] rfl 60 rfl ?_
        refine x_iinc dX11_gone_60 rfl (congrArg (l6 + ·) kc_1) (Nat.le_of_ble_eq_true rfl) [(2, .int l2), (3, .int l3), (4, .long r2), (6, .int (l6 + 1))] rfl 63 rfl ?_
        refine x_goto dX11_gone_63 44 rfl ?_
        exact hB44 _ _ h
  exact hB44 n l4 l6 h
def FX11_gone (Q : Int32 → Prop) (l0 : Nat) (l1 : Int32) (l2 : Int32) (l3 : Int32) (M : Mem) : Prop :=
  FX11_within (fun (r3 : Bool) => ((r3 = false → Q (-1)) ∧ (r3 = true → FX11_within (fun (r4 : Bool) => ((r4 = false → Q (-1)) ∧ (r4 = true → FX11_within (fun (r5 : Bool) => ((r5 = true → ∀ y6 : Int64, y6 = ((l1 : Int32).toInt64) * 1000 → NX11_gone_44 Q l2 l3 y6 0 M) ∧ (r5 = false → Q (-1)))) l3 l2 40 M))) l2 0 20 M))) l1 0 1000 M
theorem eX11_gone {Q : Int32 → Prop} {l0 : Nat} {l1 : Int32} {l2 : Int32} {l3 : Int32} {M : Mem} (hk_l0 : SHk l0 = 11) (h : FX11_gone Q l0 l1 l2 l3 M) : xX RX11 cX11_gone 7 (some .int) 2 0 [(0, .ref l0), (1, .int l1), (2, .int l2), (3, .int l3)] [] M (xQi (xP M Q)) := by
  unfold FX11_gone at h
  refine x_iload_n dX11_gone_0 rfl 1 rfl ?_
  refine x_iconst dX11_gone_1 kc_0 2 rfl ?_
  refine x_sipush dX11_gone_2 kh_1000 5 rfl ?_
  refine kX11_within dX11_gone_5 8 rfl kw2_213 (Nat.le_of_ble_eq_true rfl) (Nat.le_of_ble_eq_true rfl) h (fun r3 h => ?_)
  refine x_if_eq_b dX11_gone_8 31 11 rfl rfl (fun hc => ?_) (fun hc => ?_)
  · have h := h.1 hc
    refine x_iconst dX11_gone_31 kc_m1 32 rfl ?_
    exact x_iret dX11_gone_32 ⟨rfl, h⟩
  · have h := h.2 hc
    refine x_iload_n dX11_gone_11 rfl 12 rfl ?_
    refine x_iconst dX11_gone_12 kc_0 13 rfl ?_
    refine x_bipush dX11_gone_13 kb_20 15 rfl ?_
    refine kX11_within dX11_gone_15 18 rfl kw2_213 (Nat.le_of_ble_eq_true rfl) (Nat.le_of_ble_eq_true rfl) h (fun r4 h => ?_)
    refine x_if_eq_b dX11_gone_18 31 21 rfl rfl (fun hc => ?_) (fun hc => ?_)
    · have h := h.1 hc
      refine x_iconst dX11_gone_31 kc_m1 32 rfl ?_
      exact x_iret dX11_gone_32 ⟨rfl, h⟩
    · have h := h.2 hc
      refine x_iload_n dX11_gone_21 rfl 22 rfl ?_
      refine x_iload_n dX11_gone_22 rfl 23 rfl ?_
      refine x_bipush dX11_gone_23 kb_40 25 rfl ?_
      refine kX11_within dX11_gone_25 28 rfl kw2_213 (Nat.le_of_ble_eq_true rfl) (Nat.le_of_ble_eq_true rfl) h (fun r5 h => ?_)
      refine x_if_ne_b dX11_gone_28 33 31 rfl rfl (fun hc => ?_) (fun hc => ?_)
      · have h := h.1 hc
        refine x_iload_n dX11_gone_33 rfl 34 rfl ?_
        refine x_i2l dX11_gone_34 35 rfl ?_
        refine x_ldc2 dX11_gone_35 kw5_88 38 rfl ?_
        refine x_lmul dX11_gone_38 39 rfl ?_
        refine x_topl (fun y6 hy6 => ?_)
        have h := h y6 hy6
        refine x_lstore dX11_gone_39 (Nat.le_of_ble_eq_true rfl) [(0, .ref l0), (1, .int l1), (2, .int l2), (3, .int l3), (4, .long y6)] rfl 41 rfl ?_
        refine x_iconst dX11_gone_41 kc_0 42 rfl ?_
        refine x_istore dX11_gone_42 (Nat.le_of_ble_eq_true rfl) [(0, .ref l0), (1, .int l1), (2, .int l2), (3, .int l3), (4, .long y6), (6, .int 0)] rfl 44 rfl ?_
        refine x_weak [(2, .int l2), (3, .int l3), (4, .long y6), (6, .int 0)] [2, 3, 4, 5] rfl ?_
        exact nX11_gone_44 h
      · have h := h.2 hc
        refine x_iconst dX11_gone_31 kc_m1 32 rfl ?_
        exact x_iret dX11_gone_32 ⟨rfl, h⟩
theorem cX11_gone_ {Q : Int32 → Prop} {l0 : Nat} {l1 : Int32} {l2 : Int32} {l3 : Int32} {M : Mem} (hk_l0 : SHk l0 = 11) (h : FX11_gone Q l0 l1 l2 l3 M) : xM yX11_gone cX11_gone 7 (some .int) 2 [.ref l0, .int l1, .int l2, .int l3] M (xQi (xP M Q)) := xM_of (by decide +kernel) (Nat.le_of_ble_eq_true rfl) (eX11_gone hk_l0 h)
theorem kX11_gone {own : String} {cc : ByteArray} {nL : Nat} {rt : Option FieldType} {d pc ix : Nat} {L : List (Nat × Value)} {st : List Value} {M : Mem} {Rt : xGt → Array Value → State → Outcome → State → Prop} {Q : Int32 → Prop} {l0 : Nat} {l1 : Int32} {l2 : Int32} {l3 : Int32} (hd : decode cc pc = .ok (.invokevirtual ix, 3)) (q : Nat) (hq : pc + 3 = q) (hk_l0 : SHk l0 = 11) (w1 : Cond.methodLink own ix yX11_gone ∈ xTs) (hr : 2 < d) (hst : (st.map fun v => v.category).sum ≤ 8) (h : FX11_gone Q l0 l1 l2 l3 M) (k : ∀ (r : Int32), Q r → xX own cc nL rt d q L (.int r :: st) M Rt) : xX own cc nL rt d pc L (.int l3 :: .int l2 :: .int l1 :: .ref l0 :: st) M Rt :=
  x_callV_i (n := 3) (As := [.int l1, .int l2, .int l3]) hd q hq hk_l0 (by decide) rfl rfl w1 kw5_85 kw5_86 kw1_1 kw5_87 (by decide +kernel) rfl hr (by decide) hst _ rfl (cX11_gone_ hk_l0 h) (fun r N hN => by obtain ⟨rfl, hN⟩ := hN; exact k r hN)
def FX11_lap (Q : Int32 → Mem → Prop) (l0 : Nat) (l1 : Int32) (l2 : Int32) (l3 : Int32) (l4 : Int32) (M : Mem) : Prop :=
  FX9_isPillar (fun (r1 : Bool) => ((r1 = false → Q (-1) M) ∧ (r1 = true → FX9_isPillar (fun (r2 : Bool) => ((r2 = false → Q (-1) M) ∧ (r2 = true → FX11_within (fun (r3 : Bool) => ((r3 = false → Q (-1) M) ∧ (r3 = true → ((l4 < 0 → Q (-1) M) ∧ (¬ l4 < 0 → ((l4 ≤ 1 → FX1_walk (fun (M4 : Mem) => vp_in l2 10 ∧ ((¬ (M4 ((l0 + 162) + 1) (ix l2)) = (-1) → ((¬ l4 = 0 → vp_in l2 10 ∧ Q (M4 ((l0 + 162) + 2) (ix l2)) M4) ∧ (l4 = 0 → vp_in l2 10 ∧ Q (M4 ((l0 + 162) + 1) (ix l2)) M4))) ∧ ((M4 ((l0 + 162) + 1) (ix l2)) = (-1) → Q (-1) M4))) (l0 + 162) ((l0 + 1) + 1) l1 l3 M) ∧ (¬ l4 ≤ 1 → Q (-1) M))))))) l3 0 99 M))) ((l0 + 1) + 1) l2 M))) ((l0 + 1) + 1) l1 M
theorem eX11_lap {Q : Int32 → Mem → Prop} {l0 : Nat} {l1 : Int32} {l2 : Int32} {l3 : Int32} {l4 : Int32} {M : Mem} (hk_l0 : SHk l0 = 11) (h : FX11_lap Q l0 l1 l2 l3 l4 M) : xX RX11 cX11_lap 6 (some .int) 4 0 [(0, .ref l0), (1, .int l1), (2, .int l2), (3, .int l3), (4, .int l4)] [] M (xQi Q) := by
  unfold FX11_lap at h
  refine x_aload_n dX11_lap_0 rfl 1 rfl ?_
  refine gf11_0 dX11_lap_1 4 rfl hk_l0 kw2_148 ?_
  refine gf0_0 dX11_lap_4 7 rfl (ly11_0 hk_l0).1 kw2_10 ?_
  refine x_astore dX11_lap_7 (Nat.le_of_ble_eq_true rfl) [(0, .ref l0), (1, .int l1), (2, .int l2), (3, .int l3), (4, .int l4), (5, .ref ((l0 + 1) + 1))] rfl 9 rfl ?_
  refine x_aload dX11_lap_9 rfl 11 rfl ?_
  refine x_iload_n dX11_lap_11 rfl 12 rfl ?_
  refine kX9_isPillar dX11_lap_12 15 rfl (ly0_0 (ly11_0 hk_l0).1).1 kw4_170 (Nat.le_of_ble_eq_true rfl) (Nat.le_of_ble_eq_true rfl) h (fun r1 h => ?_)
  refine x_if_eq_b dX11_lap_15 48 18 rfl rfl (fun hc => ?_) (fun hc => ?_)
  · have h := h.1 hc
    refine x_iconst dX11_lap_48 kc_m1 49 rfl ?_
    exact x_iret dX11_lap_49 h
  · have h := h.2 hc
    refine x_aload dX11_lap_18 rfl 20 rfl ?_
    refine x_iload_n dX11_lap_20 rfl 21 rfl ?_
    refine kX9_isPillar dX11_lap_21 24 rfl (ly0_0 (ly11_0 hk_l0).1).1 kw4_170 (Nat.le_of_ble_eq_true rfl) (Nat.le_of_ble_eq_true rfl) h (fun r2 h => ?_)
    refine x_if_eq_b dX11_lap_24 48 27 rfl rfl (fun hc => ?_) (fun hc => ?_)
    · have h := h.1 hc
      refine x_iconst dX11_lap_48 kc_m1 49 rfl ?_
      exact x_iret dX11_lap_49 h
    · have h := h.2 hc
      refine x_iload_n dX11_lap_27 rfl 28 rfl ?_
      refine x_iconst dX11_lap_28 kc_0 29 rfl ?_
      refine x_bipush dX11_lap_29 kb_99 31 rfl ?_
      refine kX11_within dX11_lap_31 34 rfl kw2_213 (Nat.le_of_ble_eq_true rfl) (Nat.le_of_ble_eq_true rfl) h (fun r3 h => ?_)
      refine x_if_eq_b dX11_lap_34 48 37 rfl rfl (fun hc => ?_) (fun hc => ?_)
      · have h := h.1 hc
        refine x_iconst dX11_lap_48 kc_m1 49 rfl ?_
        exact x_iret dX11_lap_49 h
      · have h := h.2 hc
        refine x_iload dX11_lap_37 rfl 39 rfl ?_
        refine x_if_lt dX11_lap_39 48 42 rfl rfl (fun hc => ?_) (fun hc => ?_)
        · have h := h.1 hc
          refine x_iconst dX11_lap_48 kc_m1 49 rfl ?_
          exact x_iret dX11_lap_49 h
        · have h := h.2 hc
          refine x_iload dX11_lap_42 rfl 44 rfl ?_
          refine x_iconst dX11_lap_44 kc_1 45 rfl ?_
          refine x_icmp_le dX11_lap_45 50 48 rfl rfl (fun hc => ?_) (fun hc => ?_)
          · have h := h.1 hc
            refine x_aload_n dX11_lap_50 rfl 51 rfl ?_
            refine gf11_5 dX11_lap_51 54 rfl hk_l0 kw2_153 ?_
            refine x_aload dX11_lap_54 rfl 56 rfl ?_
            refine x_iload_n dX11_lap_56 rfl 57 rfl ?_
            refine x_iload_n dX11_lap_57 rfl 58 rfl ?_
            refine kX1_walk dX11_lap_58 61 rfl (ly11_5 hk_l0).1 (ly0_0 (ly11_0 hk_l0).1).1 kw5_97 (Nat.le_of_ble_eq_true rfl) (Nat.le_of_ble_eq_true rfl) h (fun M4 h => ?_)
            refine x_aload_n dX11_lap_61 rfl 62 rfl ?_
            refine gf11_5 dX11_lap_62 65 rfl hk_l0 kw2_153 ?_
            refine gf1_0 dX11_lap_65 68 rfl (ly11_5 hk_l0).1 kw2_140 ?_
            refine x_iload_n dX11_lap_68 rfl 69 rfl ?_
            obtain ⟨hin, h⟩ := h
            refine x_iaload dX11_lap_69 (ly1_0 (ly11_5 hk_l0).1) hin 70 rfl ?_
            refine x_iconst dX11_lap_70 kc_m1 71 rfl ?_
            refine x_icmp_ne dX11_lap_71 76 74 rfl rfl (fun hc => ?_) (fun hc => ?_)
            · have h := h.1 hc
              refine x_iload dX11_lap_76 rfl 78 rfl ?_
              refine x_if_ne dX11_lap_78 93 81 rfl rfl (fun hc => ?_) (fun hc => ?_)
              · have h := h.1 hc
                refine x_aload_n dX11_lap_93 rfl 94 rfl ?_
                refine gf11_5 dX11_lap_94 97 rfl hk_l0 kw2_153 ?_
                refine gf1_1 dX11_lap_97 100 rfl (ly11_5 hk_l0).1 kw2_142 ?_
                refine x_iload_n dX11_lap_100 rfl 101 rfl ?_
                obtain ⟨hin, h⟩ := h
                refine x_iaload dX11_lap_101 (ly1_1 (ly11_5 hk_l0).1) hin 102 rfl ?_
                exact x_iret dX11_lap_102 h
              · have h := h.2 hc
                refine x_aload_n dX11_lap_81 rfl 82 rfl ?_
                refine gf11_5 dX11_lap_82 85 rfl hk_l0 kw2_153 ?_
                refine gf1_0 dX11_lap_85 88 rfl (ly11_5 hk_l0).1 kw2_140 ?_
                refine x_iload_n dX11_lap_88 rfl 89 rfl ?_
                obtain ⟨hin, h⟩ := h
                refine x_iaload dX11_lap_89 (ly1_0 (ly11_5 hk_l0).1) hin 90 rfl ?_
                refine x_goto dX11_lap_90 102 rfl ?_
                exact x_iret dX11_lap_102 h
            · have h := h.2 hc
              refine x_iconst dX11_lap_74 kc_m1 75 rfl ?_
              exact x_iret dX11_lap_75 h
          · have h := h.2 hc
            refine x_iconst dX11_lap_48 kc_m1 49 rfl ?_
            exact x_iret dX11_lap_49 h
theorem cX11_lap_ {Q : Int32 → Mem → Prop} {l0 : Nat} {l1 : Int32} {l2 : Int32} {l3 : Int32} {l4 : Int32} {M : Mem} (hk_l0 : SHk l0 = 11) (h : FX11_lap Q l0 l1 l2 l3 l4 M) : xM yX11_lap cX11_lap 6 (some .int) 4 [.ref l0, .int l1, .int l2, .int l3, .int l4] M (xQi Q) := xM_of (by decide +kernel) (Nat.le_of_ble_eq_true rfl) (eX11_lap hk_l0 h)
theorem kX11_lap {own : String} {cc : ByteArray} {nL : Nat} {rt : Option FieldType} {d pc ix : Nat} {L : List (Nat × Value)} {st : List Value} {M : Mem} {Rt : xGt → Array Value → State → Outcome → State → Prop} {Q : Int32 → Mem → Prop} {l0 : Nat} {l1 : Int32} {l2 : Int32} {l3 : Int32} {l4 : Int32} (hd : decode cc pc = .ok (.invokevirtual ix, 3)) (q : Nat) (hq : pc + 3 = q) (hk_l0 : SHk l0 = 11) (w1 : Cond.methodLink own ix yX11_lap ∈ xTs) (hr : 4 < d) (hst : (st.map fun v => v.category).sum ≤ 8) (h : FX11_lap Q l0 l1 l2 l3 l4 M) (k : ∀ (r : Int32) (N : Mem), Q r N → xX own cc nL rt d q L (.int r :: st) N Rt) : xX own cc nL rt d pc L (.int l4 :: .int l3 :: .int l2 :: .int l1 :: .ref l0 :: st) M Rt :=
  x_callV_i (n := 4) (As := [.int l1, .int l2, .int l3, .int l4]) hd q hq hk_l0 (by decide) rfl rfl w1 kw5_94 kw5_95 kw1_1 kw5_96 (by decide +kernel) rfl hr (by decide) hst _ rfl (cX11_lap_ hk_l0 h) k
def lbX11_game_79 (Q : Int32 → Prop) (B52 : Int32 → Prop) (l1 : Int32) (l2 : Nat) (l3 : Int32) (l4 : Int32) (l5 : Int32) (M : Mem) (B79 : Int32 → Prop) (l6 : Int32) : Prop :=
  ((l5 < l6 → B52 (l4 + 1)) ∧ (¬ l5 < l6 → FX9_nimber (fun (r1 : Int32) => FX9_nimber (fun (r2 : Int32) => ((¬ ((l3 ^^^ r1) ^^^ r2) = 0 → B79 (l6 + 1)) ∧ (((l3 ^^^ r1) ^^^ r2) = 0 → ((¬ l1 = 0 → Q l6) ∧ (l1 = 0 → Q l4))))) l2 l4 l6 M) l2 l4 0 M))
def NX11_game_79 (Q : Int32 → Prop) (B52 : Int32 → Prop) (l1 : Int32) (l2 : Nat) (l3 : Int32) (l4 : Int32) (l5 : Int32) (l6 : Int32) (M : Mem) : Prop := xlp (fun (B : Int32 → Prop) a => lbX11_game_79 Q B52 l1 l2 l3 l4 l5 M (fun l6 => B (l6)) a) (l6)
theorem nX11_game_79 {Q : Int32 → Prop} {B52 : Int32 → Prop} {l1 : Int32} {l2 : Nat} {l3 : Int32} {l4 : Int32} {l5 : Int32} {l6 : Int32} {M : Mem} (hB52 : ∀ (l4 : Int32), B52 l4 → xX RX11 cX11_game 7 (some .int) 5 52 [(1, .int l1), (2, .ref l2), (3, .int l3), (4, .int l4)] [] M (xQi (xP M Q))) (hk_l2 : SHk l2 = 9) (h : NX11_game_79 Q B52 l1 l2 l3 l4 l5 l6 M) : xX RX11 cX11_game 7 (some .int) 5 79 [(1, .int l1), (2, .ref l2), (3, .int l3), (4, .int l4), (5, .int l5), (6, .int l6)] [] M (xQi (xP M Q)) := by
  obtain ⟨n, h⟩ := h
  have hB79 : ∀ (n : Nat) (l6 : Int32), xlpn (fun (B : Int32 → Prop) a => lbX11_game_79 Q B52 l1 l2 l3 l4 l5 M (fun l6 => B (l6)) a) n (l6) → xX RX11 cX11_game 7 (some .int) 5 79 [(1, .int l1), (2, .ref l2), (3, .int l3), (4, .int l4), (5, .int l5), (6, .int l6)] [] M (xQi (xP M Q)) := by
    intro n
    induction n with
    | zero => intro l6 h; exact False.elim h
    | succ n ih =>
      intro l6 h
      have hB79 := ih
      have h : lbX11_game_79 Q B52 l1 l2 l3 l4 l5 M (fun l6 => xlpn (fun (B : Int32 → Prop) a => lbX11_game_79 Q B52 l1 l2 l3 l4 l5 M (fun l6 => B (l6)) a) n (l6)) l6 := h
      unfold lbX11_game_79 at h
      refine x_iload dX11_game_79 rfl 81 rfl ?_
      refine x_iload dX11_game_81 rfl 83 rfl ?_
      refine x_icmp_gt dX11_game_83 125 86 rfl rfl (fun hc => ?_) (fun hc => ?_)
      · have h := h.1 hc
        refine x_iinc dX11_game_125 rfl (congrArg (l4 + ·) kc_1) (Nat.le_of_ble_eq_true rfl) [(1, .int l1), (2, .ref l2), (3, .int l3), (4, .int (l4 + 1)), (5, .int l5), (6, .int l6)] rfl 128 rfl ?_
        refine x_goto dX11_game_128 52 rfl ?_
        refine x_weak [(1, .int l1), (2, .ref l2), (3, .int l3), (4, .int (l4 + 1))] [0, 1, 2, 3] rfl ?_
        exact hB52 _ h
      · have h := h.2 hc
        refine x_iload_n dX11_game_86 rfl 87 rfl ?_
        refine x_aload_n dX11_game_87 rfl 88 rfl ?_
        refine x_iload dX11_game_88 rfl 90 rfl ?_
        refine x_iconst dX11_game_90 kc_0 91 rfl ?_
        refine kX9_nimber dX11_game_91 94 rfl hk_l2 kw5_113 (Nat.le_of_ble_eq_true rfl) (Nat.le_of_ble_eq_true rfl) h (fun r1 h => ?_)
        refine x_ixor dX11_game_94 95 rfl ?_
        refine x_aload_n dX11_game_95 rfl 96 rfl ?_
        refine x_iload dX11_game_96 rfl 98 rfl ?_
        refine x_iload dX11_game_98 rfl 100 rfl ?_
        refine kX9_nimber dX11_game_100 103 rfl hk_l2 kw5_113 (Nat.le_of_ble_eq_true rfl) (Nat.le_of_ble_eq_true rfl) h (fun r2 h => ?_)
        refine x_ixor dX11_game_103 104 rfl ?_
        refine x_if_ne dX11_game_104 119 107 rfl rfl (fun hc => ?_) (fun hc => ?_)
        · have h := h.1 hc
          refine x_iinc dX11_game_119 rfl (congrArg (l6 + ·) kc_1) (Nat.le_of_ble_eq_true rfl) [(1, .int l1), (2, .ref l2), (3, .int l3), (4, .int l4), (5, .int l5), (6, .int (l6 + 1))] rfl 122 rfl ?_
          refine x_goto dX11_game_122 79 rfl ?_
          exact hB79 _ h
        · have h := h.2 hc
          refine x_iload_n dX11_game_107 rfl 108 rfl ?_
          refine x_if_ne dX11_game_108 116 111 rfl rfl (fun hc => ?_) (fun hc => ?_)
          · have h := h.1 hc
            refine x_iload dX11_game_116 rfl 118 rfl ?_
            exact x_iret dX11_game_118 ⟨rfl, h⟩
          · have h := h.2 hc
            refine x_iload dX11_game_111 rfl 113 rfl ?_
            refine x_goto dX11_game_113 118 rfl ?_
            exact x_iret dX11_game_118 ⟨rfl, h⟩
  exact hB79 n l6 h
def lbX11_game_52 (Q : Int32 → Prop) (l1 : Int32) (l2 : Nat) (l3 : Int32) (M : Mem) (B52 : Int32 → Prop) (l4 : Int32) : Prop :=
  (((M l2 10) ≤ l4 → Q (-1)) ∧ (¬ (M l2 10) ≤ l4 → FX9_heap (fun (r3 : Int32) => FJ9_min_7cf53 (fun (r4 : Int32) => NX11_game_79 Q B52 l1 l2 l3 l4 r4 1 M) (l4 + 1) r3 M) l2 l4 M))
def NX11_game_52 (Q : Int32 → Prop) (l1 : Int32) (l2 : Nat) (l3 : Int32) (l4 : Int32) (M : Mem) : Prop := xlp (fun (B : Int32 → Prop) a => lbX11_game_52 Q l1 l2 l3 M (fun l4 => B (l4)) a) (l4)
theorem nX11_game_52 {Q : Int32 → Prop} {l1 : Int32} {l2 : Nat} {l3 : Int32} {l4 : Int32} {M : Mem} (hk_l2 : SHk l2 = 9) (h : NX11_game_52 Q l1 l2 l3 l4 M) : xX RX11 cX11_game 7 (some .int) 5 52 [(1, .int l1), (2, .ref l2), (3, .int l3), (4, .int l4)] [] M (xQi (xP M Q)) := by
  obtain ⟨n, h⟩ := h
  have hB52 : ∀ (n : Nat) (l4 : Int32), xlpn (fun (B : Int32 → Prop) a => lbX11_game_52 Q l1 l2 l3 M (fun l4 => B (l4)) a) n (l4) → xX RX11 cX11_game 7 (some .int) 5 52 [(1, .int l1), (2, .ref l2), (3, .int l3), (4, .int l4)] [] M (xQi (xP M Q)) := by
    intro n
    induction n with
    | zero => intro l4 h; exact False.elim h
    | succ n ih =>
      intro l4 h
      have hB52 := ih
      have h : lbX11_game_52 Q l1 l2 l3 M (fun l4 => xlpn (fun (B : Int32 → Prop) a => lbX11_game_52 Q l1 l2 l3 M (fun l4 => B (l4)) a) n (l4)) l4 := h
      unfold lbX11_game_52 at h
      refine x_iload dX11_game_52 rfl 54 rfl ?_
      refine x_aload_n dX11_game_54 rfl 55 rfl ?_
      refine gf9_10 dX11_game_55 58 rfl hk_l2 kw1_69 ?_
      refine x_icmp_ge dX11_game_58 131 61 rfl rfl (fun hc => ?_) (fun hc => ?_)
      · have h := h.1 hc
        refine x_iconst dX11_game_131 kc_m1 132 rfl ?_
        exact x_iret dX11_game_132 ⟨rfl, h⟩
      · have h := h.2 hc
        refine x_iload dX11_game_61 rfl 63 rfl ?_
        refine x_iconst dX11_game_63 kc_1 64 rfl ?_
        refine x_iadd dX11_game_64 65 rfl ?_
        refine x_aload_n dX11_game_65 rfl 66 rfl ?_
        refine x_iload dX11_game_66 rfl 68 rfl ?_
        refine kX9_heap dX11_game_68 71 rfl hk_l2 kw5_122 (Nat.le_of_ble_eq_true rfl) (Nat.le_of_ble_eq_true rfl) h (fun r3 h => ?_)
        refine kJ9_min_7cf53 dX11_game_71 74 rfl kw3_35 (Nat.le_of_ble_eq_true rfl) (Nat.le_of_ble_eq_true rfl) h (fun r4 h => ?_)
        refine x_istore dX11_game_74 (Nat.le_of_ble_eq_true rfl) [(1, .int l1), (2, .ref l2), (3, .int l3), (4, .int l4), (5, .int r4)] rfl 76 rfl ?_
        refine x_iconst dX11_game_76 kc_1 77 rfl ?_
        refine x_istore dX11_game_77 (Nat.le_of_ble_eq_true rfl) [(1, .int l1), (2, .ref l2), (3, .int l3), (4, .int l4), (5, .int r4), (6, .int 1)] rfl 79 rfl ?_
        exact nX11_game_79 hB52 hk_l2 h
  exact hB52 n l4 h
def lbX11_game_24 (Q : Int32 → Prop) (l1 : Int32) (l2 : Nat) (M : Mem) (B24 : Int32 → Int32 → Prop) (l3 : Int32) (l4 : Int32) : Prop :=
  (((M l2 10) ≤ l4 → NX11_game_52 Q l1 l2 l3 0 M) ∧ (¬ (M l2 10) ≤ l4 → FX9_nimber (fun (r5 : Int32) => B24 (l3 ^^^ r5) (l4 + 1)) l2 l4 0 M))
def NX11_game_24 (Q : Int32 → Prop) (l1 : Int32) (l2 : Nat) (l3 : Int32) (l4 : Int32) (M : Mem) : Prop := xlp (fun (B : Int32 × Int32 → Prop) a => lbX11_game_24 Q l1 l2 M (fun l3 l4 => B (l3, l4)) a.1 a.2) (l3, l4)
theorem nX11_game_24 {Q : Int32 → Prop} {l1 : Int32} {l2 : Nat} {l3 : Int32} {l4 : Int32} {M : Mem} (hk_l2 : SHk l2 = 9) (h : NX11_game_24 Q l1 l2 l3 l4 M) : xX RX11 cX11_game 7 (some .int) 5 24 [(1, .int l1), (2, .ref l2), (3, .int l3), (4, .int l4)] [] M (xQi (xP M Q)) := by
  obtain ⟨n, h⟩ := h
  have hB24 : ∀ (n : Nat) (l3 : Int32) (l4 : Int32), xlpn (fun (B : Int32 × Int32 → Prop) a => lbX11_game_24 Q l1 l2 M (fun l3 l4 => B (l3, l4)) a.1 a.2) n (l3, l4) → xX RX11 cX11_game 7 (some .int) 5 24 [(1, .int l1), (2, .ref l2), (3, .int l3), (4, .int l4)] [] M (xQi (xP M Q)) := by
    intro n
    induction n with
    | zero => intro l3 l4 h; exact False.elim h
    | succ n ih =>
      intro l3 l4 h
      have hB24 := ih
      have h : lbX11_game_24 Q l1 l2 M (fun l3 l4 => xlpn (fun (B : Int32 × Int32 → Prop) a => lbX11_game_24 Q l1 l2 M (fun l3 l4 => B (l3, l4)) a.1 a.2) n (l3, l4)) l3 l4 := h
      unfold lbX11_game_24 at h
      refine x_iload dX11_game_24 rfl 26 rfl ?_
      refine x_aload_n dX11_game_26 rfl 27 rfl ?_
      refine gf9_10 dX11_game_27 30 rfl hk_l2 kw1_69 ?_
      refine x_icmp_ge dX11_game_30 49 33 rfl rfl (fun hc => ?_) (fun hc => ?_)
      · have h := h.1 hc
        refine x_iconst dX11_game_49 kc_0 50 rfl ?_
        refine x_istore dX11_game_50 (Nat.le_of_ble_eq_true rfl) [(1, .int l1), (2, .ref l2), (3, .int l3), (4, .int 0)] rfl 52 rfl ?_
        exact nX11_game_52 hk_l2 h
      · have h := h.2 hc
        refine x_iload_n dX11_game_33 rfl 34 rfl ?_
        refine x_aload_n dX11_game_34 rfl 35 rfl ?_
        refine x_iload dX11_game_35 rfl 37 rfl ?_
        refine x_iconst dX11_game_37 kc_0 38 rfl ?_
        refine kX9_nimber dX11_game_38 41 rfl hk_l2 kw5_113 (Nat.le_of_ble_eq_true rfl) (Nat.le_of_ble_eq_true rfl) h (fun r5 h => ?_)
        refine x_ixor dX11_game_41 42 rfl ?_
        refine x_istore_n dX11_game_42 (Nat.le_of_ble_eq_true rfl) [(1, .int l1), (2, .ref l2), (3, .int (l3 ^^^ r5)), (4, .int l4)] rfl 43 rfl ?_
        refine x_iinc dX11_game_43 rfl (congrArg (l4 + ·) kc_1) (Nat.le_of_ble_eq_true rfl) [(1, .int l1), (2, .ref l2), (3, .int (l3 ^^^ r5)), (4, .int (l4 + 1))] rfl 46 rfl ?_
        refine x_goto dX11_game_46 24 rfl ?_
        exact hB24 _ _ h
  exact hB24 n l3 l4 h
def NX11_game_11 (Q : Int32 → Prop) (l0 : Nat) (l1 : Int32) (M : Mem) : Prop :=
  NX11_game_24 Q l1 ((l0 + 1) + 1) 0 0 M
theorem nX11_game_11 {Q : Int32 → Prop} {l0 : Nat} {l1 : Int32} {M : Mem} (hk_l0 : SHk l0 = 11) (h : NX11_game_11 Q l0 l1 M) : xX RX11 cX11_game 7 (some .int) 5 11 [(0, .ref l0), (1, .int l1)] [] M (xQi (xP M Q)) := by
  unfold NX11_game_11 at h
  refine x_aload_n dX11_game_11 rfl 12 rfl ?_
  refine gf11_0 dX11_game_12 15 rfl hk_l0 kw2_148 ?_
  refine gf0_0 dX11_game_15 18 rfl (ly11_0 hk_l0).1 kw2_10 ?_
  refine x_astore_n dX11_game_18 (Nat.le_of_ble_eq_true rfl) [(0, .ref l0), (1, .int l1), (2, .ref ((l0 + 1) + 1))] rfl 19 rfl ?_
  refine x_iconst dX11_game_19 kc_0 20 rfl ?_
  refine x_istore_n dX11_game_20 (Nat.le_of_ble_eq_true rfl) [(0, .ref l0), (1, .int l1), (2, .ref ((l0 + 1) + 1)), (3, .int 0)] rfl 21 rfl ?_
  refine x_iconst dX11_game_21 kc_0 22 rfl ?_
  refine x_istore dX11_game_22 (Nat.le_of_ble_eq_true rfl) [(0, .ref l0), (1, .int l1), (2, .ref ((l0 + 1) + 1)), (3, .int 0), (4, .int 0)] rfl 24 rfl ?_
  refine x_weak [(1, .int l1), (2, .ref ((l0 + 1) + 1)), (3, .int 0), (4, .int 0)] [1, 2, 3, 4] rfl ?_
  exact nX11_game_24 (ly0_0 (ly11_0 hk_l0).1).1 h
def FX11_game (Q : Int32 → Prop) (l0 : Nat) (l1 : Int32) (M : Mem) : Prop :=
  ((l1 = 0 → NX11_game_11 Q l0 l1 M) ∧ (¬ l1 = 0 → ((l1 = 1 → NX11_game_11 Q l0 l1 M) ∧ (¬ l1 = 1 → Q (-1)))))
theorem eX11_game {Q : Int32 → Prop} {l0 : Nat} {l1 : Int32} {M : Mem} (hk_l0 : SHk l0 = 11) (h : FX11_game Q l0 l1 M) : xX RX11 cX11_game 7 (some .int) 5 0 [(0, .ref l0), (1, .int l1)] [] M (xQi (xP M Q)) := by
  unfold FX11_game at h
  refine x_iload_n dX11_game_0 rfl 1 rfl ?_
  refine x_if_eq dX11_game_1 11 4 rfl rfl (fun hc => ?_) (fun hc => ?_)
  · have h := h.1 hc
    exact nX11_game_11 hk_l0 h
  · have h := h.2 hc
    refine x_iload_n dX11_game_4 rfl 5 rfl ?_
    refine x_iconst dX11_game_5 kc_1 6 rfl ?_
    refine x_icmp_eq dX11_game_6 11 9 rfl rfl (fun hc => ?_) (fun hc => ?_)
    · have h := h.1 hc
      exact nX11_game_11 hk_l0 h
    · have h := h.2 hc
      refine x_iconst dX11_game_9 kc_m1 10 rfl ?_
      exact x_iret dX11_game_10 ⟨rfl, h⟩
theorem cX11_game_ {Q : Int32 → Prop} {l0 : Nat} {l1 : Int32} {M : Mem} (hk_l0 : SHk l0 = 11) (h : FX11_game Q l0 l1 M) : xM yX11_game cX11_game 7 (some .int) 5 [.ref l0, .int l1] M (xQi (xP M Q)) := xM_of (by decide +kernel) (Nat.le_of_ble_eq_true rfl) (eX11_game hk_l0 h)
theorem kX11_game {own : String} {cc : ByteArray} {nL : Nat} {rt : Option FieldType} {d pc ix : Nat} {L : List (Nat × Value)} {st : List Value} {M : Mem} {Rt : xGt → Array Value → State → Outcome → State → Prop} {Q : Int32 → Prop} {l0 : Nat} {l1 : Int32} (hd : decode cc pc = .ok (.invokevirtual ix, 3)) (q : Nat) (hq : pc + 3 = q) (hk_l0 : SHk l0 = 11) (w1 : Cond.methodLink own ix yX11_game ∈ xTs) (hr : 5 < d) (hst : (st.map fun v => v.category).sum ≤ 8) (h : FX11_game Q l0 l1 M) (k : ∀ (r : Int32), Q r → xX own cc nL rt d q L (.int r :: st) M Rt) : xX own cc nL rt d pc L (.int l1 :: .ref l0 :: st) M Rt :=
  x_callV_i (n := 1) (As := [.int l1]) hd q hq hk_l0 (by decide) rfl rfl w1 kw5_110 kw5_111 kw1_1 kw5_112 (by decide +kernel) rfl hr (by decide) hst _ rfl (cX11_game_ hk_l0 h) (fun r N hN => by obtain ⟨rfl, hN⟩ := hN; exact k r hN)
def FX11_undo (Q : Bool → Mem → Prop) (l0 : Nat) (M : Mem) : Prop :=
  FX3_goBack (fun (r2 : Bool) (M1 : Mem) => Q r2 M1) (l0 + 77) ((l0 + 1) + 1) M
theorem eX11_undo {Q : Bool → Mem → Prop} {l0 : Nat} {M : Mem} (hk_l0 : SHk l0 = 11) (h : FX11_undo Q l0 M) : xX RX11 cX11_undo 1 (some .boolean) 4 0 [(0, .ref l0)] [] M (xQb Q) := by
  unfold FX11_undo at h
  refine x_aload_n dX11_undo_0 rfl 1 rfl ?_
  refine gf11_3 dX11_undo_1 4 rfl hk_l0 kw2_151 ?_
  refine x_aload_n dX11_undo_4 rfl 5 rfl ?_
  refine gf11_0 dX11_undo_5 8 rfl hk_l0 kw2_148 ?_
  refine gf0_0 dX11_undo_8 11 rfl (ly11_0 hk_l0).1 kw2_10 ?_
  refine kX3_goBack dX11_undo_11 14 rfl (ly11_3 hk_l0).1 (ly0_0 (ly11_0 hk_l0).1).1 kw5_127 (Nat.le_of_ble_eq_true rfl) (Nat.le_of_ble_eq_true rfl) h (fun r2 M1 h => ?_)
  exact x_zret dX11_undo_14 h
theorem cX11_undo_ {Q : Bool → Mem → Prop} {l0 : Nat} {M : Mem} (hk_l0 : SHk l0 = 11) (h : FX11_undo Q l0 M) : xM yX11_undo cX11_undo 1 (some .boolean) 4 [.ref l0] M (xQb Q) := xM_of (by decide +kernel) (Nat.le_of_ble_eq_true rfl) (eX11_undo hk_l0 h)
theorem kX11_undo {own : String} {cc : ByteArray} {nL : Nat} {rt : Option FieldType} {d pc ix : Nat} {L : List (Nat × Value)} {st : List Value} {M : Mem} {Rt : xGt → Array Value → State → Outcome → State → Prop} {Q : Bool → Mem → Prop} {l0 : Nat} (hd : decode cc pc = .ok (.invokevirtual ix, 3)) (q : Nat) (hq : pc + 3 = q) (hk_l0 : SHk l0 = 11) (w1 : Cond.methodLink own ix yX11_undo ∈ xTs) (hr : 4 < d) (hst : (st.map fun v => v.category).sum ≤ 8) (h : FX11_undo Q l0 M) (k : ∀ (r : Bool) (N : Mem), Q r N → xX own cc nL rt d q L (.int (bI r) :: st) N Rt) : xX own cc nL rt d pc L (.ref l0 :: st) M Rt :=
  x_callV_b (n := 0) (As := []) hd q hq hk_l0 (by decide) rfl rfl w1 kw5_124 kw5_125 kw1_1 kw5_126 (by decide +kernel) rfl hr (by decide) hst _ rfl (cX11_undo_ hk_l0 h) k
def FX11_image (Q : Bool → Mem → Prop) (l0 : Nat) (l1 : Int32) (M : Mem) : Prop :=
  ((l1 = 0 → ((¬ (M l0 8) = 0 → FX0_copyFrom (fun (M1 : Mem) => FX3_forget (fun (M2 : Mem) => Q true M2) (l0 + 77) M1) (l0 + 1) (l0 + 34) M) ∧ ((M l0 8) = 0 → Q false M))) ∧ (¬ l1 = 0 → FX0_copyFrom (fun (M3 : Mem) => ∀ M4 : Mem, M4 = xu M3 l0 8 1 → Q true M4) (l0 + 34) (l0 + 1) M))
theorem eX11_image {Q : Bool → Mem → Prop} {l0 : Nat} {l1 : Int32} {M : Mem} (hk_l0 : SHk l0 = 11) (h : FX11_image Q l0 l1 M) : xX RX11 cX11_image 2 (some .boolean) 4 0 [(0, .ref l0), (1, .int l1)] [] M (xQb Q) := by
  unfold FX11_image at h
  refine x_iload_n dX11_image_0 rfl 1 rfl ?_
  refine x_if_eq dX11_image_1 22 4 rfl rfl (fun hc => ?_) (fun hc => ?_)
  · have h := h.1 hc
    refine x_aload_n dX11_image_22 rfl 23 rfl ?_
    refine gf11_8 dX11_image_23 26 rfl hk_l0 kw2_156 ?_
    refine x_if_ne dX11_image_26 31 29 rfl rfl (fun hc => ?_) (fun hc => ?_)
    · have h := h.1 hc
      refine x_aload_n dX11_image_31 rfl 32 rfl ?_
      refine gf11_0 dX11_image_32 35 rfl hk_l0 kw2_148 ?_
      refine x_aload_n dX11_image_35 rfl 36 rfl ?_
      refine gf11_1 dX11_image_36 39 rfl hk_l0 kw2_149 ?_
      refine kX0_copyFrom dX11_image_39 42 rfl (ly11_0 hk_l0).1 (ly11_1 hk_l0).1 kw5_135 (Nat.le_of_ble_eq_true rfl) (Nat.le_of_ble_eq_true rfl) h (fun M1 h => ?_)
      refine x_aload_n dX11_image_42 rfl 43 rfl ?_
      refine gf11_3 dX11_image_43 46 rfl hk_l0 kw2_151 ?_
      refine kX3_forget dX11_image_46 49 rfl (ly11_3 hk_l0).1 kw2_181 (Nat.le_of_ble_eq_true rfl) (Nat.le_of_ble_eq_true rfl) h (fun M2 h => ?_)
      refine x_iconst dX11_image_49 kc_1 50 rfl ?_
      exact x_zret (z := true) dX11_image_50 h
    · have h := h.2 hc
      refine x_iconst dX11_image_29 kc_0 30 rfl ?_
      exact x_zret (z := false) dX11_image_30 h
  · have h := h.2 hc
    refine x_aload_n dX11_image_4 rfl 5 rfl ?_
    refine gf11_1 dX11_image_5 8 rfl hk_l0 kw2_149 ?_
    refine x_aload_n dX11_image_8 rfl 9 rfl ?_
    refine gf11_0 dX11_image_9 12 rfl hk_l0 kw2_148 ?_
    refine kX0_copyFrom dX11_image_12 15 rfl (ly11_1 hk_l0).1 (ly11_0 hk_l0).1 kw5_135 (Nat.le_of_ble_eq_true rfl) (Nat.le_of_ble_eq_true rfl) h (fun M3 h => ?_)
    refine x_aload_n dX11_image_15 rfl 16 rfl ?_
    refine x_iconst dX11_image_16 kc_1 17 rfl ?_
    refine pf11_8 dX11_image_17 20 rfl hk_l0 kw2_156 (Or.inr rfl) (x_mem (fun M4 hM4 => ?_))
    have h := h M4 hM4
    refine x_iconst dX11_image_20 kc_1 21 rfl ?_
    exact x_zret (z := true) dX11_image_21 h
theorem cX11_image_ {Q : Bool → Mem → Prop} {l0 : Nat} {l1 : Int32} {M : Mem} (hk_l0 : SHk l0 = 11) (h : FX11_image Q l0 l1 M) : xM yX11_image cX11_image 2 (some .boolean) 4 [.ref l0, .int l1] M (xQb Q) := xM_of (by decide +kernel) (Nat.le_of_ble_eq_true rfl) (eX11_image hk_l0 h)
theorem kX11_image {own : String} {cc : ByteArray} {nL : Nat} {rt : Option FieldType} {d pc ix : Nat} {L : List (Nat × Value)} {st : List Value} {M : Mem} {Rt : xGt → Array Value → State → Outcome → State → Prop} {Q : Bool → Mem → Prop} {l0 : Nat} {l1 : Int32} (hd : decode cc pc = .ok (.invokevirtual ix, 3)) (q : Nat) (hq : pc + 3 = q) (hk_l0 : SHk l0 = 11) (w1 : Cond.methodLink own ix yX11_image ∈ xTs) (hr : 4 < d) (hst : (st.map fun v => v.category).sum ≤ 8) (h : FX11_image Q l0 l1 M) (k : ∀ (r : Bool) (N : Mem), Q r N → xX own cc nL rt d q L (.int (bI r) :: st) N Rt) : xX own cc nL rt d pc L (.int l1 :: .ref l0 :: st) M Rt :=
  x_callV_b (n := 1) (As := [.int l1]) hd q hq hk_l0 (by decide) rfl rfl w1 kw5_132 kw5_133 kw1_1 kw5_134 (by decide +kernel) rfl hr (by decide) hst _ rfl (cX11_image_ hk_l0 h) k
def FX11_look (Q : Int32 → Prop) (l0 : Nat) (l1 : Int32) (M : Mem) : Prop :=
  ((l1 = 10 → Q (M ((l0 + 1) + 11) 7)) ∧ (l1 = 11 → Q (M ((l0 + 1) + 18) 2)) ∧ (l1 = 12 → Q (M ((l0 + 1) + 21) 4)) ∧ (l1 = 13 → Q (M ((l0 + 1) + 26) 2)) ∧ (l1 = 14 → Q (M ((l0 + 1) + 29) 3)) ∧ (l1 = 15 → Q (M (l0 + 77) 1)) ∧ (¬ l1 = 10 → ¬ l1 = 11 → ¬ l1 = 12 → ¬ l1 = 13 → ¬ l1 = 14 → ¬ l1 = 15 → FX9_shown (fun (r1 : Int32) => Q r1) ((l0 + 1) + 1) l1 M))
theorem eX11_look {Q : Int32 → Prop} {l0 : Nat} {l1 : Int32} {M : Mem} (hk_l0 : SHk l0 = 11) (h : FX11_look Q l0 l1 M) : xX RX11 cX11_look 2 (some .int) 2 0 [(0, .ref l0), (1, .int l1)] [] M (xQi (xP M Q)) := by
  unfold FX11_look at h
  refine x_iload_n dX11_look_0 rfl 1 rfl ?_
  by_cases hc0 : l1 = 10
  · refine x_tab_at dX11_look_1 hc0 (by decide) (by decide) rfl (tg := 40) rfl ?_
    have h := h.1 hc0
    refine x_aload_n dX11_look_40 rfl 41 rfl ?_
    refine gf11_0 dX11_look_41 44 rfl hk_l0 kw2_148 ?_
    refine gf0_1 dX11_look_44 47 rfl (ly11_0 hk_l0).1 kw2_12 ?_
    refine gf2_7 dX11_look_47 50 rfl (ly0_1 (ly11_0 hk_l0).1).1 kw1_151 ?_
    exact x_iret dX11_look_50 ⟨rfl, h⟩
  by_cases hc1 : l1 = 11
  · refine x_tab_at dX11_look_1 hc1 (by decide) (by decide) rfl (tg := 51) rfl ?_
    have h := h.2.1 hc1
    refine x_aload_n dX11_look_51 rfl 52 rfl ?_
    refine gf11_0 dX11_look_52 55 rfl hk_l0 kw2_148 ?_
    refine gf0_2 dX11_look_55 58 rfl (ly11_0 hk_l0).1 kw2_14 ?_
    refine gf6_2 dX11_look_58 61 rfl (ly0_2 (ly11_0 hk_l0).1).1 kw1_179 ?_
    exact x_iret dX11_look_61 ⟨rfl, h⟩
  by_cases hc2 : l1 = 12
  · refine x_tab_at dX11_look_1 hc2 (by decide) (by decide) rfl (tg := 62) rfl ?_
    have h := h.2.2.1 hc2
    refine x_aload_n dX11_look_62 rfl 63 rfl ?_
    refine gf11_0 dX11_look_63 66 rfl hk_l0 kw2_148 ?_
    refine gf0_3 dX11_look_66 69 rfl (ly11_0 hk_l0).1 kw2_16 ?_
    refine gf4_4 dX11_look_69 72 rfl (ly0_3 (ly11_0 hk_l0).1).1 kw1_199 ?_
    exact x_iret dX11_look_72 ⟨rfl, h⟩
  by_cases hc3 : l1 = 13
  · refine x_tab_at dX11_look_1 hc3 (by decide) (by decide) rfl (tg := 73) rfl ?_
    have h := h.2.2.2.1 hc3
    refine x_aload_n dX11_look_73 rfl 74 rfl ?_
    refine gf11_0 dX11_look_74 77 rfl hk_l0 kw2_148 ?_
    refine gf0_4 dX11_look_77 80 rfl (ly11_0 hk_l0).1 kw2_18 ?_
    refine gf7_2 dX11_look_80 83 rfl (ly0_4 (ly11_0 hk_l0).1).1 kw1_221 ?_
    exact x_iret dX11_look_83 ⟨rfl, h⟩
  by_cases hc4 : l1 = 14
  · refine x_tab_at dX11_look_1 hc4 (by decide) (by decide) rfl (tg := 84) rfl ?_
    have h := h.2.2.2.2.1 hc4
    refine x_aload_n dX11_look_84 rfl 85 rfl ?_
    refine gf11_0 dX11_look_85 88 rfl hk_l0 kw2_148 ?_
    refine gf0_5 dX11_look_88 91 rfl (ly11_0 hk_l0).1 kw2_20 ?_
    refine gf10_3 dX11_look_91 94 rfl (ly0_5 (ly11_0 hk_l0).1).1 kw1_239 ?_
    exact x_iret dX11_look_94 ⟨rfl, h⟩
  by_cases hc5 : l1 = 15
  · refine x_tab_at dX11_look_1 hc5 (by decide) (by decide) rfl (tg := 95) rfl ?_
    have h := h.2.2.2.2.2.1 hc5
    refine x_aload_n dX11_look_95 rfl 96 rfl ?_
    refine gf11_3 dX11_look_96 99 rfl hk_l0 kw2_151 ?_
    refine gf3_1 dX11_look_99 102 rfl (ly11_3 hk_l0).1 kw2_47 ?_
    exact x_iret dX11_look_102 ⟨rfl, h⟩
  have h := h.2.2.2.2.2.2 hc0 hc1 hc2 hc3 hc4 hc5
  refine x_tab_out dX11_look_1 (by have a0 := lv_neT hc0 (a := 10) (by decide); have a1 := lv_neT hc1 (a := 11) (by decide); have a2 := lv_neT hc2 (a := 12) (by decide); have a3 := lv_neT hc3 (a := 13) (by decide); have a4 := lv_neT hc4 (a := 14) (by decide); have a5 := lv_neT hc5 (a := 15) (by decide); show (l1 : Int32).toInt < 10 ∨ 15 < (l1 : Int32).toInt; omega) (tg := 103) rfl ?_
  refine x_aload_n dX11_look_103 rfl 104 rfl ?_
  refine gf11_0 dX11_look_104 107 rfl hk_l0 kw2_148 ?_
  refine gf0_0 dX11_look_107 110 rfl (ly11_0 hk_l0).1 kw2_10 ?_
  refine x_iload_n dX11_look_110 rfl 111 rfl ?_
  refine kX9_shown dX11_look_111 114 rfl (ly0_0 (ly11_0 hk_l0).1).1 kw5_149 (Nat.le_of_ble_eq_true rfl) (Nat.le_of_ble_eq_true rfl) h (fun r1 h => ?_)
  exact x_iret dX11_look_114 ⟨rfl, h⟩
theorem cX11_look_ {Q : Int32 → Prop} {l0 : Nat} {l1 : Int32} {M : Mem} (hk_l0 : SHk l0 = 11) (h : FX11_look Q l0 l1 M) : xM yX11_look cX11_look 2 (some .int) 2 [.ref l0, .int l1] M (xQi (xP M Q)) := xM_of (by decide +kernel) (Nat.le_of_ble_eq_true rfl) (eX11_look hk_l0 h)
theorem kX11_look {own : String} {cc : ByteArray} {nL : Nat} {rt : Option FieldType} {d pc ix : Nat} {L : List (Nat × Value)} {st : List Value} {M : Mem} {Rt : xGt → Array Value → State → Outcome → State → Prop} {Q : Int32 → Prop} {l0 : Nat} {l1 : Int32} (hd : decode cc pc = .ok (.invokevirtual ix, 3)) (q : Nat) (hq : pc + 3 = q) (hk_l0 : SHk l0 = 11) (w1 : Cond.methodLink own ix yX11_look ∈ xTs) (hr : 2 < d) (hst : (st.map fun v => v.category).sum ≤ 8) (h : FX11_look Q l0 l1 M) (k : ∀ (r : Int32), Q r → xX own cc nL rt d q L (.int r :: st) M Rt) : xX own cc nL rt d pc L (.int l1 :: .ref l0 :: st) M Rt :=
  x_callV_i (n := 1) (As := [.int l1]) hd q hq hk_l0 (by decide) rfl rfl w1 kw5_146 kw5_147 kw1_1 kw5_148 (by decide +kernel) rfl hr (by decide) hst _ rfl (cX11_look_ hk_l0 h) (fun r N hN => by obtain ⟨rfl, hN⟩ := hN; exact k r hN)
def FX12_isIn (Q : Bool → Prop) (l0 : Nat) (l1 : Int32) (l2 : Int32) (l3 : Int32) (M : Mem) : Prop :=
  ((l1 < l2 → Q false) ∧ (¬ l1 < l2 → ((l3 < l1 → Q false) ∧ (¬ l3 < l1 → Q true))))
theorem eX12_isIn {Q : Bool → Prop} {l0 : Nat} {l1 : Int32} {l2 : Int32} {l3 : Int32} {M : Mem} (hk_l0 : SHk l0 = 12) (h : FX12_isIn Q l0 l1 l2 l3 M) : xX RX12 cX12_isIn 4 (some .boolean) 1 0 [(0, .ref l0), (1, .int l1), (2, .int l2), (3, .int l3)] [] M (xQb (xP M Q)) := by
  unfold FX12_isIn at h
  refine x_iload_n dX12_isIn_0 rfl 1 rfl ?_
  refine x_iload_n dX12_isIn_1 rfl 2 rfl ?_
  refine x_icmp_lt dX12_isIn_2 14 5 rfl rfl (fun hc => ?_) (fun hc => ?_)
  · have h := h.1 hc
    refine x_iconst dX12_isIn_14 kc_0 15 rfl ?_
    exact x_zret (z := false) dX12_isIn_15 ⟨rfl, h⟩
  · have h := h.2 hc
    refine x_iload_n dX12_isIn_5 rfl 6 rfl ?_
    refine x_iload_n dX12_isIn_6 rfl 7 rfl ?_
    refine x_icmp_gt dX12_isIn_7 14 10 rfl rfl (fun hc => ?_) (fun hc => ?_)
    · have h := h.1 hc
      refine x_iconst dX12_isIn_14 kc_0 15 rfl ?_
      exact x_zret (z := false) dX12_isIn_15 ⟨rfl, h⟩
    · have h := h.2 hc
      refine x_iconst dX12_isIn_10 kc_1 11 rfl ?_
      refine x_goto dX12_isIn_11 15 rfl ?_
      exact x_zret (z := true) dX12_isIn_15 ⟨rfl, h⟩
theorem cX12_isIn_ {Q : Bool → Prop} {l0 : Nat} {l1 : Int32} {l2 : Int32} {l3 : Int32} {M : Mem} (hk_l0 : SHk l0 = 12) (h : FX12_isIn Q l0 l1 l2 l3 M) : xM yX12_isIn cX12_isIn 4 (some .boolean) 1 [.ref l0, .int l1, .int l2, .int l3] M (xQb (xP M Q)) := xM_of (by decide +kernel) (Nat.le_of_ble_eq_true rfl) (eX12_isIn hk_l0 h)
theorem kX12_isIn {own : String} {cc : ByteArray} {nL : Nat} {rt : Option FieldType} {d pc ix : Nat} {L : List (Nat × Value)} {st : List Value} {M : Mem} {Rt : xGt → Array Value → State → Outcome → State → Prop} {Q : Bool → Prop} {l0 : Nat} {l1 : Int32} {l2 : Int32} {l3 : Int32} (hd : decode cc pc = .ok (.invokevirtual ix, 3)) (q : Nat) (hq : pc + 3 = q) (hk_l0 : SHk l0 = 12) (w1 : Cond.methodLink own ix yX12_isIn ∈ xTs) (hr : 1 < d) (hst : (st.map fun v => v.category).sum ≤ 8) (h : FX12_isIn Q l0 l1 l2 l3 M) (k : ∀ (r : Bool), Q r → xX own cc nL rt d q L (.int (bI r) :: st) M Rt) : xX own cc nL rt d pc L (.int l3 :: .int l2 :: .int l1 :: .ref l0 :: st) M Rt :=
  x_callV_b (n := 3) (As := [.int l1, .int l2, .int l3]) hd q hq hk_l0 (by decide) rfl rfl w1 kw6_84 ks3_1 kw1_14 kw6_85 (by decide +kernel) rfl hr (by decide) hst _ rfl (cX12_isIn_ hk_l0 h) (fun r N hN => by obtain ⟨rfl, hN⟩ := hN; exact k r hN)
def FX12_held (Q : Int32 → Prop) (l0 : Nat) (l1 : Int32) (l2 : Int32) (l3 : Int32) (M : Mem) : Prop :=
  ((l2 ≤ l1 → ((l1 ≤ l3 → Q l1) ∧ (¬ l1 ≤ l3 → Q l3))) ∧ (¬ l2 ≤ l1 → Q l2))
theorem eX12_held {Q : Int32 → Prop} {l0 : Nat} {l1 : Int32} {l2 : Int32} {l3 : Int32} {M : Mem} (hk_l0 : SHk l0 = 12) (h : FX12_held Q l0 l1 l2 l3 M) : xX RX12 cX12_held 4 (some .int) 1 0 [(0, .ref l0), (1, .int l1), (2, .int l2), (3, .int l3)] [] M (xQi (xP M Q)) := by
  unfold FX12_held at h
  refine x_iload_n dX12_held_0 rfl 1 rfl ?_
  refine x_iload_n dX12_held_1 rfl 2 rfl ?_
  refine x_icmp_ge dX12_held_2 9 5 rfl rfl (fun hc => ?_) (fun hc => ?_)
  · have h := h.1 hc
    refine x_iload_n dX12_held_9 rfl 10 rfl ?_
    refine x_iload_n dX12_held_10 rfl 11 rfl ?_
    refine x_icmp_le dX12_held_11 18 14 rfl rfl (fun hc => ?_) (fun hc => ?_)
    · have h := h.1 hc
      refine x_iload_n dX12_held_18 rfl 19 rfl ?_
      exact x_iret dX12_held_19 ⟨rfl, h⟩
    · have h := h.2 hc
      refine x_iload_n dX12_held_14 rfl 15 rfl ?_
      refine x_goto dX12_held_15 19 rfl ?_
      exact x_iret dX12_held_19 ⟨rfl, h⟩
  · have h := h.2 hc
    refine x_iload_n dX12_held_5 rfl 6 rfl ?_
    refine x_goto dX12_held_6 19 rfl ?_
    exact x_iret dX12_held_19 ⟨rfl, h⟩
theorem cX12_held_ {Q : Int32 → Prop} {l0 : Nat} {l1 : Int32} {l2 : Int32} {l3 : Int32} {M : Mem} (hk_l0 : SHk l0 = 12) (h : FX12_held Q l0 l1 l2 l3 M) : xM yX12_held cX12_held 4 (some .int) 1 [.ref l0, .int l1, .int l2, .int l3] M (xQi (xP M Q)) := xM_of (by decide +kernel) (Nat.le_of_ble_eq_true rfl) (eX12_held hk_l0 h)
theorem kX12_held {own : String} {cc : ByteArray} {nL : Nat} {rt : Option FieldType} {d pc ix : Nat} {L : List (Nat × Value)} {st : List Value} {M : Mem} {Rt : xGt → Array Value → State → Outcome → State → Prop} {Q : Int32 → Prop} {l0 : Nat} {l1 : Int32} {l2 : Int32} {l3 : Int32} (hd : decode cc pc = .ok (.invokevirtual ix, 3)) (q : Nat) (hq : pc + 3 = q) (hk_l0 : SHk l0 = 12) (w1 : Cond.methodLink own ix yX12_held ∈ xTs) (hr : 1 < d) (hst : (st.map fun v => v.category).sum ≤ 8) (h : FX12_held Q l0 l1 l2 l3 M) (k : ∀ (r : Int32), Q r → xX own cc nL rt d q L (.int r :: st) M Rt) : xX own cc nL rt d pc L (.int l3 :: .int l2 :: .int l1 :: .ref l0 :: st) M Rt :=
  x_callV_i (n := 3) (As := [.int l1, .int l2, .int l3]) hd q hq hk_l0 (by decide) rfl rfl w1 kw7_128 ks7_0 kw1_14 kw7_129 (by decide +kernel) rfl hr (by decide) hst _ rfl (cX12_held_ hk_l0 h) (fun r N hN => by obtain ⟨rfl, hN⟩ := hN; exact k r hN)
def FX12_greater (Q : Int32 → Prop) (l0 : Nat) (l1 : Int32) (l2 : Int32) (M : Mem) : Prop :=
  ((l1 ≤ l2 → Q l2) ∧ (¬ l1 ≤ l2 → Q l1))
theorem eX12_greater {Q : Int32 → Prop} {l0 : Nat} {l1 : Int32} {l2 : Int32} {M : Mem} (hk_l0 : SHk l0 = 12) (h : FX12_greater Q l0 l1 l2 M) : xX RX12 cX12_greater 3 (some .int) 1 0 [(0, .ref l0), (1, .int l1), (2, .int l2)] [] M (xQi (xP M Q)) := by
  unfold FX12_greater at h
  refine x_iload_n dX12_greater_0 rfl 1 rfl ?_
  refine x_iload_n dX12_greater_1 rfl 2 rfl ?_
  refine x_icmp_le dX12_greater_2 9 5 rfl rfl (fun hc => ?_) (fun hc => ?_)
  · have h := h.1 hc
    refine x_iload_n dX12_greater_9 rfl 10 rfl ?_
    exact x_iret dX12_greater_10 ⟨rfl, h⟩
  · have h := h.2 hc
    refine x_iload_n dX12_greater_5 rfl 6 rfl ?_
    refine x_goto dX12_greater_6 10 rfl ?_
    exact x_iret dX12_greater_10 ⟨rfl, h⟩
theorem cX12_greater_ {Q : Int32 → Prop} {l0 : Nat} {l1 : Int32} {l2 : Int32} {M : Mem} (hk_l0 : SHk l0 = 12) (h : FX12_greater Q l0 l1 l2 M) : xM yX12_greater cX12_greater 3 (some .int) 1 [.ref l0, .int l1, .int l2] M (xQi (xP M Q)) := xM_of (by decide +kernel) (Nat.le_of_ble_eq_true rfl) (eX12_greater hk_l0 h)
theorem kX12_greater {own : String} {cc : ByteArray} {nL : Nat} {rt : Option FieldType} {d pc ix : Nat} {L : List (Nat × Value)} {st : List Value} {M : Mem} {Rt : xGt → Array Value → State → Outcome → State → Prop} {Q : Int32 → Prop} {l0 : Nat} {l1 : Int32} {l2 : Int32} (hd : decode cc pc = .ok (.invokevirtual ix, 3)) (q : Nat) (hq : pc + 3 = q) (hk_l0 : SHk l0 = 12) (w1 : Cond.methodLink own ix yX12_greater ∈ xTs) (hr : 1 < d) (hst : (st.map fun v => v.category).sum ≤ 8) (h : FX12_greater Q l0 l1 l2 M) (k : ∀ (r : Int32), Q r → xX own cc nL rt d q L (.int r :: st) M Rt) : xX own cc nL rt d pc L (.int l2 :: .int l1 :: .ref l0 :: st) M Rt :=
  x_callV_i (n := 2) (As := [.int l1, .int l2]) hd q hq hk_l0 (by decide) rfl rfl w1 kw7_132 ks7_1 kw1_14 kw7_133 (by decide +kernel) rfl hr (by decide) hst _ rfl (cX12_greater_ hk_l0 h) (fun r N hN => by obtain ⟨rfl, hN⟩ := hN; exact k r hN)
def FX12_lesser (Q : Int32 → Prop) (l0 : Nat) (l1 : Int32) (l2 : Int32) (M : Mem) : Prop :=
  ((l2 ≤ l1 → Q l2) ∧ (¬ l2 ≤ l1 → Q l1))
theorem eX12_lesser {Q : Int32 → Prop} {l0 : Nat} {l1 : Int32} {l2 : Int32} {M : Mem} (hk_l0 : SHk l0 = 12) (h : FX12_lesser Q l0 l1 l2 M) : xX RX12 cX12_lesser 3 (some .int) 1 0 [(0, .ref l0), (1, .int l1), (2, .int l2)] [] M (xQi (xP M Q)) := by
  unfold FX12_lesser at h
  refine x_iload_n dX12_lesser_0 rfl 1 rfl ?_
  refine x_iload_n dX12_lesser_1 rfl 2 rfl ?_
  refine x_icmp_ge dX12_lesser_2 9 5 rfl rfl (fun hc => ?_) (fun hc => ?_)
  · have h := h.1 hc
    refine x_iload_n dX12_lesser_9 rfl 10 rfl ?_
    exact x_iret dX12_lesser_10 ⟨rfl, h⟩
  · have h := h.2 hc
    refine x_iload_n dX12_lesser_5 rfl 6 rfl ?_
    refine x_goto dX12_lesser_6 10 rfl ?_
    exact x_iret dX12_lesser_10 ⟨rfl, h⟩
theorem cX12_lesser_ {Q : Int32 → Prop} {l0 : Nat} {l1 : Int32} {l2 : Int32} {M : Mem} (hk_l0 : SHk l0 = 12) (h : FX12_lesser Q l0 l1 l2 M) : xM yX12_lesser cX12_lesser 3 (some .int) 1 [.ref l0, .int l1, .int l2] M (xQi (xP M Q)) := xM_of (by decide +kernel) (Nat.le_of_ble_eq_true rfl) (eX12_lesser hk_l0 h)
theorem kX12_lesser {own : String} {cc : ByteArray} {nL : Nat} {rt : Option FieldType} {d pc ix : Nat} {L : List (Nat × Value)} {st : List Value} {M : Mem} {Rt : xGt → Array Value → State → Outcome → State → Prop} {Q : Int32 → Prop} {l0 : Nat} {l1 : Int32} {l2 : Int32} (hd : decode cc pc = .ok (.invokevirtual ix, 3)) (q : Nat) (hq : pc + 3 = q) (hk_l0 : SHk l0 = 12) (w1 : Cond.methodLink own ix yX12_lesser ∈ xTs) (hr : 1 < d) (hst : (st.map fun v => v.category).sum ≤ 8) (h : FX12_lesser Q l0 l1 l2 M) (k : ∀ (r : Int32), Q r → xX own cc nL rt d q L (.int r :: st) M Rt) : xX own cc nL rt d pc L (.int l2 :: .int l1 :: .ref l0 :: st) M Rt :=
  x_callV_i (n := 2) (As := [.int l1, .int l2]) hd q hq hk_l0 (by decide) rfl rfl w1 kw7_64 ks6_1 kw1_14 kw7_65 (by decide +kernel) rfl hr (by decide) hst _ rfl (cX12_lesser_ hk_l0 h) (fun r N hN => by obtain ⟨rfl, hN⟩ := hN; exact k r hN)
def FX12_far (Q : Int32 → Prop) (l0 : Nat) (l1 : Int32) (l2 : Int32) (M : Mem) : Prop :=
  ((l1 ≤ l2 → Q (l2 - l1)) ∧ (¬ l1 ≤ l2 → Q (l1 - l2)))
theorem eX12_far {Q : Int32 → Prop} {l0 : Nat} {l1 : Int32} {l2 : Int32} {M : Mem} (hk_l0 : SHk l0 = 12) (h : FX12_far Q l0 l1 l2 M) : xX RX12 cX12_far 3 (some .int) 1 0 [(0, .ref l0), (1, .int l1), (2, .int l2)] [] M (xQi (xP M Q)) := by
  unfold FX12_far at h
  refine x_iload_n dX12_far_0 rfl 1 rfl ?_
  refine x_iload_n dX12_far_1 rfl 2 rfl ?_
  refine x_icmp_le dX12_far_2 11 5 rfl rfl (fun hc => ?_) (fun hc => ?_)
  · have h := h.1 hc
    refine x_iload_n dX12_far_11 rfl 12 rfl ?_
    refine x_iload_n dX12_far_12 rfl 13 rfl ?_
    refine x_isub dX12_far_13 14 rfl ?_
    exact x_iret dX12_far_14 ⟨rfl, h⟩
  · have h := h.2 hc
    refine x_iload_n dX12_far_5 rfl 6 rfl ?_
    refine x_iload_n dX12_far_6 rfl 7 rfl ?_
    refine x_isub dX12_far_7 8 rfl ?_
    refine x_goto dX12_far_8 14 rfl ?_
    exact x_iret dX12_far_14 ⟨rfl, h⟩
theorem cX12_far_ {Q : Int32 → Prop} {l0 : Nat} {l1 : Int32} {l2 : Int32} {M : Mem} (hk_l0 : SHk l0 = 12) (h : FX12_far Q l0 l1 l2 M) : xM yX12_far cX12_far 3 (some .int) 1 [.ref l0, .int l1, .int l2] M (xQi (xP M Q)) := xM_of (by decide +kernel) (Nat.le_of_ble_eq_true rfl) (eX12_far hk_l0 h)
theorem kX12_far {own : String} {cc : ByteArray} {nL : Nat} {rt : Option FieldType} {d pc ix : Nat} {L : List (Nat × Value)} {st : List Value} {M : Mem} {Rt : xGt → Array Value → State → Outcome → State → Prop} {Q : Int32 → Prop} {l0 : Nat} {l1 : Int32} {l2 : Int32} (hd : decode cc pc = .ok (.invokevirtual ix, 3)) (q : Nat) (hq : pc + 3 = q) (hk_l0 : SHk l0 = 12) (w1 : Cond.methodLink own ix yX12_far ∈ xTs) (hr : 1 < d) (hst : (st.map fun v => v.category).sum ≤ 8) (h : FX12_far Q l0 l1 l2 M) (k : ∀ (r : Int32), Q r → xX own cc nL rt d q L (.int r :: st) M Rt) : xX own cc nL rt d pc L (.int l2 :: .int l1 :: .ref l0 :: st) M Rt :=
  x_callV_i (n := 2) (As := [.int l1, .int l2]) hd q hq hk_l0 (by decide) rfl rfl w1 kw8_4 ks8_2 kw1_14 kw8_5 (by decide +kernel) rfl hr (by decide) hst _ rfl (cX12_far_ hk_l0 h) (fun r N hN => by obtain ⟨rfl, hN⟩ := hN; exact k r hN)
def FX12_partOf (Q : Int32 → Prop) (l0 : Nat) (l1 : Int32) (l2 : Int32) (M : Mem) : Prop :=
  ((l1 < 0 → (¬ (l2 : Int32) = 0) ∧ Q (-(((l2 - 1) - l1) / l2))) ∧ (¬ l1 < 0 → (¬ (l2 : Int32) = 0) ∧ Q (l1 / l2)))
theorem eX12_partOf {Q : Int32 → Prop} {l0 : Nat} {l1 : Int32} {l2 : Int32} {M : Mem} (hk_l0 : SHk l0 = 12) (h : FX12_partOf Q l0 l1 l2 M) : xX RX12 cX12_partOf 3 (some .int) 1 0 [(0, .ref l0), (1, .int l1), (2, .int l2)] [] M (xQi (xP M Q)) := by
  unfold FX12_partOf at h
  refine x_iload_n dX12_partOf_0 rfl 1 rfl ?_
  refine x_if_lt dX12_partOf_1 10 4 rfl rfl (fun hc => ?_) (fun hc => ?_)
  · have h := h.1 hc
    refine x_iload_n dX12_partOf_10 rfl 11 rfl ?_
    refine x_iconst dX12_partOf_11 kc_1 12 rfl ?_
    refine x_isub dX12_partOf_12 13 rfl ?_
    refine x_iload_n dX12_partOf_13 rfl 14 rfl ?_
    refine x_isub dX12_partOf_14 15 rfl ?_
    refine x_iload_n dX12_partOf_15 rfl 16 rfl ?_
    obtain ⟨hne, h⟩ := h
    refine x_idiv dX12_partOf_16 hne 17 rfl ?_
    refine x_ineg dX12_partOf_17 18 rfl ?_
    exact x_iret dX12_partOf_18 ⟨rfl, h⟩
  · have h := h.2 hc
    refine x_iload_n dX12_partOf_4 rfl 5 rfl ?_
    refine x_iload_n dX12_partOf_5 rfl 6 rfl ?_
    obtain ⟨hne, h⟩ := h
    refine x_idiv dX12_partOf_6 hne 7 rfl ?_
    refine x_goto dX12_partOf_7 18 rfl ?_
    exact x_iret dX12_partOf_18 ⟨rfl, h⟩
theorem cX12_partOf_ {Q : Int32 → Prop} {l0 : Nat} {l1 : Int32} {l2 : Int32} {M : Mem} (hk_l0 : SHk l0 = 12) (h : FX12_partOf Q l0 l1 l2 M) : xM yX12_partOf cX12_partOf 3 (some .int) 1 [.ref l0, .int l1, .int l2] M (xQi (xP M Q)) := xM_of (by decide +kernel) (Nat.le_of_ble_eq_true rfl) (eX12_partOf hk_l0 h)
theorem kX12_partOf {own : String} {cc : ByteArray} {nL : Nat} {rt : Option FieldType} {d pc ix : Nat} {L : List (Nat × Value)} {st : List Value} {M : Mem} {Rt : xGt → Array Value → State → Outcome → State → Prop} {Q : Int32 → Prop} {l0 : Nat} {l1 : Int32} {l2 : Int32} (hd : decode cc pc = .ok (.invokevirtual ix, 3)) (q : Nat) (hq : pc + 3 = q) (hk_l0 : SHk l0 = 12) (w1 : Cond.methodLink own ix yX12_partOf ∈ xTs) (hr : 1 < d) (hst : (st.map fun v => v.category).sum ≤ 8) (h : FX12_partOf Q l0 l1 l2 M) (k : ∀ (r : Int32), Q r → xX own cc nL rt d q L (.int r :: st) M Rt) : xX own cc nL rt d pc L (.int l2 :: .int l1 :: .ref l0 :: st) M Rt :=
  x_callV_i (n := 2) (As := [.int l1, .int l2]) hd q hq hk_l0 (by decide) rfl rfl w1 kw7_148 ks7_5 kw1_14 kw7_149 (by decide +kernel) rfl hr (by decide) hst _ rfl (cX12_partOf_ hk_l0 h) (fun r N hN => by obtain ⟨rfl, hN⟩ := hN; exact k r hN)
def lbX12_onesOf_4 (Q : Int32 → Prop) (M : Mem) (B4 : Int32 → Int32 → Prop) (l2 : Int32) (l3 : Int32) : Prop :=
  ((l3 = 0 → Q l2) ∧ (¬ l3 = 0 → B4 (l2 + 1) (l3 &&& (l3 - 1))))
def NX12_onesOf_4 (Q : Int32 → Prop) (l2 : Int32) (l3 : Int32) (M : Mem) : Prop := xlp (fun (B : Int32 × Int32 → Prop) a => lbX12_onesOf_4 Q M (fun l2 l3 => B (l2, l3)) a.1 a.2) (l2, l3)
theorem nX12_onesOf_4 {Q : Int32 → Prop} {l2 : Int32} {l3 : Int32} {M : Mem} (h : NX12_onesOf_4 Q l2 l3 M) : xX RX12 cX12_onesOf 4 (some .int) 1 4 [(2, .int l2), (3, .int l3)] [] M (xQi (xP M Q)) := by
  obtain ⟨n, h⟩ := h
  have hB4 : ∀ (n : Nat) (l2 : Int32) (l3 : Int32), xlpn (fun (B : Int32 × Int32 → Prop) a => lbX12_onesOf_4 Q M (fun l2 l3 => B (l2, l3)) a.1 a.2) n (l2, l3) → xX RX12 cX12_onesOf 4 (some .int) 1 4 [(2, .int l2), (3, .int l3)] [] M (xQi (xP M Q)) := by
    intro n
    induction n with
    | zero => intro l2 l3 h; exact False.elim h
    | succ n ih =>
      intro l2 l3 h
      have hB4 := ih
      have h : lbX12_onesOf_4 Q M (fun l2 l3 => xlpn (fun (B : Int32 × Int32 → Prop) a => lbX12_onesOf_4 Q M (fun l2 l3 => B (l2, l3)) a.1 a.2) n (l2, l3)) l2 l3 := h
      unfold lbX12_onesOf_4 at h
      refine x_iload_n dX12_onesOf_4 rfl 5 rfl ?_
      refine x_if_eq dX12_onesOf_5 21 8 rfl rfl (fun hc => ?_) (fun hc => ?_)
      · have h := h.1 hc
        refine x_iload_n dX12_onesOf_21 rfl 22 rfl ?_
        exact x_iret dX12_onesOf_22 ⟨rfl, h⟩
      · have h := h.2 hc
        refine x_iload_n dX12_onesOf_8 rfl 9 rfl ?_
        refine x_iconst dX12_onesOf_9 kc_1 10 rfl ?_
        refine x_iadd dX12_onesOf_10 11 rfl ?_
        refine x_istore_n dX12_onesOf_11 (Nat.le_of_ble_eq_true rfl) [(2, .int (l2 + 1)), (3, .int l3)] rfl 12 rfl ?_
        refine x_iload_n dX12_onesOf_12 rfl 13 rfl ?_
        refine x_iload_n dX12_onesOf_13 rfl 14 rfl ?_
        refine x_iconst dX12_onesOf_14 kc_1 15 rfl ?_
        refine x_isub dX12_onesOf_15 16 rfl ?_
        refine x_iand dX12_onesOf_16 17 rfl ?_
        refine x_istore_n dX12_onesOf_17 (Nat.le_of_ble_eq_true rfl) [(2, .int (l2 + 1)), (3, .int (l3 &&& (l3 - 1)))] rfl 18 rfl ?_
        refine x_goto dX12_onesOf_18 4 rfl ?_
        exact hB4 _ _ h
  exact hB4 n l2 l3 h
def FX12_onesOf (Q : Int32 → Prop) (l0 : Nat) (l1 : Int32) (M : Mem) : Prop :=
  NX12_onesOf_4 Q 0 l1 M
theorem eX12_onesOf {Q : Int32 → Prop} {l0 : Nat} {l1 : Int32} {M : Mem} (hk_l0 : SHk l0 = 12) (h : FX12_onesOf Q l0 l1 M) : xX RX12 cX12_onesOf 4 (some .int) 1 0 [(0, .ref l0), (1, .int l1)] [] M (xQi (xP M Q)) := by
  unfold FX12_onesOf at h
  refine x_iconst dX12_onesOf_0 kc_0 1 rfl ?_
  refine x_istore_n dX12_onesOf_1 (Nat.le_of_ble_eq_true rfl) [(0, .ref l0), (1, .int l1), (2, .int 0)] rfl 2 rfl ?_
  refine x_iload_n dX12_onesOf_2 rfl 3 rfl ?_
  refine x_istore_n dX12_onesOf_3 (Nat.le_of_ble_eq_true rfl) [(0, .ref l0), (1, .int l1), (2, .int 0), (3, .int l1)] rfl 4 rfl ?_
  refine x_weak [(2, .int 0), (3, .int l1)] [2, 3] rfl ?_
  exact nX12_onesOf_4 h
theorem cX12_onesOf_ {Q : Int32 → Prop} {l0 : Nat} {l1 : Int32} {M : Mem} (hk_l0 : SHk l0 = 12) (h : FX12_onesOf Q l0 l1 M) : xM yX12_onesOf cX12_onesOf 4 (some .int) 1 [.ref l0, .int l1] M (xQi (xP M Q)) := xM_of (by decide +kernel) (Nat.le_of_ble_eq_true rfl) (eX12_onesOf hk_l0 h)
theorem kX12_onesOf {own : String} {cc : ByteArray} {nL : Nat} {rt : Option FieldType} {d pc ix : Nat} {L : List (Nat × Value)} {st : List Value} {M : Mem} {Rt : xGt → Array Value → State → Outcome → State → Prop} {Q : Int32 → Prop} {l0 : Nat} {l1 : Int32} (hd : decode cc pc = .ok (.invokevirtual ix, 3)) (q : Nat) (hq : pc + 3 = q) (hk_l0 : SHk l0 = 12) (w1 : Cond.methodLink own ix yX12_onesOf ∈ xTs) (hr : 1 < d) (hst : (st.map fun v => v.category).sum ≤ 8) (h : FX12_onesOf Q l0 l1 M) (k : ∀ (r : Int32), Q r → xX own cc nL rt d q L (.int r :: st) M Rt) : xX own cc nL rt d pc L (.int l1 :: .ref l0 :: st) M Rt :=
  x_callV_i (n := 1) (As := [.int l1]) hd q hq hk_l0 (by decide) rfl rfl w1 kw7_202 ks7_13 kw1_14 kw7_203 (by decide +kernel) rfl hr (by decide) hst _ rfl (cX12_onesOf_ hk_l0 h) (fun r N hN => by obtain ⟨rfl, hN⟩ := hN; exact k r hN)
def FX12_has (Q : Bool → Prop) (l0 : Nat) (l1 : Int32) (l2 : Int32) (M : Mem) : Prop :=
  ((¬ ((l1 >>> (l2 &&& 31)) &&& 1) = 1 → Q false) ∧ (((l1 >>> (l2 &&& 31)) &&& 1) = 1 → Q true))
theorem eX12_has {Q : Bool → Prop} {l0 : Nat} {l1 : Int32} {l2 : Int32} {M : Mem} (hk_l0 : SHk l0 = 12) (h : FX12_has Q l0 l1 l2 M) : xX RX12 cX12_has 3 (some .boolean) 1 0 [(0, .ref l0), (1, .int l1), (2, .int l2)] [] M (xQb (xP M Q)) := by
  unfold FX12_has at h
  refine x_iload_n dX12_has_0 rfl 1 rfl ?_
  refine x_iload_n dX12_has_1 rfl 2 rfl ?_
  refine x_ishr dX12_has_2 3 rfl ?_
  refine x_iconst dX12_has_3 kc_1 4 rfl ?_
  refine x_iand dX12_has_4 5 rfl ?_
  refine x_iconst dX12_has_5 kc_1 6 rfl ?_
  refine x_icmp_ne dX12_has_6 13 9 rfl rfl (fun hc => ?_) (fun hc => ?_)
  · have h := h.1 hc
    refine x_iconst dX12_has_13 kc_0 14 rfl ?_
    exact x_zret (z := false) dX12_has_14 ⟨rfl, h⟩
  · have h := h.2 hc
    refine x_iconst dX12_has_9 kc_1 10 rfl ?_
    refine x_goto dX12_has_10 14 rfl ?_
    exact x_zret (z := true) dX12_has_14 ⟨rfl, h⟩
theorem cX12_has_ {Q : Bool → Prop} {l0 : Nat} {l1 : Int32} {l2 : Int32} {M : Mem} (hk_l0 : SHk l0 = 12) (h : FX12_has Q l0 l1 l2 M) : xM yX12_has cX12_has 3 (some .boolean) 1 [.ref l0, .int l1, .int l2] M (xQb (xP M Q)) := xM_of (by decide +kernel) (Nat.le_of_ble_eq_true rfl) (eX12_has hk_l0 h)
theorem kX12_has {own : String} {cc : ByteArray} {nL : Nat} {rt : Option FieldType} {d pc ix : Nat} {L : List (Nat × Value)} {st : List Value} {M : Mem} {Rt : xGt → Array Value → State → Outcome → State → Prop} {Q : Bool → Prop} {l0 : Nat} {l1 : Int32} {l2 : Int32} (hd : decode cc pc = .ok (.invokevirtual ix, 3)) (q : Nat) (hq : pc + 3 = q) (hk_l0 : SHk l0 = 12) (w1 : Cond.methodLink own ix yX12_has ∈ xTs) (hr : 1 < d) (hst : (st.map fun v => v.category).sum ≤ 8) (h : FX12_has Q l0 l1 l2 M) (k : ∀ (r : Bool), Q r → xX own cc nL rt d q L (.int (bI r) :: st) M Rt) : xX own cc nL rt d pc L (.int l2 :: .int l1 :: .ref l0 :: st) M Rt :=
  x_callV_b (n := 2) (As := [.int l1, .int l2]) hd q hq hk_l0 (by decide) rfl rfl w1 kw8_25 ks8_5 kw1_14 kw8_26 (by decide +kernel) rfl hr (by decide) hst _ rfl (cX12_has_ hk_l0 h) (fun r N hN => by obtain ⟨rfl, hN⟩ := hN; exact k r hN)
def lbX12_keepsAhead_55 (Q : Mem → Prop) (l0 : Nat) (B55 : Int32 → Mem → Prop) (l1 : Int32) (M : Mem) : Prop :=
  ((107 ≤ l1 → ∀ M1 : Mem, M1 = xu M l0 3 ((M l0 3) + 1) → Q M1) ∧ (¬ 107 ≤ l1 → vp_in l1 107 ∧ vp_in ((107 * (M l0 3)) + l1) 642 ∧ ∀ M2 : Mem, M2 = xu M (l0 + 2) (ix ((107 * (M l0 3)) + l1)) (M (l0 + 1) (ix l1)) → B55 (l1 + 1) M2))
def NX12_keepsAhead_55 (Q : Mem → Prop) (l0 : Nat) (l1 : Int32) (M : Mem) : Prop := xlp (fun (B : Int32 × Mem → Prop) a => lbX12_keepsAhead_55 Q l0 (fun l1 M => B (l1, M)) a.1 a.2) (l1, M)
theorem nX12_keepsAhead_55 {Q : Mem → Prop} {l0 : Nat} {l1 : Int32} {M : Mem} (hk_l0 : SHk l0 = 12) (h : NX12_keepsAhead_55 Q l0 l1 M) : xX RX12 cX12_keepsAhead 2 none 1 55 [(0, .ref l0), (1, .int l1)] [] M (xQv Q) := by
  obtain ⟨n, h⟩ := h
  have hB55 : ∀ (n : Nat) (l1 : Int32) (M : Mem), xlpn (fun (B : Int32 × Mem → Prop) a => lbX12_keepsAhead_55 Q l0 (fun l1 M => B (l1, M)) a.1 a.2) n (l1, M) → xX RX12 cX12_keepsAhead 2 none 1 55 [(0, .ref l0), (1, .int l1)] [] M (xQv Q) := by
    intro n
    induction n with
    | zero => intro l1 M h; exact False.elim h
    | succ n ih =>
      intro l1 M h
      have hB55 := ih
      have h : lbX12_keepsAhead_55 Q l0 (fun l1 M => xlpn (fun (B : Int32 × Mem → Prop) a => lbX12_keepsAhead_55 Q l0 (fun l1 M => B (l1, M)) a.1 a.2) n (l1, M)) l1 M := h
      unfold lbX12_keepsAhead_55 at h
      refine x_iload_n dX12_keepsAhead_55 rfl 56 rfl ?_
      refine x_bipush dX12_keepsAhead_56 kb_107 58 rfl ?_
      refine x_icmp_ge dX12_keepsAhead_58 87 61 rfl rfl (fun hc => ?_) (fun hc => ?_)
      · have h := h.1 hc
        refine x_aload_n dX12_keepsAhead_87 rfl 88 rfl ?_
        refine x_aload_n dX12_keepsAhead_88 rfl 89 rfl ?_
        refine gf12_3 dX12_keepsAhead_89 92 rfl hk_l0 kw5_162 ?_
        refine x_iconst dX12_keepsAhead_92 kc_1 93 rfl ?_
        refine x_iadd dX12_keepsAhead_93 94 rfl ?_
        refine pf12_3 dX12_keepsAhead_94 97 rfl hk_l0 kw5_162 (x_mem (fun M1 hM1 => ?_))
        have h := h M1 hM1
        exact x_vret dX12_keepsAhead_97 h
      · have h := h.2 hc
        refine x_aload_n dX12_keepsAhead_61 rfl 62 rfl ?_
        refine gf12_2 dX12_keepsAhead_62 65 rfl hk_l0 kw5_161 ?_
        refine x_bipush dX12_keepsAhead_65 kb_107 67 rfl ?_
        refine x_aload_n dX12_keepsAhead_67 rfl 68 rfl ?_
        refine gf12_3 dX12_keepsAhead_68 71 rfl hk_l0 kw5_162 ?_
        refine x_imul dX12_keepsAhead_71 72 rfl ?_
        refine x_iload_n dX12_keepsAhead_72 rfl 73 rfl ?_
        refine x_iadd dX12_keepsAhead_73 74 rfl ?_
        refine x_aload_n dX12_keepsAhead_74 rfl 75 rfl ?_
        refine gf12_1 dX12_keepsAhead_75 78 rfl hk_l0 kw5_160 ?_
        refine x_iload_n dX12_keepsAhead_78 rfl 79 rfl ?_
        obtain ⟨hin, h⟩ := h
        refine x_iaload dX12_keepsAhead_79 (ly12_1 hk_l0) hin 80 rfl ?_
        obtain ⟨hin, h⟩ := h
        refine x_iastore dX12_keepsAhead_80 (ly12_2 hk_l0) hin 81 rfl (x_mem (fun M2 hM2 => ?_))
        have h := h M2 hM2
        refine x_iinc dX12_keepsAhead_81 rfl (congrArg (l1 + ·) kc_1) (Nat.le_of_ble_eq_true rfl) [(0, .ref l0), (1, .int (l1 + 1))] rfl 84 rfl ?_
        refine x_goto dX12_keepsAhead_84 55 rfl ?_
        exact hB55 _ _ h
  exact hB55 n l1 M h
def lbX12_keepsAhead_21 (Q : Mem → Prop) (l0 : Nat) (B21 : Int32 → Mem → Prop) (l1 : Int32) (M : Mem) : Prop :=
  (((107 * (M l0 3)) ≤ l1 → NX12_keepsAhead_55 Q l0 0 M) ∧ (¬ (107 * (M l0 3)) ≤ l1 → vp_in (l1 + 107) 642 ∧ vp_in l1 642 ∧ ∀ M3 : Mem, M3 = xu M (l0 + 2) (ix l1) (M (l0 + 2) (ix (l1 + 107))) → B21 (l1 + 1) M3))
def NX12_keepsAhead_21 (Q : Mem → Prop) (l0 : Nat) (l1 : Int32) (M : Mem) : Prop := xlp (fun (B : Int32 × Mem → Prop) a => lbX12_keepsAhead_21 Q l0 (fun l1 M => B (l1, M)) a.1 a.2) (l1, M)
theorem nX12_keepsAhead_21 {Q : Mem → Prop} {l0 : Nat} {l1 : Int32} {M : Mem} (hk_l0 : SHk l0 = 12) (h : NX12_keepsAhead_21 Q l0 l1 M) : xX RX12 cX12_keepsAhead 2 none 1 21 [(0, .ref l0), (1, .int l1)] [] M (xQv Q) := by
  obtain ⟨n, h⟩ := h
  have hB21 : ∀ (n : Nat) (l1 : Int32) (M : Mem), xlpn (fun (B : Int32 × Mem → Prop) a => lbX12_keepsAhead_21 Q l0 (fun l1 M => B (l1, M)) a.1 a.2) n (l1, M) → xX RX12 cX12_keepsAhead 2 none 1 21 [(0, .ref l0), (1, .int l1)] [] M (xQv Q) := by
    intro n
    induction n with
    | zero => intro l1 M h; exact False.elim h
    | succ n ih =>
      intro l1 M h
      have hB21 := ih
      have h : lbX12_keepsAhead_21 Q l0 (fun l1 M => xlpn (fun (B : Int32 × Mem → Prop) a => lbX12_keepsAhead_21 Q l0 (fun l1 M => B (l1, M)) a.1 a.2) n (l1, M)) l1 M := h
      unfold lbX12_keepsAhead_21 at h
      refine x_iload_n dX12_keepsAhead_21 rfl 22 rfl ?_
      refine x_bipush dX12_keepsAhead_22 kb_107 24 rfl ?_
      refine x_aload_n dX12_keepsAhead_24 rfl 25 rfl ?_
      refine gf12_3 dX12_keepsAhead_25 28 rfl hk_l0 kw5_162 ?_
      refine x_imul dX12_keepsAhead_28 29 rfl ?_
      refine x_icmp_ge dX12_keepsAhead_29 53 32 rfl rfl (fun hc => ?_) (fun hc => ?_)
      · have h := h.1 hc
        refine x_iconst dX12_keepsAhead_53 kc_0 54 rfl ?_
        refine x_istore_n dX12_keepsAhead_54 (Nat.le_of_ble_eq_true rfl) [(0, .ref l0), (1, .int 0)] rfl 55 rfl ?_
        exact nX12_keepsAhead_55 hk_l0 h
      · have h := h.2 hc
        refine x_aload_n dX12_keepsAhead_32 rfl 33 rfl ?_
        refine gf12_2 dX12_keepsAhead_33 36 rfl hk_l0 kw5_161 ?_
        refine x_iload_n dX12_keepsAhead_36 rfl 37 rfl ?_
        refine x_aload_n dX12_keepsAhead_37 rfl 38 rfl ?_
        refine gf12_2 dX12_keepsAhead_38 41 rfl hk_l0 kw5_161 ?_
        refine x_iload_n dX12_keepsAhead_41 rfl 42 rfl ?_
        refine x_bipush dX12_keepsAhead_42 kb_107 44 rfl ?_
        refine x_iadd dX12_keepsAhead_44 45 rfl ?_
        obtain ⟨hin, h⟩ := h
        refine x_iaload dX12_keepsAhead_45 (ly12_2 hk_l0) hin 46 rfl ?_
        obtain ⟨hin, h⟩ := h
        refine x_iastore dX12_keepsAhead_46 (ly12_2 hk_l0) hin 47 rfl (x_mem (fun M3 hM3 => ?_))
        have h := h M3 hM3
        refine x_iinc dX12_keepsAhead_47 rfl (congrArg (l1 + ·) kc_1) (Nat.le_of_ble_eq_true rfl) [(0, .ref l0), (1, .int (l1 + 1))] rfl 50 rfl ?_
        refine x_goto dX12_keepsAhead_50 21 rfl ?_
        exact hB21 _ _ h
  exact hB21 n l1 M h
def FX12_keepsAhead (Q : Mem → Prop) (l0 : Nat) (M : Mem) : Prop :=
  ((¬ (M l0 3) = 6 → NX12_keepsAhead_55 Q l0 0 M) ∧ ((M l0 3) = 6 → ∀ M4 : Mem, M4 = xu M l0 3 ((M l0 3) - 1) → NX12_keepsAhead_21 Q l0 0 M4))
theorem eX12_keepsAhead {Q : Mem → Prop} {l0 : Nat} {M : Mem} (hk_l0 : SHk l0 = 12) (h : FX12_keepsAhead Q l0 M) : xX RX12 cX12_keepsAhead 2 none 1 0 [(0, .ref l0)] [] M (xQv Q) := by
  unfold FX12_keepsAhead at h
  refine x_aload_n dX12_keepsAhead_0 rfl 1 rfl ?_
  refine gf12_3 dX12_keepsAhead_1 4 rfl hk_l0 kw5_162 ?_
  refine x_bipush dX12_keepsAhead_4 kb_6 6 rfl ?_
  refine x_icmp_ne dX12_keepsAhead_6 53 9 rfl rfl (fun hc => ?_) (fun hc => ?_)
  · have h := h.1 hc
    refine x_iconst dX12_keepsAhead_53 kc_0 54 rfl ?_
    refine x_istore_n dX12_keepsAhead_54 (Nat.le_of_ble_eq_true rfl) [(0, .ref l0), (1, .int 0)] rfl 55 rfl ?_
    exact nX12_keepsAhead_55 hk_l0 h
  · have h := h.2 hc
    refine x_aload_n dX12_keepsAhead_9 rfl 10 rfl ?_
    refine x_aload_n dX12_keepsAhead_10 rfl 11 rfl ?_
    refine gf12_3 dX12_keepsAhead_11 14 rfl hk_l0 kw5_162 ?_
    refine x_iconst dX12_keepsAhead_14 kc_1 15 rfl ?_
    refine x_isub dX12_keepsAhead_15 16 rfl ?_
    refine pf12_3 dX12_keepsAhead_16 19 rfl hk_l0 kw5_162 (x_mem (fun M4 hM4 => ?_))
    have h := h M4 hM4
    refine x_iconst dX12_keepsAhead_19 kc_0 20 rfl ?_
    refine x_istore_n dX12_keepsAhead_20 (Nat.le_of_ble_eq_true rfl) [(0, .ref l0), (1, .int 0)] rfl 21 rfl ?_
    exact nX12_keepsAhead_21 hk_l0 h
theorem cX12_keepsAhead_ {Q : Mem → Prop} {l0 : Nat} {M : Mem} (hk_l0 : SHk l0 = 12) (h : FX12_keepsAhead Q l0 M) : xM yX12_keepsAhead cX12_keepsAhead 2 none 1 [.ref l0] M (xQv Q) := xM_of (by decide +kernel) (Nat.le_of_ble_eq_true rfl) (eX12_keepsAhead hk_l0 h)
theorem kX12_keepsAhead {own : String} {cc : ByteArray} {nL : Nat} {rt : Option FieldType} {d pc ix : Nat} {L : List (Nat × Value)} {st : List Value} {M : Mem} {Rt : xGt → Array Value → State → Outcome → State → Prop} {Q : Mem → Prop} {l0 : Nat} (hd : decode cc pc = .ok (.invokevirtual ix, 3)) (q : Nat) (hq : pc + 3 = q) (hk_l0 : SHk l0 = 12) (w1 : Cond.methodLink own ix yX12_keepsAhead ∈ xTs) (hr : 1 < d) (hst : (st.map fun v => v.category).sum ≤ 8) (h : FX12_keepsAhead Q l0 M) (k : ∀ (N : Mem), Q N → xX own cc nL rt d q L st N Rt) : xX own cc nL rt d pc L (.ref l0 :: st) M Rt :=
  x_callV_v (n := 0) (As := []) hd q hq hk_l0 (by decide) rfl rfl w1 kw7_56 ks5_15 kw1_14 kw7_57 (by decide +kernel) rfl hr (by decide) hst _ rfl (cX12_keepsAhead_ hk_l0 h) k
def lbX12_undo_26 (Q : Bool → Mem → Prop) (l0 : Nat) (B26 : Int32 → Mem → Prop) (l1 : Int32) (M : Mem) : Prop :=
  ((107 ≤ l1 → Q true M) ∧ (¬ 107 ≤ l1 → vp_in ((107 * (M l0 3)) + l1) 642 ∧ vp_in l1 107 ∧ ∀ M1 : Mem, M1 = xu M (l0 + 1) (ix l1) (M (l0 + 2) (ix ((107 * (M l0 3)) + l1))) → B26 (l1 + 1) M1))
def NX12_undo_26 (Q : Bool → Mem → Prop) (l0 : Nat) (l1 : Int32) (M : Mem) : Prop := xlp (fun (B : Int32 × Mem → Prop) a => lbX12_undo_26 Q l0 (fun l1 M => B (l1, M)) a.1 a.2) (l1, M)
theorem nX12_undo_26 {Q : Bool → Mem → Prop} {l0 : Nat} {l1 : Int32} {M : Mem} (hk_l0 : SHk l0 = 12) (h : NX12_undo_26 Q l0 l1 M) : xX RX12 cX12_undo 2 (some .boolean) 1 26 [(0, .ref l0), (1, .int l1)] [] M (xQb Q) := by
  obtain ⟨n, h⟩ := h
  have hB26 : ∀ (n : Nat) (l1 : Int32) (M : Mem), xlpn (fun (B : Int32 × Mem → Prop) a => lbX12_undo_26 Q l0 (fun l1 M => B (l1, M)) a.1 a.2) n (l1, M) → xX RX12 cX12_undo 2 (some .boolean) 1 26 [(0, .ref l0), (1, .int l1)] [] M (xQb Q) := by
    intro n
    induction n with
    | zero => intro l1 M h; exact False.elim h
    | succ n ih =>
      intro l1 M h
      have hB26 := ih
      have h : lbX12_undo_26 Q l0 (fun l1 M => xlpn (fun (B : Int32 × Mem → Prop) a => lbX12_undo_26 Q l0 (fun l1 M => B (l1, M)) a.1 a.2) n (l1, M)) l1 M := h
      unfold lbX12_undo_26 at h
      refine x_iload_n dX12_undo_26 rfl 27 rfl ?_
      refine x_bipush dX12_undo_27 kb_107 29 rfl ?_
      refine x_icmp_ge dX12_undo_29 58 32 rfl rfl (fun hc => ?_) (fun hc => ?_)
      · have h := h.1 hc
        refine x_iconst dX12_undo_58 kc_1 59 rfl ?_
        exact x_zret (z := true) dX12_undo_59 h
      · have h := h.2 hc
        refine x_aload_n dX12_undo_32 rfl 33 rfl ?_
        refine gf12_1 dX12_undo_33 36 rfl hk_l0 kw5_160 ?_
        refine x_iload_n dX12_undo_36 rfl 37 rfl ?_
        refine x_aload_n dX12_undo_37 rfl 38 rfl ?_
        refine gf12_2 dX12_undo_38 41 rfl hk_l0 kw5_161 ?_
        refine x_bipush dX12_undo_41 kb_107 43 rfl ?_
        refine x_aload_n dX12_undo_43 rfl 44 rfl ?_
        refine gf12_3 dX12_undo_44 47 rfl hk_l0 kw5_162 ?_
        refine x_imul dX12_undo_47 48 rfl ?_
        refine x_iload_n dX12_undo_48 rfl 49 rfl ?_
        refine x_iadd dX12_undo_49 50 rfl ?_
        obtain ⟨hin, h⟩ := h
        refine x_iaload dX12_undo_50 (ly12_2 hk_l0) hin 51 rfl ?_
        obtain ⟨hin, h⟩ := h
        refine x_iastore dX12_undo_51 (ly12_1 hk_l0) hin 52 rfl (x_mem (fun M1 hM1 => ?_))
        have h := h M1 hM1
        refine x_iinc dX12_undo_52 rfl (congrArg (l1 + ·) kc_1) (Nat.le_of_ble_eq_true rfl) [(0, .ref l0), (1, .int (l1 + 1))] rfl 55 rfl ?_
        refine x_goto dX12_undo_55 26 rfl ?_
        exact hB26 _ _ h
  exact hB26 n l1 M h
def FX12_undo (Q : Bool → Mem → Prop) (l0 : Nat) (M : Mem) : Prop :=
  ∀ M2 : Mem, M2 = xu M l0 0 0 → ((¬ (M2 l0 3) = 0 → ∀ M3 : Mem, M3 = xu M2 l0 3 ((M2 l0 3) - 1) → NX12_undo_26 Q l0 0 M3) ∧ ((M2 l0 3) = 0 → Q false M2))
theorem eX12_undo {Q : Bool → Mem → Prop} {l0 : Nat} {M : Mem} (hk_l0 : SHk l0 = 12) (h : FX12_undo Q l0 M) : xX RX12 cX12_undo 2 (some .boolean) 1 0 [(0, .ref l0)] [] M (xQb Q) := by
  unfold FX12_undo at h
  refine x_aload_n dX12_undo_0 rfl 1 rfl ?_
  refine x_iconst dX12_undo_1 kc_0 2 rfl ?_
  refine pf12_0 dX12_undo_2 5 rfl hk_l0 kw5_159 (x_mem (fun M2 hM2 => ?_))
  have h := h M2 hM2
  refine x_aload_n dX12_undo_5 rfl 6 rfl ?_
  refine gf12_3 dX12_undo_6 9 rfl hk_l0 kw5_162 ?_
  refine x_if_ne dX12_undo_9 14 12 rfl rfl (fun hc => ?_) (fun hc => ?_)
  · have h := h.1 hc
    refine x_aload_n dX12_undo_14 rfl 15 rfl ?_
    refine x_aload_n dX12_undo_15 rfl 16 rfl ?_
    refine gf12_3 dX12_undo_16 19 rfl hk_l0 kw5_162 ?_
    refine x_iconst dX12_undo_19 kc_1 20 rfl ?_
    refine x_isub dX12_undo_20 21 rfl ?_
    refine pf12_3 dX12_undo_21 24 rfl hk_l0 kw5_162 (x_mem (fun M3 hM3 => ?_))
    have h := h M3 hM3
    refine x_iconst dX12_undo_24 kc_0 25 rfl ?_
    refine x_istore_n dX12_undo_25 (Nat.le_of_ble_eq_true rfl) [(0, .ref l0), (1, .int 0)] rfl 26 rfl ?_
    exact nX12_undo_26 hk_l0 h
  · have h := h.2 hc
    refine x_iconst dX12_undo_12 kc_0 13 rfl ?_
    exact x_zret (z := false) dX12_undo_13 h
theorem cX12_undo_ {Q : Bool → Mem → Prop} {l0 : Nat} {M : Mem} (hk_l0 : SHk l0 = 12) (h : FX12_undo Q l0 M) : xM yX12_undo cX12_undo 2 (some .boolean) 1 [.ref l0] M (xQb Q) := xM_of (by decide +kernel) (Nat.le_of_ble_eq_true rfl) (eX12_undo hk_l0 h)
theorem kX12_undo {own : String} {cc : ByteArray} {nL : Nat} {rt : Option FieldType} {d pc ix : Nat} {L : List (Nat × Value)} {st : List Value} {M : Mem} {Rt : xGt → Array Value → State → Outcome → State → Prop} {Q : Bool → Mem → Prop} {l0 : Nat} (hd : decode cc pc = .ok (.invokevirtual ix, 3)) (q : Nat) (hq : pc + 3 = q) (hk_l0 : SHk l0 = 12) (w1 : Cond.methodLink own ix yX12_undo ∈ xTs) (hr : 1 < d) (hst : (st.map fun v => v.category).sum ≤ 8) (h : FX12_undo Q l0 M) (k : ∀ (r : Bool) (N : Mem), Q r N → xX own cc nL rt d q L (.int (bI r) :: st) N Rt) : xX own cc nL rt d pc L (.ref l0 :: st) M Rt :=
  x_callV_b (n := 0) (As := []) hd q hq hk_l0 (by decide) rfl rfl w1 kw6_71 kw6_72 kw1_14 kw6_73 (by decide +kernel) rfl hr (by decide) hst _ rfl (cX12_undo_ hk_l0 h) k
def lbX12_thinks_2 (Q : Mem → Prop) (l0 : Nat) (B2 : Int32 → Mem → Prop) (l1 : Int32) (M : Mem) : Prop :=
  ((107 ≤ l1 → ∀ M1 : Mem, M1 = xu M l0 5 1 → Q M1) ∧ (¬ 107 ≤ l1 → vp_in l1 107 ∧ vp_in l1 107 ∧ ∀ M2 : Mem, M2 = xu M (l0 + 3) (ix l1) (M (l0 + 1) (ix l1)) → B2 (l1 + 1) M2))
def NX12_thinks_2 (Q : Mem → Prop) (l0 : Nat) (l1 : Int32) (M : Mem) : Prop := xlp (fun (B : Int32 × Mem → Prop) a => lbX12_thinks_2 Q l0 (fun l1 M => B (l1, M)) a.1 a.2) (l1, M)
theorem nX12_thinks_2 {Q : Mem → Prop} {l0 : Nat} {l1 : Int32} {M : Mem} (hk_l0 : SHk l0 = 12) (h : NX12_thinks_2 Q l0 l1 M) : xX RX12 cX12_thinks 2 none 1 2 [(0, .ref l0), (1, .int l1)] [] M (xQv Q) := by
  obtain ⟨n, h⟩ := h
  have hB2 : ∀ (n : Nat) (l1 : Int32) (M : Mem), xlpn (fun (B : Int32 × Mem → Prop) a => lbX12_thinks_2 Q l0 (fun l1 M => B (l1, M)) a.1 a.2) n (l1, M) → xX RX12 cX12_thinks 2 none 1 2 [(0, .ref l0), (1, .int l1)] [] M (xQv Q) := by
    intro n
    induction n with
    | zero => intro l1 M h; exact False.elim h
    | succ n ih =>
      intro l1 M h
      have hB2 := ih
      have h : lbX12_thinks_2 Q l0 (fun l1 M => xlpn (fun (B : Int32 × Mem → Prop) a => lbX12_thinks_2 Q l0 (fun l1 M => B (l1, M)) a.1 a.2) n (l1, M)) l1 M := h
      unfold lbX12_thinks_2 at h
      refine x_iload_n dX12_thinks_2 rfl 3 rfl ?_
      refine x_bipush dX12_thinks_3 kb_107 5 rfl ?_
      refine x_icmp_ge dX12_thinks_5 26 8 rfl rfl (fun hc => ?_) (fun hc => ?_)
      · have h := h.1 hc
        refine x_aload_n dX12_thinks_26 rfl 27 rfl ?_
        refine x_iconst dX12_thinks_27 kc_1 28 rfl ?_
        refine pf12_5 dX12_thinks_28 31 rfl hk_l0 kw5_164 (Or.inr rfl) (x_mem (fun M1 hM1 => ?_))
        have h := h M1 hM1
        exact x_vret dX12_thinks_31 h
      · have h := h.2 hc
        refine x_aload_n dX12_thinks_8 rfl 9 rfl ?_
        refine gf12_4 dX12_thinks_9 12 rfl hk_l0 kw5_163 ?_
        refine x_iload_n dX12_thinks_12 rfl 13 rfl ?_
        refine x_aload_n dX12_thinks_13 rfl 14 rfl ?_
        refine gf12_1 dX12_thinks_14 17 rfl hk_l0 kw5_160 ?_
        refine x_iload_n dX12_thinks_17 rfl 18 rfl ?_
        obtain ⟨hin, h⟩ := h
        refine x_iaload dX12_thinks_18 (ly12_1 hk_l0) hin 19 rfl ?_
        obtain ⟨hin, h⟩ := h
        refine x_iastore dX12_thinks_19 (ly12_4 hk_l0) hin 20 rfl (x_mem (fun M2 hM2 => ?_))
        have h := h M2 hM2
        refine x_iinc dX12_thinks_20 rfl (congrArg (l1 + ·) kc_1) (Nat.le_of_ble_eq_true rfl) [(0, .ref l0), (1, .int (l1 + 1))] rfl 23 rfl ?_
        refine x_goto dX12_thinks_23 2 rfl ?_
        exact hB2 _ _ h
  exact hB2 n l1 M h
def FX12_thinks (Q : Mem → Prop) (l0 : Nat) (M : Mem) : Prop :=
  NX12_thinks_2 Q l0 0 M
theorem eX12_thinks {Q : Mem → Prop} {l0 : Nat} {M : Mem} (hk_l0 : SHk l0 = 12) (h : FX12_thinks Q l0 M) : xX RX12 cX12_thinks 2 none 1 0 [(0, .ref l0)] [] M (xQv Q) := by
  unfold FX12_thinks at h
  refine x_iconst dX12_thinks_0 kc_0 1 rfl ?_
  refine x_istore_n dX12_thinks_1 (Nat.le_of_ble_eq_true rfl) [(0, .ref l0), (1, .int 0)] rfl 2 rfl ?_
  exact nX12_thinks_2 hk_l0 h
theorem cX12_thinks_ {Q : Mem → Prop} {l0 : Nat} {M : Mem} (hk_l0 : SHk l0 = 12) (h : FX12_thinks Q l0 M) : xM yX12_thinks cX12_thinks 2 none 1 [.ref l0] M (xQv Q) := xM_of (by decide +kernel) (Nat.le_of_ble_eq_true rfl) (eX12_thinks hk_l0 h)
theorem kX12_thinks {own : String} {cc : ByteArray} {nL : Nat} {rt : Option FieldType} {d pc ix : Nat} {L : List (Nat × Value)} {st : List Value} {M : Mem} {Rt : xGt → Array Value → State → Outcome → State → Prop} {Q : Mem → Prop} {l0 : Nat} (hd : decode cc pc = .ok (.invokevirtual ix, 3)) (q : Nat) (hq : pc + 3 = q) (hk_l0 : SHk l0 = 12) (w1 : Cond.methodLink own ix yX12_thinks ∈ xTs) (hr : 1 < d) (hst : (st.map fun v => v.category).sum ≤ 8) (h : FX12_thinks Q l0 M) (k : ∀ (N : Mem), Q N → xX own cc nL rt d q L st N Rt) : xX own cc nL rt d pc L (.ref l0 :: st) M Rt :=
  x_callV_v (n := 0) (As := []) hd q hq hk_l0 (by decide) rfl rfl w1 kw7_194 ks7_11 kw1_14 kw7_195 (by decide +kernel) rfl hr (by decide) hst _ rfl (cX12_thinks_ hk_l0 h) k
def lbX12_endsThought_2 (Q : Mem → Prop) (l0 : Nat) (B2 : Int32 → Mem → Prop) (l1 : Int32) (M : Mem) : Prop :=
  ((107 ≤ l1 → ∀ M1 : Mem, M1 = xu M l0 5 0 → Q M1) ∧ (¬ 107 ≤ l1 → vp_in l1 107 ∧ vp_in l1 107 ∧ ∀ M2 : Mem, M2 = xu M (l0 + 1) (ix l1) (M (l0 + 3) (ix l1)) → B2 (l1 + 1) M2))
def NX12_endsThought_2 (Q : Mem → Prop) (l0 : Nat) (l1 : Int32) (M : Mem) : Prop := xlp (fun (B : Int32 × Mem → Prop) a => lbX12_endsThought_2 Q l0 (fun l1 M => B (l1, M)) a.1 a.2) (l1, M)
theorem nX12_endsThought_2 {Q : Mem → Prop} {l0 : Nat} {l1 : Int32} {M : Mem} (hk_l0 : SHk l0 = 12) (h : NX12_endsThought_2 Q l0 l1 M) : xX RX12 cX12_endsThought 2 none 1 2 [(0, .ref l0), (1, .int l1)] [] M (xQv Q) := by
  obtain ⟨n, h⟩ := h
  have hB2 : ∀ (n : Nat) (l1 : Int32) (M : Mem), xlpn (fun (B : Int32 × Mem → Prop) a => lbX12_endsThought_2 Q l0 (fun l1 M => B (l1, M)) a.1 a.2) n (l1, M) → xX RX12 cX12_endsThought 2 none 1 2 [(0, .ref l0), (1, .int l1)] [] M (xQv Q) := by
    intro n
    induction n with
    | zero => intro l1 M h; exact False.elim h
    | succ n ih =>
      intro l1 M h
      have hB2 := ih
      have h : lbX12_endsThought_2 Q l0 (fun l1 M => xlpn (fun (B : Int32 × Mem → Prop) a => lbX12_endsThought_2 Q l0 (fun l1 M => B (l1, M)) a.1 a.2) n (l1, M)) l1 M := h
      unfold lbX12_endsThought_2 at h
      refine x_iload_n dX12_endsThought_2 rfl 3 rfl ?_
      refine x_bipush dX12_endsThought_3 kb_107 5 rfl ?_
      refine x_icmp_ge dX12_endsThought_5 26 8 rfl rfl (fun hc => ?_) (fun hc => ?_)
      · have h := h.1 hc
        refine x_aload_n dX12_endsThought_26 rfl 27 rfl ?_
        refine x_iconst dX12_endsThought_27 kc_0 28 rfl ?_
        refine pf12_5 dX12_endsThought_28 31 rfl hk_l0 kw5_164 (Or.inl rfl) (x_mem (fun M1 hM1 => ?_))
        have h := h M1 hM1
        exact x_vret dX12_endsThought_31 h
      · have h := h.2 hc
        refine x_aload_n dX12_endsThought_8 rfl 9 rfl ?_
        refine gf12_1 dX12_endsThought_9 12 rfl hk_l0 kw5_160 ?_
        refine x_iload_n dX12_endsThought_12 rfl 13 rfl ?_
        refine x_aload_n dX12_endsThought_13 rfl 14 rfl ?_
        refine gf12_4 dX12_endsThought_14 17 rfl hk_l0 kw5_163 ?_
        refine x_iload_n dX12_endsThought_17 rfl 18 rfl ?_
        obtain ⟨hin, h⟩ := h
        refine x_iaload dX12_endsThought_18 (ly12_4 hk_l0) hin 19 rfl ?_
        obtain ⟨hin, h⟩ := h
        refine x_iastore dX12_endsThought_19 (ly12_1 hk_l0) hin 20 rfl (x_mem (fun M2 hM2 => ?_))
        have h := h M2 hM2
        refine x_iinc dX12_endsThought_20 rfl (congrArg (l1 + ·) kc_1) (Nat.le_of_ble_eq_true rfl) [(0, .ref l0), (1, .int (l1 + 1))] rfl 23 rfl ?_
        refine x_goto dX12_endsThought_23 2 rfl ?_
        exact hB2 _ _ h
  exact hB2 n l1 M h
def FX12_endsThought (Q : Mem → Prop) (l0 : Nat) (M : Mem) : Prop :=
  NX12_endsThought_2 Q l0 0 M
theorem eX12_endsThought {Q : Mem → Prop} {l0 : Nat} {M : Mem} (hk_l0 : SHk l0 = 12) (h : FX12_endsThought Q l0 M) : xX RX12 cX12_endsThought 2 none 1 0 [(0, .ref l0)] [] M (xQv Q) := by
  unfold FX12_endsThought at h
  refine x_iconst dX12_endsThought_0 kc_0 1 rfl ?_
  refine x_istore_n dX12_endsThought_1 (Nat.le_of_ble_eq_true rfl) [(0, .ref l0), (1, .int 0)] rfl 2 rfl ?_
  exact nX12_endsThought_2 hk_l0 h
theorem cX12_endsThought_ {Q : Mem → Prop} {l0 : Nat} {M : Mem} (hk_l0 : SHk l0 = 12) (h : FX12_endsThought Q l0 M) : xM yX12_endsThought cX12_endsThought 2 none 1 [.ref l0] M (xQv Q) := xM_of (by decide +kernel) (Nat.le_of_ble_eq_true rfl) (eX12_endsThought hk_l0 h)
theorem kX12_endsThought {own : String} {cc : ByteArray} {nL : Nat} {rt : Option FieldType} {d pc ix : Nat} {L : List (Nat × Value)} {st : List Value} {M : Mem} {Rt : xGt → Array Value → State → Outcome → State → Prop} {Q : Mem → Prop} {l0 : Nat} (hd : decode cc pc = .ok (.invokevirtual ix, 3)) (q : Nat) (hq : pc + 3 = q) (hk_l0 : SHk l0 = 12) (w1 : Cond.methodLink own ix yX12_endsThought ∈ xTs) (hr : 1 < d) (hst : (st.map fun v => v.category).sum ≤ 8) (h : FX12_endsThought Q l0 M) (k : ∀ (N : Mem), Q N → xX own cc nL rt d q L st N Rt) : xX own cc nL rt d pc L (.ref l0 :: st) M Rt :=
  x_callV_v (n := 0) (As := []) hd q hq hk_l0 (by decide) rfl rfl w1 kw7_206 ks7_14 kw1_14 kw7_207 (by decide +kernel) rfl hr (by decide) hst _ rfl (cX12_endsThought_ hk_l0 h) k
def FX12_state (Q : Int32 → Mem → Prop) (l0 : Nat) (l1 : Int32) (M : Mem) : Prop :=
  ∀ M1 : Mem, M1 = xu M l0 0 0 → ∀ M2 : Mem, M2 = xu M1 (l0 + 1) (1) l1 → ∀ M3 : Mem, M3 = xu M2 l0 3 0 → Q (M1 (l0 + 1) 1) M3
theorem eX12_state {Q : Int32 → Mem → Prop} {l0 : Nat} {l1 : Int32} {M : Mem} (hk_l0 : SHk l0 = 12) (h : FX12_state Q l0 l1 M) : xX RX12 cX12_state 3 (some .int) 1 0 [(0, .ref l0), (1, .int l1)] [] M (xQi Q) := by
  unfold FX12_state at h
  refine x_aload_n dX12_state_0 rfl 1 rfl ?_
  refine x_iconst dX12_state_1 kc_0 2 rfl ?_
  refine pf12_0 dX12_state_2 5 rfl hk_l0 kw5_159 (x_mem (fun M1 hM1 => ?_))
  have h := h M1 hM1
  refine x_aload_n dX12_state_5 rfl 6 rfl ?_
  refine gf12_1 dX12_state_6 9 rfl hk_l0 kw5_160 ?_
  refine x_iconst dX12_state_9 kc_1 10 rfl ?_
  refine x_iaload dX12_state_10 (ly12_1 hk_l0) (by unfold vp_in; decide) 11 rfl ?_
  refine x_istore_n dX12_state_11 (Nat.le_of_ble_eq_true rfl) [(0, .ref l0), (1, .int l1), (2, .int (M1 (l0 + 1) 1))] rfl 12 rfl ?_
  refine x_aload_n dX12_state_12 rfl 13 rfl ?_
  refine gf12_1 dX12_state_13 16 rfl hk_l0 kw5_160 ?_
  refine x_iconst dX12_state_16 kc_1 17 rfl ?_
  refine x_iload_n dX12_state_17 rfl 18 rfl ?_
  refine x_iastore dX12_state_18 (ly12_1 hk_l0) (by unfold vp_in; decide) 19 rfl (x_mem (fun M2 hM2 => ?_))
  have h := h M2 hM2
  refine x_aload_n dX12_state_19 rfl 20 rfl ?_
  refine x_iconst dX12_state_20 kc_0 21 rfl ?_
  refine pf12_3 dX12_state_21 24 rfl hk_l0 kw5_162 (x_mem (fun M3 hM3 => ?_))
  have h := h M3 hM3
  refine x_iload_n dX12_state_24 rfl 25 rfl ?_
  exact x_iret dX12_state_25 h
theorem cX12_state_ {Q : Int32 → Mem → Prop} {l0 : Nat} {l1 : Int32} {M : Mem} (hk_l0 : SHk l0 = 12) (h : FX12_state Q l0 l1 M) : xM yX12_state cX12_state 3 (some .int) 1 [.ref l0, .int l1] M (xQi Q) := xM_of (by decide +kernel) (Nat.le_of_ble_eq_true rfl) (eX12_state hk_l0 h)
theorem kX12_state {own : String} {cc : ByteArray} {nL : Nat} {rt : Option FieldType} {d pc ix : Nat} {L : List (Nat × Value)} {st : List Value} {M : Mem} {Rt : xGt → Array Value → State → Outcome → State → Prop} {Q : Int32 → Mem → Prop} {l0 : Nat} {l1 : Int32} (hd : decode cc pc = .ok (.invokevirtual ix, 3)) (q : Nat) (hq : pc + 3 = q) (hk_l0 : SHk l0 = 12) (w1 : Cond.methodLink own ix yX12_state ∈ xTs) (hr : 1 < d) (hst : (st.map fun v => v.category).sum ≤ 8) (h : FX12_state Q l0 l1 M) (k : ∀ (r : Int32) (N : Mem), Q r N → xX own cc nL rt d q L (.int r :: st) N Rt) : xX own cc nL rt d pc L (.int l1 :: .ref l0 :: st) M Rt :=
  x_callV_i (n := 1) (As := [.int l1]) hd q hq hk_l0 (by decide) rfl rfl w1 kw6_75 kw6_76 kw1_14 kw6_77 (by decide +kernel) rfl hr (by decide) hst _ rfl (cX12_state_ hk_l0 h) k
def FX12_draw (Q : Int32 → Mem → Prop) (l0 : Nat) (l1 : Int32) (M : Mem) : Prop :=
  ∀ M1 : Mem, M1 = xu M (l0 + 1) (1) ((1664525 * (M (l0 + 1) 1)) + 1013904223) → (¬ (l1 : Int32) = 0) ∧ Q (((((M1 (l0 + 1) 1) : Int32).toUInt32 >>> ((8 : Int32).toUInt32 &&& Int32.toUInt32 31)).toInt32) - ((((M1 (l0 + 1) 1) : Int32).toUInt32 >>> ((8 : Int32).toUInt32 &&& Int32.toUInt32 31)).toInt32) / l1 * l1) M1
theorem eX12_draw {Q : Int32 → Mem → Prop} {l0 : Nat} {l1 : Int32} {M : Mem} (hk_l0 : SHk l0 = 12) (h : FX12_draw Q l0 l1 M) : xX RX12 cX12_draw 2 (some .int) 1 0 [(0, .ref l0), (1, .int l1)] [] M (xQi Q) := by
  unfold FX12_draw at h
  refine x_aload_n dX12_draw_0 rfl 1 rfl ?_
  refine gf12_1 dX12_draw_1 4 rfl hk_l0 kw5_160 ?_
  refine x_iconst dX12_draw_4 kc_1 5 rfl ?_
  refine x_ldc dX12_draw_5 kw7_162 7 rfl ?_
  refine x_aload_n dX12_draw_7 rfl 8 rfl ?_
  refine gf12_1 dX12_draw_8 11 rfl hk_l0 kw5_160 ?_
  refine x_iconst dX12_draw_11 kc_1 12 rfl ?_
  refine x_iaload dX12_draw_12 (ly12_1 hk_l0) (by unfold vp_in; decide) 13 rfl ?_
  refine x_imul dX12_draw_13 14 rfl ?_
  refine x_ldc dX12_draw_14 kw7_163 16 rfl ?_
  refine x_iadd dX12_draw_16 17 rfl ?_
  refine x_iastore dX12_draw_17 (ly12_1 hk_l0) (by unfold vp_in; decide) 18 rfl (x_mem (fun M1 hM1 => ?_))
  have h := h M1 hM1
  refine x_aload_n dX12_draw_18 rfl 19 rfl ?_
  refine gf12_1 dX12_draw_19 22 rfl hk_l0 kw5_160 ?_
  refine x_iconst dX12_draw_22 kc_1 23 rfl ?_
  refine x_iaload dX12_draw_23 (ly12_1 hk_l0) (by unfold vp_in; decide) 24 rfl ?_
  refine x_bipush dX12_draw_24 kb_8 26 rfl ?_
  refine x_iushr dX12_draw_26 27 rfl ?_
  refine x_iload_n dX12_draw_27 rfl 28 rfl ?_
  obtain ⟨hne, h⟩ := h
  refine x_irem dX12_draw_28 hne 29 rfl ?_
  exact x_iret dX12_draw_29 h
theorem cX12_draw_ {Q : Int32 → Mem → Prop} {l0 : Nat} {l1 : Int32} {M : Mem} (hk_l0 : SHk l0 = 12) (h : FX12_draw Q l0 l1 M) : xM yX12_draw cX12_draw 2 (some .int) 1 [.ref l0, .int l1] M (xQi Q) := xM_of (by decide +kernel) (Nat.le_of_ble_eq_true rfl) (eX12_draw hk_l0 h)
theorem kX12_draw {own : String} {cc : ByteArray} {nL : Nat} {rt : Option FieldType} {d pc ix : Nat} {L : List (Nat × Value)} {st : List Value} {M : Mem} {Rt : xGt → Array Value → State → Outcome → State → Prop} {Q : Int32 → Mem → Prop} {l0 : Nat} {l1 : Int32} (hd : decode cc pc = .ok (.invokevirtual ix, 3)) (q : Nat) (hq : pc + 3 = q) (hk_l0 : SHk l0 = 12) (w1 : Cond.methodLink own ix yX12_draw ∈ xTs) (hr : 1 < d) (hst : (st.map fun v => v.category).sum ≤ 8) (h : FX12_draw Q l0 l1 M) (k : ∀ (r : Int32) (N : Mem), Q r N → xX own cc nL rt d q L (.int r :: st) N Rt) : xX own cc nL rt d pc L (.int l1 :: .ref l0 :: st) M Rt :=
  x_callV_i (n := 1) (As := [.int l1]) hd q hq hk_l0 (by decide) rfl rfl w1 kw7_160 ks7_8 kw1_14 kw7_161 (by decide +kernel) rfl hr (by decide) hst _ rfl (cX12_draw_ hk_l0 h) k
def FX12_isPillar (Q : Bool → Prop) (l0 : Nat) (l1 : Int32) (M : Mem) : Prop :=
  ((l1 < 0 → Q false) ∧ (¬ l1 < 0 → (((M l0 6) ≤ l1 → Q false) ∧ (¬ (M l0 6) ≤ l1 → Q true))))
theorem eX12_isPillar {Q : Bool → Prop} {l0 : Nat} {l1 : Int32} {M : Mem} (hk_l0 : SHk l0 = 12) (h : FX12_isPillar Q l0 l1 M) : xX RX12 cX12_isPillar 2 (some .boolean) 1 0 [(0, .ref l0), (1, .int l1)] [] M (xQb (xP M Q)) := by
  unfold FX12_isPillar at h
  refine x_iload_n dX12_isPillar_0 rfl 1 rfl ?_
  refine x_if_lt dX12_isPillar_1 16 4 rfl rfl (fun hc => ?_) (fun hc => ?_)
  · have h := h.1 hc
    refine x_iconst dX12_isPillar_16 kc_0 17 rfl ?_
    exact x_zret (z := false) dX12_isPillar_17 ⟨rfl, h⟩
  · have h := h.2 hc
    refine x_iload_n dX12_isPillar_4 rfl 5 rfl ?_
    refine x_aload_n dX12_isPillar_5 rfl 6 rfl ?_
    refine gf12_6 dX12_isPillar_6 9 rfl hk_l0 kw5_165 ?_
    refine x_icmp_ge dX12_isPillar_9 16 12 rfl rfl (fun hc => ?_) (fun hc => ?_)
    · have h := h.1 hc
      refine x_iconst dX12_isPillar_16 kc_0 17 rfl ?_
      exact x_zret (z := false) dX12_isPillar_17 ⟨rfl, h⟩
    · have h := h.2 hc
      refine x_iconst dX12_isPillar_12 kc_1 13 rfl ?_
      refine x_goto dX12_isPillar_13 17 rfl ?_
      exact x_zret (z := true) dX12_isPillar_17 ⟨rfl, h⟩
theorem cX12_isPillar_ {Q : Bool → Prop} {l0 : Nat} {l1 : Int32} {M : Mem} (hk_l0 : SHk l0 = 12) (h : FX12_isPillar Q l0 l1 M) : xM yX12_isPillar cX12_isPillar 2 (some .boolean) 1 [.ref l0, .int l1] M (xQb (xP M Q)) := xM_of (by decide +kernel) (Nat.le_of_ble_eq_true rfl) (eX12_isPillar hk_l0 h)
theorem kX12_isPillar {own : String} {cc : ByteArray} {nL : Nat} {rt : Option FieldType} {d pc ix : Nat} {L : List (Nat × Value)} {st : List Value} {M : Mem} {Rt : xGt → Array Value → State → Outcome → State → Prop} {Q : Bool → Prop} {l0 : Nat} {l1 : Int32} (hd : decode cc pc = .ok (.invokevirtual ix, 3)) (q : Nat) (hq : pc + 3 = q) (hk_l0 : SHk l0 = 12) (w1 : Cond.methodLink own ix yX12_isPillar ∈ xTs) (hr : 1 < d) (hst : (st.map fun v => v.category).sum ≤ 8) (h : FX12_isPillar Q l0 l1 M) (k : ∀ (r : Bool), Q r → xX own cc nL rt d q L (.int (bI r) :: st) M Rt) : xX own cc nL rt d pc L (.int l1 :: .ref l0 :: st) M Rt :=
  x_callV_b (n := 1) (As := [.int l1]) hd q hq hk_l0 (by decide) rfl rfl w1 kw7_52 ks5_14 kw1_14 kw7_53 (by decide +kernel) rfl hr (by decide) hst _ rfl (cX12_isPillar_ hk_l0 h) (fun r N hN => by obtain ⟨rfl, hN⟩ := hN; exact k r hN)
def FX12_isSaint (Q : Bool → Prop) (l0 : Nat) (l1 : Int32) (M : Mem) : Prop :=
  ((l1 < 0 → Q false) ∧ (¬ l1 < 0 → (((M l0 7) ≤ l1 → Q false) ∧ (¬ (M l0 7) ≤ l1 → Q true))))
theorem eX12_isSaint {Q : Bool → Prop} {l0 : Nat} {l1 : Int32} {M : Mem} (hk_l0 : SHk l0 = 12) (h : FX12_isSaint Q l0 l1 M) : xX RX12 cX12_isSaint 2 (some .boolean) 1 0 [(0, .ref l0), (1, .int l1)] [] M (xQb (xP M Q)) := by
  unfold FX12_isSaint at h
  refine x_iload_n dX12_isSaint_0 rfl 1 rfl ?_
  refine x_if_lt dX12_isSaint_1 16 4 rfl rfl (fun hc => ?_) (fun hc => ?_)
  · have h := h.1 hc
    refine x_iconst dX12_isSaint_16 kc_0 17 rfl ?_
    exact x_zret (z := false) dX12_isSaint_17 ⟨rfl, h⟩
  · have h := h.2 hc
    refine x_iload_n dX12_isSaint_4 rfl 5 rfl ?_
    refine x_aload_n dX12_isSaint_5 rfl 6 rfl ?_
    refine gf12_7 dX12_isSaint_6 9 rfl hk_l0 kw5_166 ?_
    refine x_icmp_ge dX12_isSaint_9 16 12 rfl rfl (fun hc => ?_) (fun hc => ?_)
    · have h := h.1 hc
      refine x_iconst dX12_isSaint_16 kc_0 17 rfl ?_
      exact x_zret (z := false) dX12_isSaint_17 ⟨rfl, h⟩
    · have h := h.2 hc
      refine x_iconst dX12_isSaint_12 kc_1 13 rfl ?_
      refine x_goto dX12_isSaint_13 17 rfl ?_
      exact x_zret (z := true) dX12_isSaint_17 ⟨rfl, h⟩
theorem cX12_isSaint_ {Q : Bool → Prop} {l0 : Nat} {l1 : Int32} {M : Mem} (hk_l0 : SHk l0 = 12) (h : FX12_isSaint Q l0 l1 M) : xM yX12_isSaint cX12_isSaint 2 (some .boolean) 1 [.ref l0, .int l1] M (xQb (xP M Q)) := xM_of (by decide +kernel) (Nat.le_of_ble_eq_true rfl) (eX12_isSaint hk_l0 h)
theorem kX12_isSaint {own : String} {cc : ByteArray} {nL : Nat} {rt : Option FieldType} {d pc ix : Nat} {L : List (Nat × Value)} {st : List Value} {M : Mem} {Rt : xGt → Array Value → State → Outcome → State → Prop} {Q : Bool → Prop} {l0 : Nat} {l1 : Int32} (hd : decode cc pc = .ok (.invokevirtual ix, 3)) (q : Nat) (hq : pc + 3 = q) (hk_l0 : SHk l0 = 12) (w1 : Cond.methodLink own ix yX12_isSaint ∈ xTs) (hr : 1 < d) (hst : (st.map fun v => v.category).sum ≤ 8) (h : FX12_isSaint Q l0 l1 M) (k : ∀ (r : Bool), Q r → xX own cc nL rt d q L (.int (bI r) :: st) M Rt) : xX own cc nL rt d pc L (.int l1 :: .ref l0 :: st) M Rt :=
  x_callV_b (n := 1) (As := [.int l1]) hd q hq hk_l0 (by decide) rfl rfl w1 kw6_124 ks3_9 kw1_14 kw6_125 (by decide +kernel) rfl hr (by decide) hst _ rfl (cX12_isSaint_ hk_l0 h) (fun r N hN => by obtain ⟨rfl, hN⟩ := hN; exact k r hN)
def FX12_sitterOf (Q : Int32 → Prop) (l0 : Nat) (l1 : Int32) (M : Mem) : Prop :=
  vp_in (73 + l1) 107 ∧ Q ((M (l0 + 1) (ix (73 + l1))) - 1)
theorem eX12_sitterOf {Q : Int32 → Prop} {l0 : Nat} {l1 : Int32} {M : Mem} (hk_l0 : SHk l0 = 12) (h : FX12_sitterOf Q l0 l1 M) : xX RX12 cX12_sitterOf 2 (some .int) 1 0 [(0, .ref l0), (1, .int l1)] [] M (xQi (xP M Q)) := by
  unfold FX12_sitterOf at h
  refine x_aload_n dX12_sitterOf_0 rfl 1 rfl ?_
  refine gf12_1 dX12_sitterOf_1 4 rfl hk_l0 kw5_160 ?_
  refine x_bipush dX12_sitterOf_4 kb_73 6 rfl ?_
  refine x_iload_n dX12_sitterOf_6 rfl 7 rfl ?_
  refine x_iadd dX12_sitterOf_7 8 rfl ?_
  obtain ⟨hin, h⟩ := h
  refine x_iaload dX12_sitterOf_8 (ly12_1 hk_l0) hin 9 rfl ?_
  refine x_iconst dX12_sitterOf_9 kc_1 10 rfl ?_
  refine x_isub dX12_sitterOf_10 11 rfl ?_
  exact x_iret dX12_sitterOf_11 ⟨rfl, h⟩
theorem cX12_sitterOf_ {Q : Int32 → Prop} {l0 : Nat} {l1 : Int32} {M : Mem} (hk_l0 : SHk l0 = 12) (h : FX12_sitterOf Q l0 l1 M) : xM yX12_sitterOf cX12_sitterOf 2 (some .int) 1 [.ref l0, .int l1] M (xQi (xP M Q)) := xM_of (by decide +kernel) (Nat.le_of_ble_eq_true rfl) (eX12_sitterOf hk_l0 h)
theorem kX12_sitterOf {own : String} {cc : ByteArray} {nL : Nat} {rt : Option FieldType} {d pc ix : Nat} {L : List (Nat × Value)} {st : List Value} {M : Mem} {Rt : xGt → Array Value → State → Outcome → State → Prop} {Q : Int32 → Prop} {l0 : Nat} {l1 : Int32} (hd : decode cc pc = .ok (.invokevirtual ix, 3)) (q : Nat) (hq : pc + 3 = q) (hk_l0 : SHk l0 = 12) (w1 : Cond.methodLink own ix yX12_sitterOf ∈ xTs) (hr : 1 < d) (hst : (st.map fun v => v.category).sum ≤ 8) (h : FX12_sitterOf Q l0 l1 M) (k : ∀ (r : Int32), Q r → xX own cc nL rt d q L (.int r :: st) M Rt) : xX own cc nL rt d pc L (.int l1 :: .ref l0 :: st) M Rt :=
  x_callV_i (n := 1) (As := [.int l1]) hd q hq hk_l0 (by decide) rfl rfl w1 kw6_92 ks3_3 kw1_14 kw6_93 (by decide +kernel) rfl hr (by decide) hst _ rfl (cX12_sitterOf_ hk_l0 h) (fun r N hN => by obtain ⟨rfl, hN⟩ := hN; exact k r hN)
def lbX12_pillarOf_2 (Q : Int32 → Prop) (l0 : Nat) (l1 : Int32) (M : Mem) (B2 : Int32 → Prop) (l2 : Int32) : Prop :=
  (((M l0 6) ≤ l2 → Q (-1)) ∧ (¬ (M l0 6) ≤ l2 → FX12_sitterOf (fun (r1 : Int32) => ((¬ r1 = l1 → B2 (l2 + 1)) ∧ (r1 = l1 → Q l2))) l0 l2 M))
def NX12_pillarOf_2 (Q : Int32 → Prop) (l0 : Nat) (l1 : Int32) (l2 : Int32) (M : Mem) : Prop := xlp (fun (B : Int32 → Prop) a => lbX12_pillarOf_2 Q l0 l1 M (fun l2 => B (l2)) a) (l2)
theorem nX12_pillarOf_2 {Q : Int32 → Prop} {l0 : Nat} {l1 : Int32} {l2 : Int32} {M : Mem} (hk_l0 : SHk l0 = 12) (h : NX12_pillarOf_2 Q l0 l1 l2 M) : xX RX12 cX12_pillarOf 3 (some .int) 2 2 [(0, .ref l0), (1, .int l1), (2, .int l2)] [] M (xQi (xP M Q)) := by
  obtain ⟨n, h⟩ := h
  have hB2 : ∀ (n : Nat) (l2 : Int32), xlpn (fun (B : Int32 → Prop) a => lbX12_pillarOf_2 Q l0 l1 M (fun l2 => B (l2)) a) n (l2) → xX RX12 cX12_pillarOf 3 (some .int) 2 2 [(0, .ref l0), (1, .int l1), (2, .int l2)] [] M (xQi (xP M Q)) := by
    intro n
    induction n with
    | zero => intro l2 h; exact False.elim h
    | succ n ih =>
      intro l2 h
      have hB2 := ih
      have h : lbX12_pillarOf_2 Q l0 l1 M (fun l2 => xlpn (fun (B : Int32 → Prop) a => lbX12_pillarOf_2 Q l0 l1 M (fun l2 => B (l2)) a) n (l2)) l2 := h
      unfold lbX12_pillarOf_2 at h
      refine x_iload_n dX12_pillarOf_2 rfl 3 rfl ?_
      refine x_aload_n dX12_pillarOf_3 rfl 4 rfl ?_
      refine gf12_6 dX12_pillarOf_4 7 rfl hk_l0 kw5_165 ?_
      refine x_icmp_ge dX12_pillarOf_7 27 10 rfl rfl (fun hc => ?_) (fun hc => ?_)
      · have h := h.1 hc
        refine x_iconst dX12_pillarOf_27 kc_m1 28 rfl ?_
        exact x_iret dX12_pillarOf_28 ⟨rfl, h⟩
      · have h := h.2 hc
        refine x_aload_n dX12_pillarOf_10 rfl 11 rfl ?_
        refine x_iload_n dX12_pillarOf_11 rfl 12 rfl ?_
        refine kX12_sitterOf dX12_pillarOf_12 15 rfl hk_l0 kw6_90 (Nat.le_of_ble_eq_true rfl) (Nat.le_of_ble_eq_true rfl) h (fun r1 h => ?_)
        refine x_iload_n dX12_pillarOf_15 rfl 16 rfl ?_
        refine x_icmp_ne dX12_pillarOf_16 21 19 rfl rfl (fun hc => ?_) (fun hc => ?_)
        · have h := h.1 hc
          refine x_iinc dX12_pillarOf_21 rfl (congrArg (l2 + ·) kc_1) (Nat.le_of_ble_eq_true rfl) [(0, .ref l0), (1, .int l1), (2, .int (l2 + 1))] rfl 24 rfl ?_
          refine x_goto dX12_pillarOf_24 2 rfl ?_
          exact hB2 _ h
        · have h := h.2 hc
          refine x_iload_n dX12_pillarOf_19 rfl 20 rfl ?_
          exact x_iret dX12_pillarOf_20 ⟨rfl, h⟩
  exact hB2 n l2 h
def FX12_pillarOf (Q : Int32 → Prop) (l0 : Nat) (l1 : Int32) (M : Mem) : Prop :=
  NX12_pillarOf_2 Q l0 l1 0 M
theorem eX12_pillarOf {Q : Int32 → Prop} {l0 : Nat} {l1 : Int32} {M : Mem} (hk_l0 : SHk l0 = 12) (h : FX12_pillarOf Q l0 l1 M) : xX RX12 cX12_pillarOf 3 (some .int) 2 0 [(0, .ref l0), (1, .int l1)] [] M (xQi (xP M Q)) := by
  unfold FX12_pillarOf at h
  refine x_iconst dX12_pillarOf_0 kc_0 1 rfl ?_
  refine x_istore_n dX12_pillarOf_1 (Nat.le_of_ble_eq_true rfl) [(0, .ref l0), (1, .int l1), (2, .int 0)] rfl 2 rfl ?_
  exact nX12_pillarOf_2 hk_l0 h
theorem cX12_pillarOf_ {Q : Int32 → Prop} {l0 : Nat} {l1 : Int32} {M : Mem} (hk_l0 : SHk l0 = 12) (h : FX12_pillarOf Q l0 l1 M) : xM yX12_pillarOf cX12_pillarOf 3 (some .int) 2 [.ref l0, .int l1] M (xQi (xP M Q)) := xM_of (by decide +kernel) (Nat.le_of_ble_eq_true rfl) (eX12_pillarOf hk_l0 h)
theorem kX12_pillarOf {own : String} {cc : ByteArray} {nL : Nat} {rt : Option FieldType} {d pc ix : Nat} {L : List (Nat × Value)} {st : List Value} {M : Mem} {Rt : xGt → Array Value → State → Outcome → State → Prop} {Q : Int32 → Prop} {l0 : Nat} {l1 : Int32} (hd : decode cc pc = .ok (.invokevirtual ix, 3)) (q : Nat) (hq : pc + 3 = q) (hk_l0 : SHk l0 = 12) (w1 : Cond.methodLink own ix yX12_pillarOf ∈ xTs) (hr : 2 < d) (hst : (st.map fun v => v.category).sum ≤ 8) (h : FX12_pillarOf Q l0 l1 M) (k : ∀ (r : Int32), Q r → xX own cc nL rt d q L (.int r :: st) M Rt) : xX own cc nL rt d pc L (.int l1 :: .ref l0 :: st) M Rt :=
  x_callV_i (n := 1) (As := [.int l1]) hd q hq hk_l0 (by decide) rfl rfl w1 kw7_48 ks5_13 kw1_14 kw7_49 (by decide +kernel) rfl hr (by decide) hst _ rfl (cX12_pillarOf_ hk_l0 h) (fun r N hN => by obtain ⟨rfl, hN⟩ := hN; exact k r hN)
def lbX12_placeOf_2 (Q : Int32 → Prop) (l0 : Nat) (l1 : Int32) (M : Mem) (B2 : Int32 → Prop) (l2 : Int32) : Prop :=
  (((M (l0 + 1) 6) ≤ l2 → Q (-1)) ∧ (¬ (M (l0 + 1) 6) ≤ l2 → vp_in (93 + l2) 107 ∧ ((¬ (M (l0 + 1) (ix (93 + l2))) = l1 → B2 (l2 + 1)) ∧ ((M (l0 + 1) (ix (93 + l2))) = l1 → Q l2))))
def NX12_placeOf_2 (Q : Int32 → Prop) (l0 : Nat) (l1 : Int32) (l2 : Int32) (M : Mem) : Prop := xlp (fun (B : Int32 → Prop) a => lbX12_placeOf_2 Q l0 l1 M (fun l2 => B (l2)) a) (l2)
theorem nX12_placeOf_2 {Q : Int32 → Prop} {l0 : Nat} {l1 : Int32} {l2 : Int32} {M : Mem} (hk_l0 : SHk l0 = 12) (h : NX12_placeOf_2 Q l0 l1 l2 M) : xX RX12 cX12_placeOf 3 (some .int) 1 2 [(0, .ref l0), (1, .int l1), (2, .int l2)] [] M (xQi (xP M Q)) := by
  obtain ⟨n, h⟩ := h
  have hB2 : ∀ (n : Nat) (l2 : Int32), xlpn (fun (B : Int32 → Prop) a => lbX12_placeOf_2 Q l0 l1 M (fun l2 => B (l2)) a) n (l2) → xX RX12 cX12_placeOf 3 (some .int) 1 2 [(0, .ref l0), (1, .int l1), (2, .int l2)] [] M (xQi (xP M Q)) := by
    intro n
    induction n with
    | zero => intro l2 h; exact False.elim h
    | succ n ih =>
      intro l2 h
      have hB2 := ih
      have h : lbX12_placeOf_2 Q l0 l1 M (fun l2 => xlpn (fun (B : Int32 → Prop) a => lbX12_placeOf_2 Q l0 l1 M (fun l2 => B (l2)) a) n (l2)) l2 := h
      unfold lbX12_placeOf_2 at h
      refine x_iload_n dX12_placeOf_2 rfl 3 rfl ?_
      refine x_aload_n dX12_placeOf_3 rfl 4 rfl ?_
      refine gf12_1 dX12_placeOf_4 7 rfl hk_l0 kw5_160 ?_
      refine x_bipush dX12_placeOf_7 kb_6 9 rfl ?_
      refine x_iaload dX12_placeOf_9 (ly12_1 hk_l0) (by unfold vp_in; decide) 10 rfl ?_
      refine x_icmp_ge dX12_placeOf_10 34 13 rfl rfl (fun hc => ?_) (fun hc => ?_)
      · have h := h.1 hc
        refine x_iconst dX12_placeOf_34 kc_m1 35 rfl ?_
        exact x_iret dX12_placeOf_35 ⟨rfl, h⟩
      · have h := h.2 hc
        refine x_aload_n dX12_placeOf_13 rfl 14 rfl ?_
        refine gf12_1 dX12_placeOf_14 17 rfl hk_l0 kw5_160 ?_
        refine x_bipush dX12_placeOf_17 kb_93 19 rfl ?_
        refine x_iload_n dX12_placeOf_19 rfl 20 rfl ?_
        refine x_iadd dX12_placeOf_20 21 rfl ?_
        obtain ⟨hin, h⟩ := h
        refine x_iaload dX12_placeOf_21 (ly12_1 hk_l0) hin 22 rfl ?_
        refine x_iload_n dX12_placeOf_22 rfl 23 rfl ?_
        refine x_icmp_ne dX12_placeOf_23 28 26 rfl rfl (fun hc => ?_) (fun hc => ?_)
        · have h := h.1 hc
          refine x_iinc dX12_placeOf_28 rfl (congrArg (l2 + ·) kc_1) (Nat.le_of_ble_eq_true rfl) [(0, .ref l0), (1, .int l1), (2, .int (l2 + 1))] rfl 31 rfl ?_
          refine x_goto dX12_placeOf_31 2 rfl ?_
          exact hB2 _ h
        · have h := h.2 hc
          refine x_iload_n dX12_placeOf_26 rfl 27 rfl ?_
          exact x_iret dX12_placeOf_27 ⟨rfl, h⟩
  exact hB2 n l2 h
def FX12_placeOf (Q : Int32 → Prop) (l0 : Nat) (l1 : Int32) (M : Mem) : Prop :=
  NX12_placeOf_2 Q l0 l1 0 M
theorem eX12_placeOf {Q : Int32 → Prop} {l0 : Nat} {l1 : Int32} {M : Mem} (hk_l0 : SHk l0 = 12) (h : FX12_placeOf Q l0 l1 M) : xX RX12 cX12_placeOf 3 (some .int) 1 0 [(0, .ref l0), (1, .int l1)] [] M (xQi (xP M Q)) := by
  unfold FX12_placeOf at h
  refine x_iconst dX12_placeOf_0 kc_0 1 rfl ?_
  refine x_istore_n dX12_placeOf_1 (Nat.le_of_ble_eq_true rfl) [(0, .ref l0), (1, .int l1), (2, .int 0)] rfl 2 rfl ?_
  exact nX12_placeOf_2 hk_l0 h
theorem cX12_placeOf_ {Q : Int32 → Prop} {l0 : Nat} {l1 : Int32} {M : Mem} (hk_l0 : SHk l0 = 12) (h : FX12_placeOf Q l0 l1 M) : xM yX12_placeOf cX12_placeOf 3 (some .int) 1 [.ref l0, .int l1] M (xQi (xP M Q)) := xM_of (by decide +kernel) (Nat.le_of_ble_eq_true rfl) (eX12_placeOf hk_l0 h)
theorem kX12_placeOf {own : String} {cc : ByteArray} {nL : Nat} {rt : Option FieldType} {d pc ix : Nat} {L : List (Nat × Value)} {st : List Value} {M : Mem} {Rt : xGt → Array Value → State → Outcome → State → Prop} {Q : Int32 → Prop} {l0 : Nat} {l1 : Int32} (hd : decode cc pc = .ok (.invokevirtual ix, 3)) (q : Nat) (hq : pc + 3 = q) (hk_l0 : SHk l0 = 12) (w1 : Cond.methodLink own ix yX12_placeOf ∈ xTs) (hr : 1 < d) (hst : (st.map fun v => v.category).sum ≤ 8) (h : FX12_placeOf Q l0 l1 M) (k : ∀ (r : Int32), Q r → xX own cc nL rt d q L (.int r :: st) M Rt) : xX own cc nL rt d pc L (.int l1 :: .ref l0 :: st) M Rt :=
  x_callV_i (n := 1) (As := [.int l1]) hd q hq hk_l0 (by decide) rfl rfl w1 kw7_170 ks7_10 kw1_14 kw7_171 (by decide +kernel) rfl hr (by decide) hst _ rfl (cX12_placeOf_ hk_l0 h) (fun r N hN => by obtain ⟨rfl, hN⟩ := hN; exact k r hN)
def lbX12_highest_7 (Q : Int32 → Prop) (l0 : Nat) (M : Mem) (B7 : Int32 → Prop) (l1 : Int32) : Prop :=
  ((l1 < 0 → Q (-1)) ∧ (¬ l1 < 0 → FX12_sitterOf (fun (r1 : Int32) => ((r1 = (-1) → B7 (l1 + (-1))) ∧ (¬ r1 = (-1) → Q l1))) l0 l1 M))
def NX12_highest_7 (Q : Int32 → Prop) (l0 : Nat) (l1 : Int32) (M : Mem) : Prop := xlp (fun (B : Int32 → Prop) a => lbX12_highest_7 Q l0 M (fun l1 => B (l1)) a) (l1)
theorem nX12_highest_7 {Q : Int32 → Prop} {l0 : Nat} {l1 : Int32} {M : Mem} (hk_l0 : SHk l0 = 12) (h : NX12_highest_7 Q l0 l1 M) : xX RX12 cX12_highest 2 (some .int) 2 7 [(0, .ref l0), (1, .int l1)] [] M (xQi (xP M Q)) := by
  obtain ⟨n, h⟩ := h
  have hB7 : ∀ (n : Nat) (l1 : Int32), xlpn (fun (B : Int32 → Prop) a => lbX12_highest_7 Q l0 M (fun l1 => B (l1)) a) n (l1) → xX RX12 cX12_highest 2 (some .int) 2 7 [(0, .ref l0), (1, .int l1)] [] M (xQi (xP M Q)) := by
    intro n
    induction n with
    | zero => intro l1 h; exact False.elim h
    | succ n ih =>
      intro l1 h
      have hB7 := ih
      have h : lbX12_highest_7 Q l0 M (fun l1 => xlpn (fun (B : Int32 → Prop) a => lbX12_highest_7 Q l0 M (fun l1 => B (l1)) a) n (l1)) l1 := h
      unfold lbX12_highest_7 at h
      refine x_iload_n dX12_highest_7 rfl 8 rfl ?_
      refine x_if_lt dX12_highest_8 28 11 rfl rfl (fun hc => ?_) (fun hc => ?_)
      · have h := h.1 hc
        refine x_iconst dX12_highest_28 kc_m1 29 rfl ?_
        exact x_iret dX12_highest_29 ⟨rfl, h⟩
      · have h := h.2 hc
        refine x_aload_n dX12_highest_11 rfl 12 rfl ?_
        refine x_iload_n dX12_highest_12 rfl 13 rfl ?_
        refine kX12_sitterOf dX12_highest_13 16 rfl hk_l0 kw6_90 (Nat.le_of_ble_eq_true rfl) (Nat.le_of_ble_eq_true rfl) h (fun r1 h => ?_)
        refine x_iconst dX12_highest_16 kc_m1 17 rfl ?_
        refine x_icmp_eq dX12_highest_17 22 20 rfl rfl (fun hc => ?_) (fun hc => ?_)
        · have h := h.1 hc
          refine x_iinc dX12_highest_22 rfl (congrArg (l1 + ·) kc_m1) (Nat.le_of_ble_eq_true rfl) [(0, .ref l0), (1, .int (l1 + (-1)))] rfl 25 rfl ?_
          refine x_goto dX12_highest_25 7 rfl ?_
          exact hB7 _ h
        · have h := h.2 hc
          refine x_iload_n dX12_highest_20 rfl 21 rfl ?_
          exact x_iret dX12_highest_21 ⟨rfl, h⟩
  exact hB7 n l1 h
def FX12_highest (Q : Int32 → Prop) (l0 : Nat) (M : Mem) : Prop :=
  NX12_highest_7 Q l0 ((M l0 6) - 1) M
theorem eX12_highest {Q : Int32 → Prop} {l0 : Nat} {M : Mem} (hk_l0 : SHk l0 = 12) (h : FX12_highest Q l0 M) : xX RX12 cX12_highest 2 (some .int) 2 0 [(0, .ref l0)] [] M (xQi (xP M Q)) := by
  unfold FX12_highest at h
  refine x_aload_n dX12_highest_0 rfl 1 rfl ?_
  refine gf12_6 dX12_highest_1 4 rfl hk_l0 kw5_165 ?_
  refine x_iconst dX12_highest_4 kc_1 5 rfl ?_
  refine x_isub dX12_highest_5 6 rfl ?_
  refine x_istore_n dX12_highest_6 (Nat.le_of_ble_eq_true rfl) [(0, .ref l0), (1, .int ((M l0 6) - 1))] rfl 7 rfl ?_
  exact nX12_highest_7 hk_l0 h
theorem cX12_highest_ {Q : Int32 → Prop} {l0 : Nat} {M : Mem} (hk_l0 : SHk l0 = 12) (h : FX12_highest Q l0 M) : xM yX12_highest cX12_highest 2 (some .int) 2 [.ref l0] M (xQi (xP M Q)) := xM_of (by decide +kernel) (Nat.le_of_ble_eq_true rfl) (eX12_highest hk_l0 h)
theorem kX12_highest {own : String} {cc : ByteArray} {nL : Nat} {rt : Option FieldType} {d pc ix : Nat} {L : List (Nat × Value)} {st : List Value} {M : Mem} {Rt : xGt → Array Value → State → Outcome → State → Prop} {Q : Int32 → Prop} {l0 : Nat} (hd : decode cc pc = .ok (.invokevirtual ix, 3)) (q : Nat) (hq : pc + 3 = q) (hk_l0 : SHk l0 = 12) (w1 : Cond.methodLink own ix yX12_highest ∈ xTs) (hr : 2 < d) (hst : (st.map fun v => v.category).sum ≤ 8) (h : FX12_highest Q l0 M) (k : ∀ (r : Int32), Q r → xX own cc nL rt d q L (.int r :: st) M Rt) : xX own cc nL rt d pc L (.ref l0 :: st) M Rt :=
  x_callV_i (n := 0) (As := []) hd q hq hk_l0 (by decide) rfl rfl w1 kw7_44 ks5_12 kw1_14 kw7_45 (by decide +kernel) rfl hr (by decide) hst _ rfl (cX12_highest_ hk_l0 h) (fun r N hN => by obtain ⟨rfl, hN⟩ := hN; exact k r hN)
def lbX12_nextBelow_4 (Q : Int32 → Prop) (l0 : Nat) (M : Mem) (B4 : Int32 → Prop) (l2 : Int32) : Prop :=
  ((l2 < 0 → Q (-1)) ∧ (¬ l2 < 0 → FX12_sitterOf (fun (r1 : Int32) => ((r1 = (-1) → B4 (l2 + (-1))) ∧ (¬ r1 = (-1) → Q l2))) l0 l2 M))
def NX12_nextBelow_4 (Q : Int32 → Prop) (l0 : Nat) (l2 : Int32) (M : Mem) : Prop := xlp (fun (B : Int32 → Prop) a => lbX12_nextBelow_4 Q l0 M (fun l2 => B (l2)) a) (l2)
theorem nX12_nextBelow_4 {Q : Int32 → Prop} {l0 : Nat} {l2 : Int32} {M : Mem} (hk_l0 : SHk l0 = 12) (h : NX12_nextBelow_4 Q l0 l2 M) : xX RX12 cX12_nextBelow 3 (some .int) 2 4 [(0, .ref l0), (2, .int l2)] [] M (xQi (xP M Q)) := by
  obtain ⟨n, h⟩ := h
  have hB4 : ∀ (n : Nat) (l2 : Int32), xlpn (fun (B : Int32 → Prop) a => lbX12_nextBelow_4 Q l0 M (fun l2 => B (l2)) a) n (l2) → xX RX12 cX12_nextBelow 3 (some .int) 2 4 [(0, .ref l0), (2, .int l2)] [] M (xQi (xP M Q)) := by
    intro n
    induction n with
    | zero => intro l2 h; exact False.elim h
    | succ n ih =>
      intro l2 h
      have hB4 := ih
      have h : lbX12_nextBelow_4 Q l0 M (fun l2 => xlpn (fun (B : Int32 → Prop) a => lbX12_nextBelow_4 Q l0 M (fun l2 => B (l2)) a) n (l2)) l2 := h
      unfold lbX12_nextBelow_4 at h
      refine x_iload_n dX12_nextBelow_4 rfl 5 rfl ?_
      refine x_if_lt dX12_nextBelow_5 25 8 rfl rfl (fun hc => ?_) (fun hc => ?_)
      · have h := h.1 hc
        refine x_iconst dX12_nextBelow_25 kc_m1 26 rfl ?_
        exact x_iret dX12_nextBelow_26 ⟨rfl, h⟩
      · have h := h.2 hc
        refine x_aload_n dX12_nextBelow_8 rfl 9 rfl ?_
        refine x_iload_n dX12_nextBelow_9 rfl 10 rfl ?_
        refine kX12_sitterOf dX12_nextBelow_10 13 rfl hk_l0 kw6_90 (Nat.le_of_ble_eq_true rfl) (Nat.le_of_ble_eq_true rfl) h (fun r1 h => ?_)
        refine x_iconst dX12_nextBelow_13 kc_m1 14 rfl ?_
        refine x_icmp_eq dX12_nextBelow_14 19 17 rfl rfl (fun hc => ?_) (fun hc => ?_)
        · have h := h.1 hc
          refine x_iinc dX12_nextBelow_19 rfl (congrArg (l2 + ·) kc_m1) (Nat.le_of_ble_eq_true rfl) [(0, .ref l0), (2, .int (l2 + (-1)))] rfl 22 rfl ?_
          refine x_goto dX12_nextBelow_22 4 rfl ?_
          exact hB4 _ h
        · have h := h.2 hc
          refine x_iload_n dX12_nextBelow_17 rfl 18 rfl ?_
          exact x_iret dX12_nextBelow_18 ⟨rfl, h⟩
  exact hB4 n l2 h
def FX12_nextBelow (Q : Int32 → Prop) (l0 : Nat) (l1 : Int32) (M : Mem) : Prop :=
  NX12_nextBelow_4 Q l0 (l1 - 1) M
theorem eX12_nextBelow {Q : Int32 → Prop} {l0 : Nat} {l1 : Int32} {M : Mem} (hk_l0 : SHk l0 = 12) (h : FX12_nextBelow Q l0 l1 M) : xX RX12 cX12_nextBelow 3 (some .int) 2 0 [(0, .ref l0), (1, .int l1)] [] M (xQi (xP M Q)) := by
  unfold FX12_nextBelow at h
  refine x_iload_n dX12_nextBelow_0 rfl 1 rfl ?_
  refine x_iconst dX12_nextBelow_1 kc_1 2 rfl ?_
  refine x_isub dX12_nextBelow_2 3 rfl ?_
  refine x_istore_n dX12_nextBelow_3 (Nat.le_of_ble_eq_true rfl) [(0, .ref l0), (1, .int l1), (2, .int (l1 - 1))] rfl 4 rfl ?_
  refine x_weak [(0, .ref l0), (2, .int (l1 - 1))] [0, 2] rfl ?_
  exact nX12_nextBelow_4 hk_l0 h
theorem cX12_nextBelow_ {Q : Int32 → Prop} {l0 : Nat} {l1 : Int32} {M : Mem} (hk_l0 : SHk l0 = 12) (h : FX12_nextBelow Q l0 l1 M) : xM yX12_nextBelow cX12_nextBelow 3 (some .int) 2 [.ref l0, .int l1] M (xQi (xP M Q)) := xM_of (by decide +kernel) (Nat.le_of_ble_eq_true rfl) (eX12_nextBelow hk_l0 h)
theorem kX12_nextBelow {own : String} {cc : ByteArray} {nL : Nat} {rt : Option FieldType} {d pc ix : Nat} {L : List (Nat × Value)} {st : List Value} {M : Mem} {Rt : xGt → Array Value → State → Outcome → State → Prop} {Q : Int32 → Prop} {l0 : Nat} {l1 : Int32} (hd : decode cc pc = .ok (.invokevirtual ix, 3)) (q : Nat) (hq : pc + 3 = q) (hk_l0 : SHk l0 = 12) (w1 : Cond.methodLink own ix yX12_nextBelow ∈ xTs) (hr : 2 < d) (hst : (st.map fun v => v.category).sum ≤ 8) (h : FX12_nextBelow Q l0 l1 M) (k : ∀ (r : Int32), Q r → xX own cc nL rt d q L (.int r :: st) M Rt) : xX own cc nL rt d pc L (.int l1 :: .ref l0 :: st) M Rt :=
  x_callV_i (n := 1) (As := [.int l1]) hd q hq hk_l0 (by decide) rfl rfl w1 kw6_96 ks3_4 kw1_14 kw6_97 (by decide +kernel) rfl hr (by decide) hst _ rfl (cX12_nextBelow_ hk_l0 h) (fun r N hN => by obtain ⟨rfl, hN⟩ := hN; exact k r hN)
def lbX12_nextAbove_4 (Q : Int32 → Prop) (l0 : Nat) (M : Mem) (B4 : Int32 → Prop) (l2 : Int32) : Prop :=
  (((M l0 6) ≤ l2 → Q (-1)) ∧ (¬ (M l0 6) ≤ l2 → FX12_sitterOf (fun (r1 : Int32) => ((r1 = (-1) → B4 (l2 + 1)) ∧ (¬ r1 = (-1) → Q l2))) l0 l2 M))
def NX12_nextAbove_4 (Q : Int32 → Prop) (l0 : Nat) (l2 : Int32) (M : Mem) : Prop := xlp (fun (B : Int32 → Prop) a => lbX12_nextAbove_4 Q l0 M (fun l2 => B (l2)) a) (l2)
theorem nX12_nextAbove_4 {Q : Int32 → Prop} {l0 : Nat} {l2 : Int32} {M : Mem} (hk_l0 : SHk l0 = 12) (h : NX12_nextAbove_4 Q l0 l2 M) : xX RX12 cX12_nextAbove 3 (some .int) 2 4 [(0, .ref l0), (2, .int l2)] [] M (xQi (xP M Q)) := by
  obtain ⟨n, h⟩ := h
  have hB4 : ∀ (n : Nat) (l2 : Int32), xlpn (fun (B : Int32 → Prop) a => lbX12_nextAbove_4 Q l0 M (fun l2 => B (l2)) a) n (l2) → xX RX12 cX12_nextAbove 3 (some .int) 2 4 [(0, .ref l0), (2, .int l2)] [] M (xQi (xP M Q)) := by
    intro n
    induction n with
    | zero => intro l2 h; exact False.elim h
    | succ n ih =>
      intro l2 h
      have hB4 := ih
      have h : lbX12_nextAbove_4 Q l0 M (fun l2 => xlpn (fun (B : Int32 → Prop) a => lbX12_nextAbove_4 Q l0 M (fun l2 => B (l2)) a) n (l2)) l2 := h
      unfold lbX12_nextAbove_4 at h
      refine x_iload_n dX12_nextAbove_4 rfl 5 rfl ?_
      refine x_aload_n dX12_nextAbove_5 rfl 6 rfl ?_
      refine gf12_6 dX12_nextAbove_6 9 rfl hk_l0 kw5_165 ?_
      refine x_icmp_ge dX12_nextAbove_9 29 12 rfl rfl (fun hc => ?_) (fun hc => ?_)
      · have h := h.1 hc
        refine x_iconst dX12_nextAbove_29 kc_m1 30 rfl ?_
        exact x_iret dX12_nextAbove_30 ⟨rfl, h⟩
      · have h := h.2 hc
        refine x_aload_n dX12_nextAbove_12 rfl 13 rfl ?_
        refine x_iload_n dX12_nextAbove_13 rfl 14 rfl ?_
        refine kX12_sitterOf dX12_nextAbove_14 17 rfl hk_l0 kw6_90 (Nat.le_of_ble_eq_true rfl) (Nat.le_of_ble_eq_true rfl) h (fun r1 h => ?_)
        refine x_iconst dX12_nextAbove_17 kc_m1 18 rfl ?_
        refine x_icmp_eq dX12_nextAbove_18 23 21 rfl rfl (fun hc => ?_) (fun hc => ?_)
        · have h := h.1 hc
          refine x_iinc dX12_nextAbove_23 rfl (congrArg (l2 + ·) kc_1) (Nat.le_of_ble_eq_true rfl) [(0, .ref l0), (2, .int (l2 + 1))] rfl 26 rfl ?_
          refine x_goto dX12_nextAbove_26 4 rfl ?_
          exact hB4 _ h
        · have h := h.2 hc
          refine x_iload_n dX12_nextAbove_21 rfl 22 rfl ?_
          exact x_iret dX12_nextAbove_22 ⟨rfl, h⟩
  exact hB4 n l2 h
def FX12_nextAbove (Q : Int32 → Prop) (l0 : Nat) (l1 : Int32) (M : Mem) : Prop :=
  NX12_nextAbove_4 Q l0 (l1 + 1) M
theorem eX12_nextAbove {Q : Int32 → Prop} {l0 : Nat} {l1 : Int32} {M : Mem} (hk_l0 : SHk l0 = 12) (h : FX12_nextAbove Q l0 l1 M) : xX RX12 cX12_nextAbove 3 (some .int) 2 0 [(0, .ref l0), (1, .int l1)] [] M (xQi (xP M Q)) := by
  unfold FX12_nextAbove at h
  refine x_iload_n dX12_nextAbove_0 rfl 1 rfl ?_
  refine x_iconst dX12_nextAbove_1 kc_1 2 rfl ?_
  refine x_iadd dX12_nextAbove_2 3 rfl ?_
  refine x_istore_n dX12_nextAbove_3 (Nat.le_of_ble_eq_true rfl) [(0, .ref l0), (1, .int l1), (2, .int (l1 + 1))] rfl 4 rfl ?_
  refine x_weak [(0, .ref l0), (2, .int (l1 + 1))] [0, 2] rfl ?_
  exact nX12_nextAbove_4 hk_l0 h
theorem cX12_nextAbove_ {Q : Int32 → Prop} {l0 : Nat} {l1 : Int32} {M : Mem} (hk_l0 : SHk l0 = 12) (h : FX12_nextAbove Q l0 l1 M) : xM yX12_nextAbove cX12_nextAbove 3 (some .int) 2 [.ref l0, .int l1] M (xQi (xP M Q)) := xM_of (by decide +kernel) (Nat.le_of_ble_eq_true rfl) (eX12_nextAbove hk_l0 h)
theorem kX12_nextAbove {own : String} {cc : ByteArray} {nL : Nat} {rt : Option FieldType} {d pc ix : Nat} {L : List (Nat × Value)} {st : List Value} {M : Mem} {Rt : xGt → Array Value → State → Outcome → State → Prop} {Q : Int32 → Prop} {l0 : Nat} {l1 : Int32} (hd : decode cc pc = .ok (.invokevirtual ix, 3)) (q : Nat) (hq : pc + 3 = q) (hk_l0 : SHk l0 = 12) (w1 : Cond.methodLink own ix yX12_nextAbove ∈ xTs) (hr : 2 < d) (hst : (st.map fun v => v.category).sum ≤ 8) (h : FX12_nextAbove Q l0 l1 M) (k : ∀ (r : Int32), Q r → xX own cc nL rt d q L (.int r :: st) M Rt) : xX own cc nL rt d pc L (.int l1 :: .ref l0 :: st) M Rt :=
  x_callV_i (n := 1) (As := [.int l1]) hd q hq hk_l0 (by decide) rfl rfl w1 kw7_108 ks6_11 kw1_14 kw7_109 (by decide +kernel) rfl hr (by decide) hst _ rfl (cX12_nextAbove_ hk_l0 h) (fun r N hN => by obtain ⟨rfl, hN⟩ := hN; exact k r hN)
def FX12_notes (Q : Mem → Prop) (l0 : Nat) (l1 : Int32) (l2 : Int32) (l3 : Int32) (M : Mem) : Prop :=
  ((¬ (M l0 5) = 0 → Q M) ∧ ((M l0 5) = 0 → ((¬ (M (l0 + 1) 2) = 150 → vp_in (4 * (M (l0 + 1) 2)) 600 ∧ ∀ M1 : Mem, M1 = xu M (l0 + 5) (ix (4 * (M (l0 + 1) 2))) (M (l0 + 1) 0) → vp_in ((4 * (M (l0 + 1) 2)) + 1) 600 ∧ ∀ M2 : Mem, M2 = xu M1 (l0 + 5) (ix ((4 * (M (l0 + 1) 2)) + 1)) l1 → vp_in ((4 * (M (l0 + 1) 2)) + 2) 600 ∧ ∀ M3 : Mem, M3 = xu M2 (l0 + 5) (ix ((4 * (M (l0 + 1) 2)) + 2)) l2 → vp_in ((4 * (M (l0 + 1) 2)) + 3) 600 ∧ ∀ M4 : Mem, M4 = xu M3 (l0 + 5) (ix ((4 * (M (l0 + 1) 2)) + 3)) l3 → ∀ M5 : Mem, M5 = xu M4 (l0 + 1) (2) ((M4 (l0 + 1) 2) + 1) → Q M5) ∧ ((M (l0 + 1) 2) = 150 → Q M))))
theorem eX12_notes {Q : Mem → Prop} {l0 : Nat} {l1 : Int32} {l2 : Int32} {l3 : Int32} {M : Mem} (hk_l0 : SHk l0 = 12) (h : FX12_notes Q l0 l1 l2 l3 M) : xX RX12 cX12_notes 5 none 1 0 [(0, .ref l0), (1, .int l1), (2, .int l2), (3, .int l3)] [] M (xQv Q) := by
  unfold FX12_notes at h
  refine x_aload_n dX12_notes_0 rfl 1 rfl ?_
  refine gf12_5 dX12_notes_1 4 rfl hk_l0 kw5_164 ?_
  refine x_if_ne dX12_notes_4 19 7 rfl rfl (fun hc => ?_) (fun hc => ?_)
  · have h := h.1 hc
    exact x_vret dX12_notes_19 h
  · have h := h.2 hc
    refine x_aload_n dX12_notes_7 rfl 8 rfl ?_
    refine gf12_1 dX12_notes_8 11 rfl hk_l0 kw5_160 ?_
    refine x_iconst dX12_notes_11 kc_2 12 rfl ?_
    refine x_iaload dX12_notes_12 (ly12_1 hk_l0) (by unfold vp_in; decide) 13 rfl ?_
    refine x_sipush dX12_notes_13 kh_150 16 rfl ?_
    refine x_icmp_ne dX12_notes_16 20 19 rfl rfl (fun hc => ?_) (fun hc => ?_)
    · have h := h.1 hc
      refine x_iconst dX12_notes_20 kc_4 21 rfl ?_
      refine x_aload_n dX12_notes_21 rfl 22 rfl ?_
      refine gf12_1 dX12_notes_22 25 rfl hk_l0 kw5_160 ?_
      refine x_iconst dX12_notes_25 kc_2 26 rfl ?_
      refine x_iaload dX12_notes_26 (ly12_1 hk_l0) (by unfold vp_in; decide) 27 rfl ?_
      refine x_imul dX12_notes_27 28 rfl ?_
      refine x_istore dX12_notes_28 (Nat.le_of_ble_eq_true rfl) [(0, .ref l0), (1, .int l1), (2, .int l2), (3, .int l3), (4, .int (4 * (M (l0 + 1) 2)))] rfl 30 rfl ?_
      refine x_aload_n dX12_notes_30 rfl 31 rfl ?_
      refine gf12_9 dX12_notes_31 34 rfl hk_l0 kw5_168 ?_
      refine x_iload dX12_notes_34 rfl 36 rfl ?_
      refine x_aload_n dX12_notes_36 rfl 37 rfl ?_
      refine gf12_1 dX12_notes_37 40 rfl hk_l0 kw5_160 ?_
      refine x_iconst dX12_notes_40 kc_0 41 rfl ?_
      refine x_iaload dX12_notes_41 (ly12_1 hk_l0) (by unfold vp_in; decide) 42 rfl ?_
      obtain ⟨hin, h⟩ := h
      refine x_iastore dX12_notes_42 (ly12_9 hk_l0) hin 43 rfl (x_mem (fun M1 hM1 => ?_))
      have h := h M1 hM1
      refine x_aload_n dX12_notes_43 rfl 44 rfl ?_
      refine gf12_9 dX12_notes_44 47 rfl hk_l0 kw5_168 ?_
      refine x_iload dX12_notes_47 rfl 49 rfl ?_
      refine x_iconst dX12_notes_49 kc_1 50 rfl ?_
      refine x_iadd dX12_notes_50 51 rfl ?_
      refine x_iload_n dX12_notes_51 rfl 52 rfl ?_
      obtain ⟨hin, h⟩ := h
      refine x_iastore dX12_notes_52 (ly12_9 hk_l0) hin 53 rfl (x_mem (fun M2 hM2 => ?_))
      have h := h M2 hM2
      refine x_aload_n dX12_notes_53 rfl 54 rfl ?_
      refine gf12_9 dX12_notes_54 57 rfl hk_l0 kw5_168 ?_
      refine x_iload dX12_notes_57 rfl 59 rfl ?_
      refine x_iconst dX12_notes_59 kc_2 60 rfl ?_
      refine x_iadd dX12_notes_60 61 rfl ?_
      refine x_iload_n dX12_notes_61 rfl 62 rfl ?_
      obtain ⟨hin, h⟩ := h
      refine x_iastore dX12_notes_62 (ly12_9 hk_l0) hin 63 rfl (x_mem (fun M3 hM3 => ?_))
      have h := h M3 hM3
      refine x_aload_n dX12_notes_63 rfl 64 rfl ?_
      refine gf12_9 dX12_notes_64 67 rfl hk_l0 kw5_168 ?_
      refine x_iload dX12_notes_67 rfl 69 rfl ?_
      refine x_iconst dX12_notes_69 kc_3 70 rfl ?_
      refine x_iadd dX12_notes_70 71 rfl ?_
      refine x_iload_n dX12_notes_71 rfl 72 rfl ?_
      obtain ⟨hin, h⟩ := h
      refine x_iastore dX12_notes_72 (ly12_9 hk_l0) hin 73 rfl (x_mem (fun M4 hM4 => ?_))
      have h := h M4 hM4
      refine x_aload_n dX12_notes_73 rfl 74 rfl ?_
      refine gf12_1 dX12_notes_74 77 rfl hk_l0 kw5_160 ?_
      refine x_iconst dX12_notes_77 kc_2 78 rfl ?_
      refine x_aload_n dX12_notes_78 rfl 79 rfl ?_
      refine gf12_1 dX12_notes_79 82 rfl hk_l0 kw5_160 ?_
      refine x_iconst dX12_notes_82 kc_2 83 rfl ?_
      refine x_iaload dX12_notes_83 (ly12_1 hk_l0) (by unfold vp_in; decide) 84 rfl ?_
      refine x_iconst dX12_notes_84 kc_1 85 rfl ?_
      refine x_iadd dX12_notes_85 86 rfl ?_
      refine x_iastore dX12_notes_86 (ly12_1 hk_l0) (by unfold vp_in; decide) 87 rfl (x_mem (fun M5 hM5 => ?_))
      have h := h M5 hM5
      exact x_vret dX12_notes_87 h
    · have h := h.2 hc
      exact x_vret dX12_notes_19 h
theorem cX12_notes_ {Q : Mem → Prop} {l0 : Nat} {l1 : Int32} {l2 : Int32} {l3 : Int32} {M : Mem} (hk_l0 : SHk l0 = 12) (h : FX12_notes Q l0 l1 l2 l3 M) : xM yX12_notes cX12_notes 5 none 1 [.ref l0, .int l1, .int l2, .int l3] M (xQv Q) := xM_of (by decide +kernel) (Nat.le_of_ble_eq_true rfl) (eX12_notes hk_l0 h)
theorem kX12_notes {own : String} {cc : ByteArray} {nL : Nat} {rt : Option FieldType} {d pc ix : Nat} {L : List (Nat × Value)} {st : List Value} {M : Mem} {Rt : xGt → Array Value → State → Outcome → State → Prop} {Q : Mem → Prop} {l0 : Nat} {l1 : Int32} {l2 : Int32} {l3 : Int32} (hd : decode cc pc = .ok (.invokevirtual ix, 3)) (q : Nat) (hq : pc + 3 = q) (hk_l0 : SHk l0 = 12) (w1 : Cond.methodLink own ix yX12_notes ∈ xTs) (hr : 1 < d) (hst : (st.map fun v => v.category).sum ≤ 8) (h : FX12_notes Q l0 l1 l2 l3 M) (k : ∀ (N : Mem), Q N → xX own cc nL rt d q L st N Rt) : xX own cc nL rt d pc L (.int l3 :: .int l2 :: .int l1 :: .ref l0 :: st) M Rt :=
  x_callV_v (n := 3) (As := [.int l1, .int l2, .int l3]) hd q hq hk_l0 (by decide) rfl rfl w1 kw6_104 ks3_6 kw1_14 kw6_105 (by decide +kernel) rfl hr (by decide) hst _ rfl (cX12_notes_ hk_l0 h) k
