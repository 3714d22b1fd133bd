def lbX11_loaves_12 (Q : Int32 → Mem → Prop) (l0 : Nat) (l1 : Nat) (B12 : Int32 → Int32 → Mem → Prop) (l2 : Int32) (l3 : Int32) (M : Mem) : Prop :=
  (((M l1 10) ≤ l3 → Q l2 M) ∧ (¬ (M l1 10) ≤ l3 → FX9_sitterOn (fun (r1 : Int32) => ((r1 = (-1) → B12 l2 (l3 + 1) M) ∧ (¬ r1 = (-1) → FX2_tells (fun (r3 : Int32) (M2 : Mem) => B12 (l2 + r3) (l3 + 1) M2) ((l0 + 1) + 11) 0 l1 r1 M))) l1 l3 M))
def NX11_loaves_12 (Q : Int32 → Mem → Prop) (l0 : Nat) (l1 : Nat) (l2 : Int32) (l3 : Int32) (M : Mem) : Prop := xlp (fun (B : Int32 × Int32 × Mem → Prop) a => lbX11_loaves_12 Q l0 l1 (fun l2 l3 M => B (l2, l3, M)) a.1 a.2.1 a.2.2) (l2, l3, M)
theorem nX11_loaves_12 {Q : Int32 → Mem → Prop} {l0 : Nat} {l1 : Nat} {l2 : Int32} {l3 : Int32} {M : Mem} (hk_l0 : SHk l0 = 11) (hk_l1 : SHk l1 = 9) (h : NX11_loaves_12 Q l0 l1 l2 l3 M) : xX RX11 cX11_loaves 5 (some .int) 5 12 [(0, .ref l0), (1, .ref l1), (2, .int l2), (3, .int l3)] [] M (xQi Q) := by
  obtain ⟨n, h⟩ := h
  have hB12 : ∀ (n : Nat) (l2 : Int32) (l3 : Int32) (M : Mem), xlpn (fun (B : Int32 × Int32 × Mem → Prop) a => lbX11_loaves_12 Q l0 l1 (fun l2 l3 M => B (l2, l3, M)) a.1 a.2.1 a.2.2) n (l2, l3, M) → xX RX11 cX11_loaves 5 (some .int) 5 12 [(0, .ref l0), (1, .ref l1), (2, .int l2), (3, .int l3)] [] M (xQi Q) := by
    intro n
    induction n with
    | zero => intro l2 l3 M h; exact False.elim h
    | succ n ih =>
      intro l2 l3 M h
      have hB12 := ih
      have h : lbX11_loaves_12 Q l0 l1 (fun l2 l3 M => xlpn (fun (B : Int32 × Int32 × Mem → Prop) a => lbX11_loaves_12 Q l0 l1 (fun l2 l3 M => B (l2, l3, M)) a.1 a.2.1 a.2.2) n (l2, l3, M)) l2 l3 M := h
      unfold lbX11_loaves_12 at h
      refine x_iload_n dX11_loaves_12 rfl 13 rfl ?_
      refine x_aload_n dX11_loaves_13 rfl 14 rfl ?_
      refine gf9_10 dX11_loaves_14 17 rfl hk_l1 kw1_69 ?_
      refine x_icmp_ge dX11_loaves_17 56 20 rfl rfl (fun hc => ?_) (fun hc => ?_)
      · have h := h.1 hc
        refine x_iload_n dX11_loaves_56 rfl 57 rfl ?_
        exact x_iret dX11_loaves_57 h
      · have h := h.2 hc
        refine x_aload_n dX11_loaves_20 rfl 21 rfl ?_
        refine x_iload_n dX11_loaves_21 rfl 22 rfl ?_
        refine kX9_sitterOn dX11_loaves_22 25 rfl hk_l1 kw4_207 (Nat.le_of_ble_eq_true rfl) (Nat.le_of_ble_eq_true rfl) h (fun r1 h => ?_)
        refine x_istore dX11_loaves_25 (Nat.le_of_ble_eq_true rfl) [(0, .ref l0), (1, .ref l1), (2, .int l2), (3, .int l3), (4, .int r1)] rfl 27 rfl ?_
        refine x_iload dX11_loaves_27 rfl 29 rfl ?_
        refine x_iconst dX11_loaves_29 kc_m1 30 rfl ?_
        refine x_icmp_eq dX11_loaves_30 50 33 rfl rfl (fun hc => ?_) (fun hc => ?_)
        · have h := h.1 hc
          refine x_iinc dX11_loaves_50 rfl (congrArg (l3 + ·) kc_1) (Nat.le_of_ble_eq_true rfl) [(0, .ref l0), (1, .ref l1), (2, .int l2), (3, .int (l3 + 1)), (4, .int r1)] rfl 53 rfl ?_
          refine x_goto dX11_loaves_53 12 rfl ?_
          refine x_weak [(0, .ref l0), (1, .ref l1), (2, .int l2), (3, .int (l3 + 1))] [0, 1, 2, 3] rfl ?_
          exact hB12 _ _ _ h
        · have h := h.2 hc
          refine x_iload_n dX11_loaves_33 rfl 34 rfl ?_
          refine x_aload_n dX11_loaves_34 rfl 35 rfl ?_
          refine gf11_0 dX11_loaves_35 38 rfl hk_l0 kw2_148 ?_
          refine gf0_1 dX11_loaves_38 41 rfl (ly11_0 hk_l0).1 kw2_12 ?_
          refine x_iconst dX11_loaves_41 kc_0 42 rfl ?_
          refine x_aload_n dX11_loaves_42 rfl 43 rfl ?_
          refine x_iload dX11_loaves_43 rfl 45 rfl ?_
          refine kX2_tells dX11_loaves_45 48 rfl (ly0_1 (ly11_0 hk_l0).1).1 hk_l1 kw4_161 (Nat.le_of_ble_eq_true rfl) (Nat.le_of_ble_eq_true rfl) h (fun r3 M2 h => ?_)
          refine x_iadd dX11_loaves_48 49 rfl ?_
          refine x_istore_n dX11_loaves_49 (Nat.le_of_ble_eq_true rfl) [(0, .ref l0), (1, .ref l1), (2, .int (l2 + r3)), (3, .int l3), (4, .int r1)] rfl 50 rfl ?_
          refine x_iinc dX11_loaves_50 rfl (congrArg (l3 + ·) kc_1) (Nat.le_of_ble_eq_true rfl) [(0, .ref l0), (1, .ref l1), (2, .int (l2 + r3)), (3, .int (l3 + 1)), (4, .int r1)] rfl 53 rfl ?_
          refine x_goto dX11_loaves_53 12 rfl ?_
          refine x_weak [(0, .ref l0), (1, .ref l1), (2, .int (l2 + r3)), (3, .int (l3 + 1))] [0, 1, 2, 3] rfl ?_
          exact hB12 _ _ _ h
  exact hB12 n l2 l3 M h
def FX11_loaves (Q : Int32 → Mem → Prop) (l0 : Nat) (M : Mem) : Prop :=
  NX11_loaves_12 Q l0 ((l0 + 1) + 1) 0 0 M
theorem eX11_loaves {Q : Int32 → Mem → Prop} {l0 : Nat} {M : Mem} (hk_l0 : SHk l0 = 11) (h : FX11_loaves Q l0 M) : xX RX11 cX11_loaves 5 (some .int) 5 0 [(0, .ref l0)] [] M (xQi Q) := by
  unfold FX11_loaves at h
  refine x_aload_n dX11_loaves_0 rfl 1 rfl ?_
  refine gf11_0 dX11_loaves_1 4 rfl hk_l0 kw2_148 ?_
  refine gf0_0 dX11_loaves_4 7 rfl (ly11_0 hk_l0).1 kw2_10 ?_
  refine x_astore_n dX11_loaves_7 (Nat.le_of_ble_eq_true rfl) [(0, .ref l0), (1, .ref ((l0 + 1) + 1))] rfl 8 rfl ?_
  refine x_iconst dX11_loaves_8 kc_0 9 rfl ?_
  refine x_istore_n dX11_loaves_9 (Nat.le_of_ble_eq_true rfl) [(0, .ref l0), (1, .ref ((l0 + 1) + 1)), (2, .int 0)] rfl 10 rfl ?_
  refine x_iconst dX11_loaves_10 kc_0 11 rfl ?_
  refine x_istore_n dX11_loaves_11 (Nat.le_of_ble_eq_true rfl) [(0, .ref l0), (1, .ref ((l0 + 1) + 1)), (2, .int 0), (3, .int 0)] rfl 12 rfl ?_
  exact nX11_loaves_12 hk_l0 (ly0_0 (ly11_0 hk_l0).1).1 h
theorem cX11_loaves_ {Q : Int32 → Mem → Prop} {l0 : Nat} {M : Mem} (hk_l0 : SHk l0 = 11) (h : FX11_loaves Q l0 M) : xM yX11_loaves cX11_loaves 5 (some .int) 5 [.ref l0] M (xQi Q) := xM_of (by decide +kernel) (Nat.le_of_ble_eq_true rfl) (eX11_loaves hk_l0 h)
theorem kX11_loaves {own : String} {cc : ByteArray} {nL : Nat} {rt : Option FieldType} {d pc ix : Nat} {L : List (Nat × Value)} {st : List Value} {M : Mem} {Rt : xGt → Array Value → State → Outcome → State → Prop} {Q : Int32 → Mem → Prop} {l0 : Nat} (hd : decode cc pc = .ok (.invokevirtual ix, 3)) (q : Nat) (hq : pc + 3 = q) (hk_l0 : SHk l0 = 11) (w1 : Cond.methodLink own ix yX11_loaves ∈ xTs) (hr : 5 < d) (hst : (st.map fun v => v.category).sum ≤ 8) (h : FX11_loaves Q l0 M) (k : ∀ (r : Int32) (N : Mem), Q r N → xX own cc nL rt d q L (.int r :: st) N Rt) : xX own cc nL rt d pc L (.ref l0 :: st) M Rt :=
  x_callV_i (n := 0) (As := []) hd q hq hk_l0 (by decide) rfl rfl w1 kw4_204 kw4_205 kw1_1 kw4_206 (by decide +kernel) rfl hr (by decide) hst _ rfl (cX11_loaves_ hk_l0 h) k
def lbX11_heir_28 (Q : Int32 → Mem → Prop) (l0 : Nat) (l1 : Int32) (B28 : Int32 → Mem → Prop) (l2 : Int32) (M : Mem) : Prop :=
  ((l1 ≤ l2 → FX9_highest (fun (r1 : Int32) => FX9_sitterOn (fun (r2 : Int32) => Q r2 M) (l0 + 67) r1 M) (l0 + 67) M) ∧ (¬ l1 ≤ l2 → FX9_highest (fun (r3 : Int32) => FX9_sitterOn (fun (r4 : Int32) => FX9_bury (fun (M5 : Mem) => FX9_climb (fun (M6 : Mem) => B28 (l2 + 1) M6) (l0 + 67) M5) (l0 + 67) r4 M) (l0 + 67) r3 M) (l0 + 67) M))
def NX11_heir_28 (Q : Int32 → Mem → Prop) (l0 : Nat) (l1 : Int32) (l2 : Int32) (M : Mem) : Prop := xlp (fun (B : Int32 × Mem → Prop) a => lbX11_heir_28 Q l0 l1 (fun l2 M => B (l2, M)) a.1 a.2) (l2, M)
theorem nX11_heir_28 {Q : Int32 → Mem → Prop} {l0 : Nat} {l1 : Int32} {l2 : Int32} {M : Mem} (hk_l0 : SHk l0 = 11) (h : NX11_heir_28 Q l0 l1 l2 M) : xX RX11 cX11_heir 3 (some .int) 4 28 [(0, .ref l0), (1, .int l1), (2, .int l2)] [] M (xQi Q) := by
  obtain ⟨n, h⟩ := h
  have hB28 : ∀ (n : Nat) (l2 : Int32) (M : Mem), xlpn (fun (B : Int32 × Mem → Prop) a => lbX11_heir_28 Q l0 l1 (fun l2 M => B (l2, M)) a.1 a.2) n (l2, M) → xX RX11 cX11_heir 3 (some .int) 4 28 [(0, .ref l0), (1, .int l1), (2, .int l2)] [] M (xQi Q) := by
    intro n
    induction n with
    | zero => intro l2 M h; exact False.elim h
    | succ n ih =>
      intro l2 M h
      have hB28 := ih
      have h : lbX11_heir_28 Q l0 l1 (fun l2 M => xlpn (fun (B : Int32 × Mem → Prop) a => lbX11_heir_28 Q l0 l1 (fun l2 M => B (l2, M)) a.1 a.2) n (l2, M)) l2 M := h
      unfold lbX11_heir_28 at h
      refine x_iload_n dX11_heir_28 rfl 29 rfl ?_
      refine x_iload_n dX11_heir_29 rfl 30 rfl ?_
      refine x_icmp_ge dX11_heir_30 67 33 rfl rfl (fun hc => ?_) (fun hc => ?_)
      · have h := h.1 hc
        refine x_aload_n dX11_heir_67 rfl 68 rfl ?_
        refine gf11_2 dX11_heir_68 71 rfl hk_l0 kw2_150 ?_
        refine x_aload_n dX11_heir_71 rfl 72 rfl ?_
        refine gf11_2 dX11_heir_72 75 rfl hk_l0 kw2_150 ?_
        refine kX9_highest dX11_heir_75 78 rfl (ly11_2 hk_l0).1 kw4_212 (Nat.le_of_ble_eq_true rfl) (Nat.le_of_ble_eq_true rfl) h (fun r1 h => ?_)
        refine kX9_sitterOn dX11_heir_78 81 rfl (ly11_2 hk_l0).1 kw4_207 (Nat.le_of_ble_eq_true rfl) (Nat.le_of_ble_eq_true rfl) h (fun r2 h => ?_)
        exact x_iret dX11_heir_81 h
      · have h := h.2 hc
        refine x_aload_n dX11_heir_33 rfl 34 rfl ?_
        refine gf11_2 dX11_heir_34 37 rfl hk_l0 kw2_150 ?_
        refine x_aload_n dX11_heir_37 rfl 38 rfl ?_
        refine gf11_2 dX11_heir_38 41 rfl hk_l0 kw2_150 ?_
        refine x_aload_n dX11_heir_41 rfl 42 rfl ?_
        refine gf11_2 dX11_heir_42 45 rfl hk_l0 kw2_150 ?_
        refine kX9_highest dX11_heir_45 48 rfl (ly11_2 hk_l0).1 kw4_212 (Nat.le_of_ble_eq_true rfl) (Nat.le_of_ble_eq_true rfl) h (fun r3 h => ?_)
        refine kX9_sitterOn dX11_heir_48 51 rfl (ly11_2 hk_l0).1 kw4_207 (Nat.le_of_ble_eq_true rfl) (Nat.le_of_ble_eq_true rfl) h (fun r4 h => ?_)
        refine kX9_bury dX11_heir_51 54 rfl (ly11_2 hk_l0).1 kw4_213 (Nat.le_of_ble_eq_true rfl) (Nat.le_of_ble_eq_true rfl) h (fun M5 h => ?_)
        refine x_aload_n dX11_heir_54 rfl 55 rfl ?_
        refine gf11_2 dX11_heir_55 58 rfl hk_l0 kw2_150 ?_
        refine kX9_climb dX11_heir_58 61 rfl (ly11_2 hk_l0).1 kw4_214 (Nat.le_of_ble_eq_true rfl) (Nat.le_of_ble_eq_true rfl) h (fun M6 h => ?_)
        refine x_iinc dX11_heir_61 rfl (congrArg (l2 + ·) kc_1) (Nat.le_of_ble_eq_true rfl) [(0, .ref l0), (1, .int l1), (2, .int (l2 + 1))] rfl 64 rfl ?_
        refine x_goto dX11_heir_64 28 rfl ?_
        exact hB28 _ _ h
  exact hB28 n l2 M h
def FX11_heir (Q : Int32 → Mem → Prop) (l0 : Nat) (l1 : Int32) (M : Mem) : Prop :=
  ((l1 < 0 → Q (-1) M) ∧ (¬ l1 < 0 → ((l1 < 14 → FX9_copyFrom (fun (M7 : Mem) => NX11_heir_28 Q l0 l1 0 M7) (l0 + 67) ((l0 + 1) + 1) M) ∧ (¬ l1 < 14 → Q (-1) M))))
theorem eX11_heir {Q : Int32 → Mem → Prop} {l0 : Nat} {l1 : Int32} {M : Mem} (hk_l0 : SHk l0 = 11) (h : FX11_heir Q l0 l1 M) : xX RX11 cX11_heir 3 (some .int) 4 0 [(0, .ref l0), (1, .int l1)] [] M (xQi Q) := by
  unfold FX11_heir at h
  refine x_iload_n dX11_heir_0 rfl 1 rfl ?_
  refine x_if_lt dX11_heir_1 10 4 rfl rfl (fun hc => ?_) (fun hc => ?_)
  · have h := h.1 hc
    refine x_iconst dX11_heir_10 kc_m1 11 rfl ?_
    exact x_iret dX11_heir_11 h
  · have h := h.2 hc
    refine x_iload_n dX11_heir_4 rfl 5 rfl ?_
    refine x_bipush dX11_heir_5 kb_14 7 rfl ?_
    refine x_icmp_lt dX11_heir_7 12 10 rfl rfl (fun hc => ?_) (fun hc => ?_)
    · have h := h.1 hc
      refine x_aload_n dX11_heir_12 rfl 13 rfl ?_
      refine gf11_2 dX11_heir_13 16 rfl hk_l0 kw2_150 ?_
      refine x_aload_n dX11_heir_16 rfl 17 rfl ?_
      refine gf11_0 dX11_heir_17 20 rfl hk_l0 kw2_148 ?_
      refine gf0_0 dX11_heir_20 23 rfl (ly11_0 hk_l0).1 kw2_10 ?_
      refine kX9_copyFrom dX11_heir_23 26 rfl (ly11_2 hk_l0).1 (ly0_0 (ly11_0 hk_l0).1).1 kw4_188 (Nat.le_of_ble_eq_true rfl) (Nat.le_of_ble_eq_true rfl) h (fun M7 h => ?_)
      refine x_iconst dX11_heir_26 kc_0 27 rfl ?_
      refine x_istore_n dX11_heir_27 (Nat.le_of_ble_eq_true rfl) [(0, .ref l0), (1, .int l1), (2, .int 0)] rfl 28 rfl ?_
      exact nX11_heir_28 hk_l0 h
    · have h := h.2 hc
      refine x_iconst dX11_heir_10 kc_m1 11 rfl ?_
      exact x_iret dX11_heir_11 h
theorem cX11_heir_ {Q : Int32 → Mem → Prop} {l0 : Nat} {l1 : Int32} {M : Mem} (hk_l0 : SHk l0 = 11) (h : FX11_heir Q l0 l1 M) : xM yX11_heir cX11_heir 3 (some .int) 4 [.ref l0, .int l1] M (xQi Q) := xM_of (by decide +kernel) (Nat.le_of_ble_eq_true rfl) (eX11_heir hk_l0 h)
theorem kX11_heir {own : String} {cc : ByteArray} {nL : Nat} {rt : Option FieldType} {d pc ix : Nat} {L : List (Nat × Value)} {st : List Value} {M : Mem} {Rt : xGt → Array Value → State → Outcome → State → Prop} {Q : Int32 → Mem → Prop} {l0 : Nat} {l1 : Int32} (hd : decode cc pc = .ok (.invokevirtual ix, 3)) (q : Nat) (hq : pc + 3 = q) (hk_l0 : SHk l0 = 11) (w1 : Cond.methodLink own ix yX11_heir ∈ xTs) (hr : 4 < d) (hst : (st.map fun v => v.category).sum ≤ 8) (h : FX11_heir Q l0 l1 M) (k : ∀ (r : Int32) (N : Mem), Q r N → xX own cc nL rt d q L (.int r :: st) N Rt) : xX own cc nL rt d pc L (.int l1 :: .ref l0 :: st) M Rt :=
  x_callV_i (n := 1) (As := [.int l1]) hd q hq hk_l0 (by decide) rfl rfl w1 kw4_209 kw4_210 kw1_1 kw4_211 (by decide +kernel) rfl hr (by decide) hst _ rfl (cX11_heir_ hk_l0 h) k
def lbX11_comes_51 (Q : Int32 → Mem → Prop) (l0 : Nat) (l2 : Int32) (l3 : Nat) (B51 : Int32 → Int32 → Mem → Prop) (l5 : Int32) (l6 : Int32) (M : Mem) : Prop :=
  ((l6 < l2 → Q l5 M) ∧ (¬ l6 < l2 → FX0_adviceAt (fun (r2 : Int32) (M1 : Mem) => B51 r2 (l6 + (-1)) M1) (l0 + 1) l3 l6 l5 M))
def NX11_comes_51 (Q : Int32 → Mem → Prop) (l0 : Nat) (l2 : Int32) (l3 : Nat) (l5 : Int32) (l6 : Int32) (M : Mem) : Prop := xlp (fun (B : Int32 × Int32 × Mem → Prop) a => lbX11_comes_51 Q l0 l2 l3 (fun l5 l6 M => B (l5, l6, M)) a.1 a.2.1 a.2.2) (l5, l6, M)
theorem nX11_comes_51 {Q : Int32 → Mem → Prop} {l0 : Nat} {l2 : Int32} {l3 : Nat} {l5 : Int32} {l6 : Int32} {M : Mem} (hk_l0 : SHk l0 = 11) (hk_l3 : SHk l3 = 9) (h : NX11_comes_51 Q l0 l2 l3 l5 l6 M) : xX RX11 cX11_comes 7 (some .int) 6 51 [(0, .ref l0), (2, .int l2), (3, .ref l3), (5, .int l5), (6, .int l6)] [] M (xQi Q) := by
  obtain ⟨n, h⟩ := h
  have hB51 : ∀ (n : Nat) (l5 : Int32) (l6 : Int32) (M : Mem), xlpn (fun (B : Int32 × Int32 × Mem → Prop) a => lbX11_comes_51 Q l0 l2 l3 (fun l5 l6 M => B (l5, l6, M)) a.1 a.2.1 a.2.2) n (l5, l6, M) → xX RX11 cX11_comes 7 (some .int) 6 51 [(0, .ref l0), (2, .int l2), (3, .ref l3), (5, .int l5), (6, .int l6)] [] M (xQi Q) := by
    intro n
    induction n with
    | zero => intro l5 l6 M h; exact False.elim h
    | succ n ih =>
      intro l5 l6 M h
      have hB51 := ih
      have h : lbX11_comes_51 Q l0 l2 l3 (fun l5 l6 M => xlpn (fun (B : Int32 × Int32 × Mem → Prop) a => lbX11_comes_51 Q l0 l2 l3 (fun l5 l6 M => B (l5, l6, M)) a.1 a.2.1 a.2.2) n (l5, l6, M)) l5 l6 M := h
      unfold lbX11_comes_51 at h
      refine x_iload dX11_comes_51 rfl 53 rfl ?_
      refine x_iload_n dX11_comes_53 rfl 54 rfl ?_
      refine x_icmp_lt dX11_comes_54 77 57 rfl rfl (fun hc => ?_) (fun hc => ?_)
      · have h := h.1 hc
        refine x_iload dX11_comes_77 rfl 79 rfl ?_
        exact x_iret dX11_comes_79 h
      · have h := h.2 hc
        refine x_aload_n dX11_comes_57 rfl 58 rfl ?_
        refine gf11_0 dX11_comes_58 61 rfl hk_l0 kw2_148 ?_
        refine x_aload_n dX11_comes_61 rfl 62 rfl ?_
        refine x_iload dX11_comes_62 rfl 64 rfl ?_
        refine x_iload dX11_comes_64 rfl 66 rfl ?_
        refine kX0_adviceAt dX11_comes_66 69 rfl (ly11_0 hk_l0).1 hk_l3 kw4_219 (Nat.le_of_ble_eq_true rfl) (Nat.le_of_ble_eq_true rfl) h (fun r2 M1 h => ?_)
        refine x_istore dX11_comes_69 (Nat.le_of_ble_eq_true rfl) [(0, .ref l0), (2, .int l2), (3, .ref l3), (5, .int r2), (6, .int l6)] rfl 71 rfl ?_
        refine x_iinc dX11_comes_71 rfl (congrArg (l6 + ·) kc_m1) (Nat.le_of_ble_eq_true rfl) [(0, .ref l0), (2, .int l2), (3, .ref l3), (5, .int r2), (6, .int (l6 + (-1)))] rfl 74 rfl ?_
        refine x_goto dX11_comes_74 51 rfl ?_
        exact hB51 _ _ _ h
  exact hB51 n l5 l6 M h
def FX11_comes (Q : Int32 → Mem → Prop) (l0 : Nat) (l1 : Int32) (l2 : Int32) (M : Mem) : Prop :=
  FX9_highest (fun (r3 : Int32) => FX11_within (fun (r4 : Bool) => ((r4 = false → Q (-100) M) ∧ (r4 = true → FX9_isPillar (fun (r5 : Bool) => ((r5 = false → Q (-100) M) ∧ (r5 = true → ((l2 ≤ r3 → NX11_comes_51 Q l0 l2 ((l0 + 1) + 1) l1 (r3 - 1) M) ∧ (¬ l2 ≤ r3 → Q (-100) M))))) ((l0 + 1) + 1) l2 M))) l1 (-99) 99 M) ((l0 + 1) + 1) M
theorem eX11_comes {Q : Int32 → Mem → Prop} {l0 : Nat} {l1 : Int32} {l2 : Int32} {M : Mem} (hk_l0 : SHk l0 = 11) (h : FX11_comes Q l0 l1 l2 M) : xX RX11 cX11_comes 7 (some .int) 6 0 [(0, .ref l0), (1, .int l1), (2, .int l2)] [] M (xQi Q) := by
  unfold FX11_comes at h
  refine x_aload_n dX11_comes_0 rfl 1 rfl ?_
  refine gf11_0 dX11_comes_1 4 rfl hk_l0 kw2_148 ?_
  refine gf0_0 dX11_comes_4 7 rfl (ly11_0 hk_l0).1 kw2_10 ?_
  refine x_astore_n dX11_comes_7 (Nat.le_of_ble_eq_true rfl) [(0, .ref l0), (1, .int l1), (2, .int l2), (3, .ref ((l0 + 1) + 1))] rfl 8 rfl ?_
  refine x_aload_n dX11_comes_8 rfl 9 rfl ?_
  refine kX9_highest dX11_comes_9 12 rfl (ly0_0 (ly11_0 hk_l0).1).1 kw4_212 (Nat.le_of_ble_eq_true rfl) (Nat.le_of_ble_eq_true rfl) h (fun r3 h => ?_)
  refine x_istore dX11_comes_12 (Nat.le_of_ble_eq_true rfl) [(0, .ref l0), (1, .int l1), (2, .int l2), (3, .ref ((l0 + 1) + 1)), (4, .int r3)] rfl 14 rfl ?_
  refine x_iload_n dX11_comes_14 rfl 15 rfl ?_
  refine x_bipush dX11_comes_15 kb_m99 17 rfl ?_
  refine x_bipush dX11_comes_17 kb_99 19 rfl ?_
  refine kX11_within dX11_comes_19 22 rfl kw2_213 (Nat.le_of_ble_eq_true rfl) (Nat.le_of_ble_eq_true rfl) h (fun r4 h => ?_)
  refine x_if_eq_b dX11_comes_22 39 25 rfl rfl (fun hc => ?_) (fun hc => ?_)
  · have h := h.1 hc
    refine x_bipush dX11_comes_39 kb_m100 41 rfl ?_
    exact x_iret dX11_comes_41 h
  · have h := h.2 hc
    refine x_aload_n dX11_comes_25 rfl 26 rfl ?_
    refine x_iload_n dX11_comes_26 rfl 27 rfl ?_
    refine kX9_isPillar dX11_comes_27 30 rfl (ly0_0 (ly11_0 hk_l0).1).1 kw4_170 (Nat.le_of_ble_eq_true rfl) (Nat.le_of_ble_eq_true rfl) h (fun r5 h => ?_)
    refine x_if_eq_b dX11_comes_30 39 33 rfl rfl (fun hc => ?_) (fun hc => ?_)
    · have h := h.1 hc
      refine x_bipush dX11_comes_39 kb_m100 41 rfl ?_
      exact x_iret dX11_comes_41 h
    · have h := h.2 hc
      refine x_iload_n dX11_comes_33 rfl 34 rfl ?_
      refine x_iload dX11_comes_34 rfl 36 rfl ?_
      refine x_icmp_le dX11_comes_36 42 39 rfl rfl (fun hc => ?_) (fun hc => ?_)
      · have h := h.1 hc
        refine x_iload_n dX11_comes_42 rfl 43 rfl ?_
        refine x_istore dX11_comes_43 (Nat.le_of_ble_eq_true rfl) [(0, .ref l0), (1, .int l1), (2, .int l2), (3, .ref ((l0 + 1) + 1)), (4, .int r3), (5, .int l1)] rfl 45 rfl ?_
        refine x_iload dX11_comes_45 rfl 47 rfl ?_
        refine x_iconst dX11_comes_47 kc_1 48 rfl ?_
        refine x_isub dX11_comes_48 49 rfl ?_
        refine x_istore dX11_comes_49 (Nat.le_of_ble_eq_true rfl) [(0, .ref l0), (1, .int l1), (2, .int l2), (3, .ref ((l0 + 1) + 1)), (4, .int r3), (5, .int l1), (6, .int (r3 - 1))] rfl 51 rfl ?_
        refine x_weak [(0, .ref l0), (2, .int l2), (3, .ref ((l0 + 1) + 1)), (5, .int l1), (6, .int (r3 - 1))] [0, 2, 3, 5, 6] rfl ?_
        exact nX11_comes_51 hk_l0 (ly0_0 (ly11_0 hk_l0).1).1 h
      · have h := h.2 hc
        refine x_bipush dX11_comes_39 kb_m100 41 rfl ?_
        exact x_iret dX11_comes_41 h
theorem cX11_comes_ {Q : Int32 → Mem → Prop} {l0 : Nat} {l1 : Int32} {l2 : Int32} {M : Mem} (hk_l0 : SHk l0 = 11) (h : FX11_comes Q l0 l1 l2 M) : xM yX11_comes cX11_comes 7 (some .int) 6 [.ref l0, .int l1, .int l2] M (xQi Q) := xM_of (by decide +kernel) (Nat.le_of_ble_eq_true rfl) (eX11_comes hk_l0 h)
theorem kX11_comes {own : String} {cc : ByteArray} {nL : Nat} {rt : Option FieldType} {d pc ix : Nat} {L : List (Nat × Value)} {st : List Value} {M : Mem} {Rt : xGt → Array Value → State → Outcome → State → Prop} {Q : Int32 → Mem → Prop} {l0 : Nat} {l1 : Int32} {l2 : Int32} (hd : decode cc pc = .ok (.invokevirtual ix, 3)) (q : Nat) (hq : pc + 3 = q) (hk_l0 : SHk l0 = 11) (w1 : Cond.methodLink own ix yX11_comes ∈ xTs) (hr : 6 < d) (hst : (st.map fun v => v.category).sum ≤ 8) (h : FX11_comes Q l0 l1 l2 M) (k : ∀ (r : Int32) (N : Mem), Q r N → xX own cc nL rt d q L (.int r :: st) N Rt) : xX own cc nL rt d pc L (.int l2 :: .int l1 :: .ref l0 :: st) M Rt :=
  x_callV_i (n := 2) (As := [.int l1, .int l2]) hd q hq hk_l0 (by decide) rfl rfl w1 kw4_216 kw4_217 kw1_1 kw4_218 (by decide +kernel) rfl hr (by decide) hst _ rfl (cX11_comes_ hk_l0 h) k
def NX11_scandal_78 (Q : Int32 → Prop) (B30 : Int32 → Int32 → Int32 → Prop) (l0 : Nat) (l1 : Int32) (l4 : Int32) (l5 : Int32) (l6 : Int32) (M : Mem) : Prop :=
  B30 l6 l5 (l5 + 1)
theorem nX11_scandal_78 {Q : Int32 → Prop} {B30 : Int32 → Int32 → Int32 → Prop} {l0 : Nat} {l1 : Int32} {l4 : Int32} {l5 : Int32} {l6 : Int32} {M : Mem} (hB30 : ∀ (l2 : Int32) (l3 : Int32) (l5 : Int32), B30 l2 l3 l5 → xX RX11 cX11_scandal 7 (some .int) 3 30 [(0, .ref l0), (1, .int l1), (2, .int l2), (3, .int l3), (4, .int l4), (5, .int l5)] [] M (xQi (xP M Q))) (hk_l0 : SHk l0 = 11) (h : NX11_scandal_78 Q B30 l0 l1 l4 l5 l6 M) : xX RX11 cX11_scandal 7 (some .int) 3 78 [(0, .ref l0), (1, .int l1), (4, .int l4), (5, .int l5), (6, .int l6)] [] M (xQi (xP M Q)) := by
  unfold NX11_scandal_78 at h
  refine x_iload dX11_scandal_78 rfl 80 rfl ?_
  refine x_istore_n dX11_scandal_80 (Nat.le_of_ble_eq_true rfl) [(0, .ref l0), (1, .int l1), (2, .int l6), (4, .int l4), (5, .int l5), (6, .int l6)] rfl 81 rfl ?_
  refine x_iload dX11_scandal_81 rfl 83 rfl ?_
  refine x_istore_n dX11_scandal_83 (Nat.le_of_ble_eq_true rfl) [(0, .ref l0), (1, .int l1), (2, .int l6), (3, .int l5), (4, .int l4), (5, .int l5), (6, .int l6)] rfl 84 rfl ?_
  refine x_iinc dX11_scandal_84 rfl (congrArg (l5 + ·) kc_1) (Nat.le_of_ble_eq_true rfl) [(0, .ref l0), (1, .int l1), (2, .int l6), (3, .int l5), (4, .int l4), (5, .int (l5 + 1)), (6, .int l6)] rfl 87 rfl ?_
  refine x_goto dX11_scandal_87 30 rfl ?_
  refine x_weak [(0, .ref l0), (1, .int l1), (2, .int l6), (3, .int l5), (4, .int l4), (5, .int (l5 + 1))] [0, 1, 2, 3, 4, 5] rfl ?_
  exact hB30 _ _ _ h
def lbX11_scandal_30 (Q : Int32 → Prop) (l0 : Nat) (l1 : Int32) (l4 : Int32) (M : Mem) (B30 : Int32 → Int32 → Int32 → Prop) (l2 : Int32) (l3 : Int32) (l5 : Int32) : Prop :=
  ((l4 ≤ l5 → ((¬ l1 = 0 → Q l2) ∧ (l1 = 0 → Q l3))) ∧ (¬ l4 ≤ l5 → FX9_spread (fun (r1 : Int32) => FX9_spread (fun (r2 : Int32) => ((l2 = (-1) → NX11_scandal_78 Q B30 l0 l1 l4 l5 (r1 + r2) M) ∧ (¬ l2 = (-1) → ((l2 ≤ (r1 + r2) → B30 l2 l3 (l5 + 1)) ∧ (¬ l2 ≤ (r1 + r2) → NX11_scandal_78 Q B30 l0 l1 l4 l5 (r1 + r2) M))))) ((l0 + 1) + 1) l5 l4 M) ((l0 + 1) + 1) 0 l5 M))
def NX11_scandal_30 (Q : Int32 → Prop) (l0 : Nat) (l1 : Int32) (l2 : Int32) (l3 : Int32) (l4 : Int32) (l5 : Int32) (M : Mem) : Prop := xlp (fun (B : Int32 × Int32 × Int32 → Prop) a => lbX11_scandal_30 Q l0 l1 l4 M (fun l2 l3 l5 => B (l2, l3, l5)) a.1 a.2.1 a.2.2) (l2, l3, l5)
theorem nX11_scandal_30 {Q : Int32 → Prop} {l0 : Nat} {l1 : Int32} {l2 : Int32} {l3 : Int32} {l4 : Int32} {l5 : Int32} {M : Mem} (hk_l0 : SHk l0 = 11) (h : NX11_scandal_30 Q l0 l1 l2 l3 l4 l5 M) : xX RX11 cX11_scandal 7 (some .int) 3 30 [(0, .ref l0), (1, .int l1), (2, .int l2), (3, .int l3), (4, .int l4), (5, .int l5)] [] M (xQi (xP M Q)) := by
  obtain ⟨n, h⟩ := h
  have hB30 : ∀ (n : Nat) (l2 : Int32) (l3 : Int32) (l5 : Int32), xlpn (fun (B : Int32 × Int32 × Int32 → Prop) a => lbX11_scandal_30 Q l0 l1 l4 M (fun l2 l3 l5 => B (l2, l3, l5)) a.1 a.2.1 a.2.2) n (l2, l3, l5) → xX RX11 cX11_scandal 7 (some .int) 3 30 [(0, .ref l0), (1, .int l1), (2, .int l2), (3, .int l3), (4, .int l4), (5, .int l5)] [] M (xQi (xP M Q)) := by
    intro n
    induction n with
    | zero => intro l2 l3 l5 h; exact False.elim h
    | succ n ih =>
      intro l2 l3 l5 h
      have hB30 := ih
      have h : lbX11_scandal_30 Q l0 l1 l4 M (fun l2 l3 l5 => xlpn (fun (B : Int32 × Int32 × Int32 → Prop) a => lbX11_scandal_30 Q l0 l1 l4 M (fun l2 l3 l5 => B (l2, l3, l5)) a.1 a.2.1 a.2.2) n (l2, l3, l5)) l2 l3 l5 := h
      unfold lbX11_scandal_30 at h
      refine x_iload dX11_scandal_30 rfl 32 rfl ?_
      refine x_iload dX11_scandal_32 rfl 34 rfl ?_
      refine x_icmp_ge dX11_scandal_34 90 37 rfl rfl (fun hc => ?_) (fun hc => ?_)
      · have h := h.1 hc
        refine x_iload_n dX11_scandal_90 rfl 91 rfl ?_
        refine x_if_ne dX11_scandal_91 98 94 rfl rfl (fun hc => ?_) (fun hc => ?_)
        · have h := h.1 hc
          refine x_iload_n dX11_scandal_98 rfl 99 rfl ?_
          exact x_iret dX11_scandal_99 ⟨rfl, h⟩
        · have h := h.2 hc
          refine x_iload_n dX11_scandal_94 rfl 95 rfl ?_
          refine x_goto dX11_scandal_95 99 rfl ?_
          exact x_iret dX11_scandal_99 ⟨rfl, h⟩
      · have h := h.2 hc
        refine x_aload_n dX11_scandal_37 rfl 38 rfl ?_
        refine gf11_0 dX11_scandal_38 41 rfl hk_l0 kw2_148 ?_
        refine gf0_0 dX11_scandal_41 44 rfl (ly11_0 hk_l0).1 kw2_10 ?_
        refine x_iconst dX11_scandal_44 kc_0 45 rfl ?_
        refine x_iload dX11_scandal_45 rfl 47 rfl ?_
        refine kX9_spread dX11_scandal_47 50 rfl (ly0_0 (ly11_0 hk_l0).1).1 kw4_228 (Nat.le_of_ble_eq_true rfl) (Nat.le_of_ble_eq_true rfl) h (fun r1 h => ?_)
        refine x_aload_n dX11_scandal_50 rfl 51 rfl ?_
        refine gf11_0 dX11_scandal_51 54 rfl hk_l0 kw2_148 ?_
        refine gf0_0 dX11_scandal_54 57 rfl (ly11_0 hk_l0).1 kw2_10 ?_
        refine x_iload dX11_scandal_57 rfl 59 rfl ?_
        refine x_iload dX11_scandal_59 rfl 61 rfl ?_
        refine kX9_spread dX11_scandal_61 64 rfl (ly0_0 (ly11_0 hk_l0).1).1 kw4_228 (Nat.le_of_ble_eq_true rfl) (Nat.le_of_ble_eq_true rfl) h (fun r2 h => ?_)
        refine x_iadd dX11_scandal_64 65 rfl ?_
        refine x_istore dX11_scandal_65 (Nat.le_of_ble_eq_true rfl) [(0, .ref l0), (1, .int l1), (2, .int l2), (3, .int l3), (4, .int l4), (5, .int l5), (6, .int (r1 + r2))] rfl 67 rfl ?_
        refine x_iload_n dX11_scandal_67 rfl 68 rfl ?_
        refine x_iconst dX11_scandal_68 kc_m1 69 rfl ?_
        refine x_icmp_eq dX11_scandal_69 78 72 rfl rfl (fun hc => ?_) (fun hc => ?_)
        · have h := h.1 hc
          refine x_weak [(0, .ref l0), (1, .int l1), (4, .int l4), (5, .int l5), (6, .int (r1 + r2))] [0, 1, 4, 5, 6] rfl ?_
          exact nX11_scandal_78 hB30 hk_l0 h
        · have h := h.2 hc
          refine x_iload dX11_scandal_72 rfl 74 rfl ?_
          refine x_iload_n dX11_scandal_74 rfl 75 rfl ?_
          refine x_icmp_ge dX11_scandal_75 84 78 rfl rfl (fun hc => ?_) (fun hc => ?_)
          · have h := h.1 hc
            refine x_iinc dX11_scandal_84 rfl (congrArg (l5 + ·) kc_1) (Nat.le_of_ble_eq_true rfl) [(0, .ref l0), (1, .int l1), (2, .int l2), (3, .int l3), (4, .int l4), (5, .int (l5 + 1)), (6, .int (r1 + r2))] rfl 87 rfl ?_
            refine x_goto dX11_scandal_87 30 rfl ?_
            refine x_weak [(0, .ref l0), (1, .int l1), (2, .int l2), (3, .int l3), (4, .int l4), (5, .int (l5 + 1))] [0, 1, 2, 3, 4, 5] rfl ?_
            exact hB30 _ _ _ h
          · have h := h.2 hc
            refine x_weak [(0, .ref l0), (1, .int l1), (4, .int l4), (5, .int l5), (6, .int (r1 + r2))] [0, 1, 4, 5, 6] rfl ?_
            exact nX11_scandal_78 hB30 hk_l0 h
  exact hB30 n l2 l3 l5 h
def NX11_scandal_11 (Q : Int32 → Prop) (l0 : Nat) (l1 : Int32) (M : Mem) : Prop :=
  FX9_sitting (fun (r3 : Int32) => NX11_scandal_30 Q l0 l1 (-1) (-1) r3 1 M) ((l0 + 1) + 1) M
theorem nX11_scandal_11 {Q : Int32 → Prop} {l0 : Nat} {l1 : Int32} {M : Mem} (hk_l0 : SHk l0 = 11) (h : NX11_scandal_11 Q l0 l1 M) : xX RX11 cX11_scandal 7 (some .int) 3 11 [(0, .ref l0), (1, .int l1)] [] M (xQi (xP M Q)) := by
  unfold NX11_scandal_11 at h
  refine x_iconst dX11_scandal_11 kc_m1 12 rfl ?_
  refine x_istore_n dX11_scandal_12 (Nat.le_of_ble_eq_true rfl) [(0, .ref l0), (1, .int l1), (2, .int (-1))] rfl 13 rfl ?_
  refine x_iconst dX11_scandal_13 kc_m1 14 rfl ?_
  refine x_istore_n dX11_scandal_14 (Nat.le_of_ble_eq_true rfl) [(0, .ref l0), (1, .int l1), (2, .int (-1)), (3, .int (-1))] rfl 15 rfl ?_
  refine x_aload_n dX11_scandal_15 rfl 16 rfl ?_
  refine gf11_0 dX11_scandal_16 19 rfl hk_l0 kw2_148 ?_
  refine gf0_0 dX11_scandal_19 22 rfl (ly11_0 hk_l0).1 kw2_10 ?_
  refine kX9_sitting dX11_scandal_22 25 rfl (ly0_0 (ly11_0 hk_l0).1).1 kw4_224 (Nat.le_of_ble_eq_true rfl) (Nat.le_of_ble_eq_true rfl) h (fun r3 h => ?_)
  refine x_istore dX11_scandal_25 (Nat.le_of_ble_eq_true rfl) [(0, .ref l0), (1, .int l1), (2, .int (-1)), (3, .int (-1)), (4, .int r3)] rfl 27 rfl ?_
  refine x_iconst dX11_scandal_27 kc_1 28 rfl ?_
  refine x_istore dX11_scandal_28 (Nat.le_of_ble_eq_true rfl) [(0, .ref l0), (1, .int l1), (2, .int (-1)), (3, .int (-1)), (4, .int r3), (5, .int 1)] rfl 30 rfl ?_
  exact nX11_scandal_30 hk_l0 h
def FX11_scandal (Q : Int32 → Prop) (l0 : Nat) (l1 : Int32) (M : Mem) : Prop :=
  ((l1 = 0 → NX11_scandal_11 Q l0 l1 M) ∧ (¬ l1 = 0 → ((l1 = 1 → NX11_scandal_11 Q l0 l1 M) ∧ (¬ l1 = 1 → Q (-1)))))
theorem eX11_scandal {Q : Int32 → Prop} {l0 : Nat} {l1 : Int32} {M : Mem} (hk_l0 : SHk l0 = 11) (h : FX11_scandal Q l0 l1 M) : xX RX11 cX11_scandal 7 (some .int) 3 0 [(0, .ref l0), (1, .int l1)] [] M (xQi (xP M Q)) := by
  unfold FX11_scandal at h
  refine x_iload_n dX11_scandal_0 rfl 1 rfl ?_
  refine x_if_eq dX11_scandal_1 11 4 rfl rfl (fun hc => ?_) (fun hc => ?_)
  · have h := h.1 hc
    exact nX11_scandal_11 hk_l0 h
  · have h := h.2 hc
    refine x_iload_n dX11_scandal_4 rfl 5 rfl ?_
    refine x_iconst dX11_scandal_5 kc_1 6 rfl ?_
    refine x_icmp_eq dX11_scandal_6 11 9 rfl rfl (fun hc => ?_) (fun hc => ?_)
    · have h := h.1 hc
      exact nX11_scandal_11 hk_l0 h
    · have h := h.2 hc
      refine x_iconst dX11_scandal_9 kc_m1 10 rfl ?_
      exact x_iret dX11_scandal_10 ⟨rfl, h⟩
theorem cX11_scandal_ {Q : Int32 → Prop} {l0 : Nat} {l1 : Int32} {M : Mem} (hk_l0 : SHk l0 = 11) (h : FX11_scandal Q l0 l1 M) : xM yX11_scandal cX11_scandal 7 (some .int) 3 [.ref l0, .int l1] M (xQi (xP M Q)) := xM_of (by decide +kernel) (Nat.le_of_ble_eq_true rfl) (eX11_scandal hk_l0 h)
theorem kX11_scandal {own : String} {cc : ByteArray} {nL : Nat} {rt : Option FieldType} {d pc ix : Nat} {L : List (Nat × Value)} {st : List Value} {M : Mem} {Rt : xGt → Array Value → State → Outcome → State → Prop} {Q : Int32 → Prop} {l0 : Nat} {l1 : Int32} (hd : decode cc pc = .ok (.invokevirtual ix, 3)) (q : Nat) (hq : pc + 3 = q) (hk_l0 : SHk l0 = 11) (w1 : Cond.methodLink own ix yX11_scandal ∈ xTs) (hr : 3 < d) (hst : (st.map fun v => v.category).sum ≤ 8) (h : FX11_scandal Q l0 l1 M) (k : ∀ (r : Int32), Q r → xX own cc nL rt d q L (.int r :: st) M Rt) : xX own cc nL rt d pc L (.int l1 :: .ref l0 :: st) M Rt :=
  x_callV_i (n := 1) (As := [.int l1]) hd q hq hk_l0 (by decide) rfl rfl w1 kw4_221 kw4_222 kw1_1 kw4_223 (by decide +kernel) rfl hr (by decide) hst _ rfl (cX11_scandal_ hk_l0 h) (fun r N hN => by obtain ⟨rfl, hN⟩ := hN; exact k r hN)
def NX11_middle_58 (Q : Int32 → Prop) (B18 : Int32 → Int32 → Int32 → Prop) (l0 : Nat) (l1 : Int32) (l4 : Int32) (l5 : Int32) (M : Mem) : Prop :=
  B18 l5 l4 (l4 + 1)
theorem nX11_middle_58 {Q : Int32 → Prop} {B18 : Int32 → Int32 → Int32 → Prop} {l0 : Nat} {l1 : Int32} {l4 : Int32} {l5 : Int32} {M : Mem} (hB18 : ∀ (l2 : Int32) (l3 : Int32) (l4 : Int32), B18 l2 l3 l4 → xX RX11 cX11_middle 6 (some .int) 3 18 [(0, .ref l0), (1, .int l1), (2, .int l2), (3, .int l3), (4, .int l4)] [] M (xQi (xP M Q))) (hk_l0 : SHk l0 = 11) (h : NX11_middle_58 Q B18 l0 l1 l4 l5 M) : xX RX11 cX11_middle 6 (some .int) 3 58 [(0, .ref l0), (1, .int l1), (4, .int l4), (5, .int l5)] [] M (xQi (xP M Q)) := by
  unfold NX11_middle_58 at h
  refine x_iload dX11_middle_58 rfl 60 rfl ?_
  refine x_istore_n dX11_middle_60 (Nat.le_of_ble_eq_true rfl) [(0, .ref l0), (1, .int l1), (2, .int l5), (4, .int l4), (5, .int l5)] rfl 61 rfl ?_
  refine x_iload dX11_middle_61 rfl 63 rfl ?_
  refine x_istore_n dX11_middle_63 (Nat.le_of_ble_eq_true rfl) [(0, .ref l0), (1, .int l1), (2, .int l5), (3, .int l4), (4, .int l4), (5, .int l5)] rfl 64 rfl ?_
  refine x_iinc dX11_middle_64 rfl (congrArg (l4 + ·) kc_1) (Nat.le_of_ble_eq_true rfl) [(0, .ref l0), (1, .int l1), (2, .int l5), (3, .int l4), (4, .int (l4 + 1)), (5, .int l5)] rfl 67 rfl ?_
  refine x_goto dX11_middle_67 18 rfl ?_
  refine x_weak [(0, .ref l0), (1, .int l1), (2, .int l5), (3, .int l4), (4, .int (l4 + 1))] [0, 1, 2, 3, 4] rfl ?_
  exact hB18 _ _ _ h
def lbX11_middle_18 (Q : Int32 → Prop) (l0 : Nat) (l1 : Int32) (M : Mem) (B18 : Int32 → Int32 → Int32 → Prop) (l2 : Int32) (l3 : Int32) (l4 : Int32) : Prop :=
  (((M ((l0 + 1) + 1) 10) ≤ l4 → ((¬ l1 = 0 → Q l2) ∧ (l1 = 0 → Q l3))) ∧ (¬ (M ((l0 + 1) + 1) 10) ≤ l4 → FX9_wayTo (fun (r1 : Int32) => ((l2 = (-1) → NX11_middle_58 Q B18 l0 l1 l4 r1 M) ∧ (¬ l2 = (-1) → ((l2 ≤ r1 → B18 l2 l3 (l4 + 1)) ∧ (¬ l2 ≤ r1 → NX11_middle_58 Q B18 l0 l1 l4 r1 M))))) ((l0 + 1) + 1) l4 M))
def NX11_middle_18 (Q : Int32 → Prop) (l0 : Nat) (l1 : Int32) (l2 : Int32) (l3 : Int32) (l4 : Int32) (M : Mem) : Prop := xlp (fun (B : Int32 × Int32 × Int32 → Prop) a => lbX11_middle_18 Q l0 l1 M (fun l2 l3 l4 => B (l2, l3, l4)) a.1 a.2.1 a.2.2) (l2, l3, l4)
theorem nX11_middle_18 {Q : Int32 → Prop} {l0 : Nat} {l1 : Int32} {l2 : Int32} {l3 : Int32} {l4 : Int32} {M : Mem} (hk_l0 : SHk l0 = 11) (h : NX11_middle_18 Q l0 l1 l2 l3 l4 M) : xX RX11 cX11_middle 6 (some .int) 3 18 [(0, .ref l0), (1, .int l1), (2, .int l2), (3, .int l3), (4, .int l4)] [] M (xQi (xP M Q)) := by
  obtain ⟨n, h⟩ := h
  have hB18 : ∀ (n : Nat) (l2 : Int32) (l3 : Int32) (l4 : Int32), xlpn (fun (B : Int32 × Int32 × Int32 → Prop) a => lbX11_middle_18 Q l0 l1 M (fun l2 l3 l4 => B (l2, l3, l4)) a.1 a.2.1 a.2.2) n (l2, l3, l4) → xX RX11 cX11_middle 6 (some .int) 3 18 [(0, .ref l0), (1, .int l1), (2, .int l2), (3, .int l3), (4, .int l4)] [] M (xQi (xP M Q)) := by
    intro n
    induction n with
    | zero => intro l2 l3 l4 h; exact False.elim h
    | succ n ih =>
      intro l2 l3 l4 h
      have hB18 := ih
      have h : lbX11_middle_18 Q l0 l1 M (fun l2 l3 l4 => xlpn (fun (B : Int32 × Int32 × Int32 → Prop) a => lbX11_middle_18 Q l0 l1 M (fun l2 l3 l4 => B (l2, l3, l4)) a.1 a.2.1 a.2.2) n (l2, l3, l4)) l2 l3 l4 := h
      unfold lbX11_middle_18 at h
      refine x_iload dX11_middle_18 rfl 20 rfl ?_
      refine x_aload_n dX11_middle_20 rfl 21 rfl ?_
      refine gf11_0 dX11_middle_21 24 rfl hk_l0 kw2_148 ?_
      refine gf0_0 dX11_middle_24 27 rfl (ly11_0 hk_l0).1 kw2_10 ?_
      refine gf9_10 dX11_middle_27 30 rfl (ly0_0 (ly11_0 hk_l0).1).1 kw1_69 ?_
      refine x_icmp_ge dX11_middle_30 70 33 rfl rfl (fun hc => ?_) (fun hc => ?_)
      · have h := h.1 hc
        refine x_iload_n dX11_middle_70 rfl 71 rfl ?_
        refine x_if_ne dX11_middle_71 78 74 rfl rfl (fun hc => ?_) (fun hc => ?_)
        · have h := h.1 hc
          refine x_iload_n dX11_middle_78 rfl 79 rfl ?_
          exact x_iret dX11_middle_79 ⟨rfl, h⟩
        · have h := h.2 hc
          refine x_iload_n dX11_middle_74 rfl 75 rfl ?_
          refine x_goto dX11_middle_75 79 rfl ?_
          exact x_iret dX11_middle_79 ⟨rfl, h⟩
      · have h := h.2 hc
        refine x_aload_n dX11_middle_33 rfl 34 rfl ?_
        refine gf11_0 dX11_middle_34 37 rfl hk_l0 kw2_148 ?_
        refine gf0_0 dX11_middle_37 40 rfl (ly11_0 hk_l0).1 kw2_10 ?_
        refine x_iload dX11_middle_40 rfl 42 rfl ?_
        refine kX9_wayTo dX11_middle_42 45 rfl (ly0_0 (ly11_0 hk_l0).1).1 kw4_236 (Nat.le_of_ble_eq_true rfl) (Nat.le_of_ble_eq_true rfl) h (fun r1 h => ?_)
        refine x_istore dX11_middle_45 (Nat.le_of_ble_eq_true rfl) [(0, .ref l0), (1, .int l1), (2, .int l2), (3, .int l3), (4, .int l4), (5, .int r1)] rfl 47 rfl ?_
        refine x_iload_n dX11_middle_47 rfl 48 rfl ?_
        refine x_iconst dX11_middle_48 kc_m1 49 rfl ?_
        refine x_icmp_eq dX11_middle_49 58 52 rfl rfl (fun hc => ?_) (fun hc => ?_)
        · have h := h.1 hc
          refine x_weak [(0, .ref l0), (1, .int l1), (4, .int l4), (5, .int r1)] [0, 1, 4, 5] rfl ?_
          exact nX11_middle_58 hB18 hk_l0 h
        · have h := h.2 hc
          refine x_iload dX11_middle_52 rfl 54 rfl ?_
          refine x_iload_n dX11_middle_54 rfl 55 rfl ?_
          refine x_icmp_ge dX11_middle_55 64 58 rfl rfl (fun hc => ?_) (fun hc => ?_)
          · have h := h.1 hc
            refine x_iinc dX11_middle_64 rfl (congrArg (l4 + ·) kc_1) (Nat.le_of_ble_eq_true rfl) [(0, .ref l0), (1, .int l1), (2, .int l2), (3, .int l3), (4, .int (l4 + 1)), (5, .int r1)] rfl 67 rfl ?_
            refine x_goto dX11_middle_67 18 rfl ?_
            refine x_weak [(0, .ref l0), (1, .int l1), (2, .int l2), (3, .int l3), (4, .int (l4 + 1))] [0, 1, 2, 3, 4] rfl ?_
            exact hB18 _ _ _ h
          · have h := h.2 hc
            refine x_weak [(0, .ref l0), (1, .int l1), (4, .int l4), (5, .int r1)] [0, 1, 4, 5] rfl ?_
            exact nX11_middle_58 hB18 hk_l0 h
  exact hB18 n l2 l3 l4 h
def NX11_middle_11 (Q : Int32 → Prop) (l0 : Nat) (l1 : Int32) (M : Mem) : Prop :=
  NX11_middle_18 Q l0 l1 (-1) (-1) 0 M
theorem nX11_middle_11 {Q : Int32 → Prop} {l0 : Nat} {l1 : Int32} {M : Mem} (hk_l0 : SHk l0 = 11) (h : NX11_middle_11 Q l0 l1 M) : xX RX11 cX11_middle 6 (some .int) 3 11 [(0, .ref l0), (1, .int l1)] [] M (xQi (xP M Q)) := by
  unfold NX11_middle_11 at h
  refine x_iconst dX11_middle_11 kc_m1 12 rfl ?_
  refine x_istore_n dX11_middle_12 (Nat.le_of_ble_eq_true rfl) [(0, .ref l0), (1, .int l1), (2, .int (-1))] rfl 13 rfl ?_
  refine x_iconst dX11_middle_13 kc_m1 14 rfl ?_
  refine x_istore_n dX11_middle_14 (Nat.le_of_ble_eq_true rfl) [(0, .ref l0), (1, .int l1), (2, .int (-1)), (3, .int (-1))] rfl 15 rfl ?_
  refine x_iconst dX11_middle_15 kc_0 16 rfl ?_
  refine x_istore dX11_middle_16 (Nat.le_of_ble_eq_true rfl) [(0, .ref l0), (1, .int l1), (2, .int (-1)), (3, .int (-1)), (4, .int 0)] rfl 18 rfl ?_
  exact nX11_middle_18 hk_l0 h
def FX11_middle (Q : Int32 → Prop) (l0 : Nat) (l1 : Int32) (M : Mem) : Prop :=
  ((l1 = 0 → NX11_middle_11 Q l0 l1 M) ∧ (¬ l1 = 0 → ((l1 = 1 → NX11_middle_11 Q l0 l1 M) ∧ (¬ l1 = 1 → Q (-1)))))
theorem eX11_middle {Q : Int32 → Prop} {l0 : Nat} {l1 : Int32} {M : Mem} (hk_l0 : SHk l0 = 11) (h : FX11_middle Q l0 l1 M) : xX RX11 cX11_middle 6 (some .int) 3 0 [(0, .ref l0), (1, .int l1)] [] M (xQi (xP M Q)) := by
  unfold FX11_middle at h
  refine x_iload_n dX11_middle_0 rfl 1 rfl ?_
  refine x_if_eq dX11_middle_1 11 4 rfl rfl (fun hc => ?_) (fun hc => ?_)
  · have h := h.1 hc
    exact nX11_middle_11 hk_l0 h
  · have h := h.2 hc
    refine x_iload_n dX11_middle_4 rfl 5 rfl ?_
    refine x_iconst dX11_middle_5 kc_1 6 rfl ?_
    refine x_icmp_eq dX11_middle_6 11 9 rfl rfl (fun hc => ?_) (fun hc => ?_)
    · have h := h.1 hc
      exact nX11_middle_11 hk_l0 h
    · have h := h.2 hc
      refine x_iconst dX11_middle_9 kc_m1 10 rfl ?_
      exact x_iret dX11_middle_10 ⟨rfl, h⟩
theorem cX11_middle_ {Q : Int32 → Prop} {l0 : Nat} {l1 : Int32} {M : Mem} (hk_l0 : SHk l0 = 11) (h : FX11_middle Q l0 l1 M) : xM yX11_middle cX11_middle 6 (some .int) 3 [.ref l0, .int l1] M (xQi (xP M Q)) := xM_of (by decide +kernel) (Nat.le_of_ble_eq_true rfl) (eX11_middle hk_l0 h)
theorem kX11_middle {own : String} {cc : ByteArray} {nL : Nat} {rt : Option FieldType} {d pc ix : Nat} {L : List (Nat × Value)} {st : List Value} {M : Mem} {Rt : xGt → Array Value → State → Outcome → State → Prop} {Q : Int32 → Prop} {l0 : Nat} {l1 : Int32} (hd : decode cc pc = .ok (.invokevirtual ix, 3)) (q : Nat) (hq : pc + 3 = q) (hk_l0 : SHk l0 = 11) (w1 : Cond.methodLink own ix yX11_middle ∈ xTs) (hr : 3 < d) (hst : (st.map fun v => v.category).sum ≤ 8) (h : FX11_middle Q l0 l1 M) (k : ∀ (r : Int32), Q r → xX own cc nL rt d q L (.int r :: st) M Rt) : xX own cc nL rt d pc L (.int l1 :: .ref l0 :: st) M Rt :=
  x_callV_i (n := 1) (As := [.int l1]) hd q hq hk_l0 (by decide) rfl rfl w1 kw4_233 kw4_234 kw1_1 kw4_235 (by decide +kernel) rfl hr (by decide) hst _ rfl (cX11_middle_ hk_l0 h) (fun r N hN => by obtain ⟨rfl, hN⟩ := hN; exact k r hN)
def FX11_follows (Q : Int32 → Prop) (l0 : Nat) (l1 : Int32) (M : Mem) : Prop :=
  ((l1 < 0 → Q (-1)) ∧ (¬ l1 < 0 → ((l1 < 65536 → FX7_closure (fun (r1 : Int32) => Q r1) ((l0 + 1) + 26) l1 (-1) M) ∧ (¬ l1 < 65536 → Q (-1)))))
theorem eX11_follows {Q : Int32 → Prop} {l0 : Nat} {l1 : Int32} {M : Mem} (hk_l0 : SHk l0 = 11) (h : FX11_follows Q l0 l1 M) : xX RX11 cX11_follows 2 (some .int) 2 0 [(0, .ref l0), (1, .int l1)] [] M (xQi (xP M Q)) := by
  unfold FX11_follows at h
  refine x_iload_n dX11_follows_0 rfl 1 rfl ?_
  refine x_if_lt dX11_follows_1 10 4 rfl rfl (fun hc => ?_) (fun hc => ?_)
  · have h := h.1 hc
    refine x_iconst dX11_follows_10 kc_m1 11 rfl ?_
    exact x_iret dX11_follows_11 ⟨rfl, h⟩
  · have h := h.2 hc
    refine x_iload_n dX11_follows_4 rfl 5 rfl ?_
    refine x_ldc dX11_follows_5 kw5_7 7 rfl ?_
    refine x_icmp_lt dX11_follows_7 12 10 rfl rfl (fun hc => ?_) (fun hc => ?_)
    · have h := h.1 hc
      refine x_aload_n dX11_follows_12 rfl 13 rfl ?_
      refine gf11_0 dX11_follows_13 16 rfl hk_l0 kw2_148 ?_
      refine gf0_4 dX11_follows_16 19 rfl (ly11_0 hk_l0).1 kw2_18 ?_
      refine x_iload_n dX11_follows_19 rfl 20 rfl ?_
      refine x_iconst dX11_follows_20 kc_m1 21 rfl ?_
      refine kX7_closure dX11_follows_21 24 rfl (ly0_4 (ly11_0 hk_l0).1).1 kw5_8 (Nat.le_of_ble_eq_true rfl) (Nat.le_of_ble_eq_true rfl) h (fun r1 h => ?_)
      exact x_iret dX11_follows_24 ⟨rfl, h⟩
    · have h := h.2 hc
      refine x_iconst dX11_follows_10 kc_m1 11 rfl ?_
      exact x_iret dX11_follows_11 ⟨rfl, h⟩
theorem cX11_follows_ {Q : Int32 → Prop} {l0 : Nat} {l1 : Int32} {M : Mem} (hk_l0 : SHk l0 = 11) (h : FX11_follows Q l0 l1 M) : xM yX11_follows cX11_follows 2 (some .int) 2 [.ref l0, .int l1] M (xQi (xP M Q)) := xM_of (by decide +kernel) (Nat.le_of_ble_eq_true rfl) (eX11_follows hk_l0 h)
theorem kX11_follows {own : String} {cc : ByteArray} {nL : Nat} {rt : Option FieldType} {d pc ix : Nat} {L : List (Nat × Value)} {st : List Value} {M : Mem} {Rt : xGt → Array Value → State → Outcome → State → Prop} {Q : Int32 → Prop} {l0 : Nat} {l1 : Int32} (hd : decode cc pc = .ok (.invokevirtual ix, 3)) (q : Nat) (hq : pc + 3 = q) (hk_l0 : SHk l0 = 11) (w1 : Cond.methodLink own ix yX11_follows ∈ xTs) (hr : 2 < d) (hst : (st.map fun v => v.category).sum ≤ 8) (h : FX11_follows Q l0 l1 M) (k : ∀ (r : Int32), Q r → xX own cc nL rt d q L (.int r :: st) M Rt) : xX own cc nL rt d pc L (.int l1 :: .ref l0 :: st) M Rt :=
  x_callV_i (n := 1) (As := [.int l1]) hd q hq hk_l0 (by decide) rfl rfl w1 kw5_4 kw5_5 kw1_1 kw5_6 (by decide +kernel) rfl hr (by decide) hst _ rfl (cX11_follows_ hk_l0 h) (fun r N hN => by obtain ⟨rfl, hN⟩ := hN; exact k r hN)
def FX11_gives (Q : Int32 → Prop) (l0 : Nat) (l1 : Int32) (l2 : Int32) (M : Mem) : Prop :=
  ((¬ l2 = 2 → ((l1 < 0 → Q (-1)) ∧ (¬ l1 < 0 → ((16 ≤ l1 → Q (-1)) ∧ (¬ 16 ≤ l1 → ((l2 < 0 → Q (-1)) ∧ (¬ l2 < 0 → ((l2 ≤ 1 → FX7_fewestFor (fun (r1 : Int32) => ((¬ r1 = 0 → ((¬ l2 = 0 → Q r1) ∧ (l2 = 0 → FJ6_bitCount_0f7a4 (fun (r2 : Int32) => Q r2) r1 M))) ∧ (r1 = 0 → Q (-1)))) ((l0 + 1) + 26) l1 M) ∧ (¬ l2 ≤ 1 → Q (-1)))))))))) ∧ (l2 = 2 → FX7_idle (fun (r3 : Int32) => Q r3) ((l0 + 1) + 26) M))
theorem eX11_gives {Q : Int32 → Prop} {l0 : Nat} {l1 : Int32} {l2 : Int32} {M : Mem} (hk_l0 : SHk l0 = 11) (h : FX11_gives Q l0 l1 l2 M) : xX RX11 cX11_gives 4 (some .int) 4 0 [(0, .ref l0), (1, .int l1), (2, .int l2)] [] M (xQi (xP M Q)) := by
  unfold FX11_gives at h
  refine x_iload_n dX11_gives_0 rfl 1 rfl ?_
  refine x_iconst dX11_gives_1 kc_2 2 rfl ?_
  refine x_icmp_ne dX11_gives_2 16 5 rfl rfl (fun hc => ?_) (fun hc => ?_)
  · have h := h.1 hc
    refine x_iload_n dX11_gives_16 rfl 17 rfl ?_
    refine x_if_lt dX11_gives_17 35 20 rfl rfl (fun hc => ?_) (fun hc => ?_)
    · have h := h.1 hc
      refine x_iconst dX11_gives_35 kc_m1 36 rfl ?_
      exact x_iret dX11_gives_36 ⟨rfl, h⟩
    · have h := h.2 hc
      refine x_iload_n dX11_gives_20 rfl 21 rfl ?_
      refine x_bipush dX11_gives_21 kb_16 23 rfl ?_
      refine x_icmp_ge dX11_gives_23 35 26 rfl rfl (fun hc => ?_) (fun hc => ?_)
      · have h := h.1 hc
        refine x_iconst dX11_gives_35 kc_m1 36 rfl ?_
        exact x_iret dX11_gives_36 ⟨rfl, h⟩
      · have h := h.2 hc
        refine x_iload_n dX11_gives_26 rfl 27 rfl ?_
        refine x_if_lt dX11_gives_27 35 30 rfl rfl (fun hc => ?_) (fun hc => ?_)
        · have h := h.1 hc
          refine x_iconst dX11_gives_35 kc_m1 36 rfl ?_
          exact x_iret dX11_gives_36 ⟨rfl, h⟩
        · have h := h.2 hc
          refine x_iload_n dX11_gives_30 rfl 31 rfl ?_
          refine x_iconst dX11_gives_31 kc_1 32 rfl ?_
          refine x_icmp_le dX11_gives_32 37 35 rfl rfl (fun hc => ?_) (fun hc => ?_)
          · have h := h.1 hc
            refine x_aload_n dX11_gives_37 rfl 38 rfl ?_
            refine gf11_0 dX11_gives_38 41 rfl hk_l0 kw2_148 ?_
            refine gf0_4 dX11_gives_41 44 rfl (ly11_0 hk_l0).1 kw2_18 ?_
            refine x_iload_n dX11_gives_44 rfl 45 rfl ?_
            refine kX7_fewestFor dX11_gives_45 48 rfl (ly0_4 (ly11_0 hk_l0).1).1 kw5_21 (Nat.le_of_ble_eq_true rfl) (Nat.le_of_ble_eq_true rfl) h (fun r1 h => ?_)
            refine x_istore_n dX11_gives_48 (Nat.le_of_ble_eq_true rfl) [(0, .ref l0), (1, .int l1), (2, .int l2), (3, .int r1)] rfl 49 rfl ?_
            refine x_iload_n dX11_gives_49 rfl 50 rfl ?_
            refine x_if_ne dX11_gives_50 55 53 rfl rfl (fun hc => ?_) (fun hc => ?_)
            · have h := h.1 hc
              refine x_iload_n dX11_gives_55 rfl 56 rfl ?_
              refine x_if_ne dX11_gives_56 66 59 rfl rfl (fun hc => ?_) (fun hc => ?_)
              · have h := h.1 hc
                refine x_iload_n dX11_gives_66 rfl 67 rfl ?_
                exact x_iret dX11_gives_67 ⟨rfl, h⟩
              · have h := h.2 hc
                refine x_iload_n dX11_gives_59 rfl 60 rfl ?_
                refine kJ6_bitCount_0f7a4 dX11_gives_60 63 rfl kw4_189 (Nat.le_of_ble_eq_true rfl) (Nat.le_of_ble_eq_true rfl) h (fun r2 h => ?_)
                refine x_goto dX11_gives_63 67 rfl ?_
                exact x_iret dX11_gives_67 ⟨rfl, h⟩
            · have h := h.2 hc
              refine x_iconst dX11_gives_53 kc_m1 54 rfl ?_
              exact x_iret dX11_gives_54 ⟨rfl, h⟩
          · have h := h.2 hc
            refine x_iconst dX11_gives_35 kc_m1 36 rfl ?_
            exact x_iret dX11_gives_36 ⟨rfl, h⟩
  · have h := h.2 hc
    refine x_aload_n dX11_gives_5 rfl 6 rfl ?_
    refine gf11_0 dX11_gives_6 9 rfl hk_l0 kw2_148 ?_
    refine gf0_4 dX11_gives_9 12 rfl (ly11_0 hk_l0).1 kw2_18 ?_
    refine kX7_idle dX11_gives_12 15 rfl (ly0_4 (ly11_0 hk_l0).1).1 kw5_16 (Nat.le_of_ble_eq_true rfl) (Nat.le_of_ble_eq_true rfl) h (fun r3 h => ?_)
    exact x_iret dX11_gives_15 ⟨rfl, h⟩
theorem cX11_gives_ {Q : Int32 → Prop} {l0 : Nat} {l1 : Int32} {l2 : Int32} {M : Mem} (hk_l0 : SHk l0 = 11) (h : FX11_gives Q l0 l1 l2 M) : xM yX11_gives cX11_gives 4 (some .int) 4 [.ref l0, .int l1, .int l2] M (xQi (xP M Q)) := xM_of (by decide +kernel) (Nat.le_of_ble_eq_true rfl) (eX11_gives hk_l0 h)
theorem kX11_gives {own : String} {cc : ByteArray} {nL : Nat} {rt : Option FieldType} {d pc ix : Nat} {L : List (Nat × Value)} {st : List Value} {M : Mem} {Rt : xGt → Array Value → State → Outcome → State → Prop} {Q : Int32 → Prop} {l0 : Nat} {l1 : Int32} {l2 : Int32} (hd : decode cc pc = .ok (.invokevirtual ix, 3)) (q : Nat) (hq : pc + 3 = q) (hk_l0 : SHk l0 = 11) (w1 : Cond.methodLink own ix yX11_gives ∈ xTs) (hr : 4 < d) (hst : (st.map fun v => v.category).sum ≤ 8) (h : FX11_gives Q l0 l1 l2 M) (k : ∀ (r : Int32), Q r → xX own cc nL rt d q L (.int r :: st) M Rt) : xX own cc nL rt d pc L (.int l2 :: .int l1 :: .ref l0 :: st) M Rt :=
  x_callV_i (n := 2) (As := [.int l1, .int l2]) hd q hq hk_l0 (by decide) rfl rfl w1 kw5_13 kw5_14 kw1_1 kw5_15 (by decide +kernel) rfl hr (by decide) hst _ rfl (cX11_gives_ hk_l0 h) (fun r N hN => by obtain ⟨rfl, hN⟩ := hN; exact k r hN)
def FX11_seen (Q : Int32 → Prop) (l0 : Nat) (l1 : Int32) (M : Mem) : Prop :=
  ((l1 = 0 → FX9_seenFrom (fun (r1 : Int32) => Q r1) ((l0 + 1) + 1) 0 M) ∧ (l1 = 1 → FX9_seenFrom (fun (r2 : Int32) => Q r2) ((l0 + 1) + 1) 1 M) ∧ (l1 = 2 → FX9_storks (fun (r3 : Int32) => Q r3) ((l0 + 1) + 1) M) ∧ (¬ l1 = 0 → ¬ l1 = 1 → ¬ l1 = 2 → Q (-1)))
theorem eX11_seen {Q : Int32 → Prop} {l0 : Nat} {l1 : Int32} {M : Mem} (hk_l0 : SHk l0 = 11) (h : FX11_seen Q l0 l1 M) : xX RX11 cX11_seen 2 (some .int) 2 0 [(0, .ref l0), (1, .int l1)] [] M (xQi (xP M Q)) := by
  unfold FX11_seen at h
  refine x_iload_n dX11_seen_0 rfl 1 rfl ?_
  by_cases hc0 : l1 = 0
  · refine x_tab_at dX11_seen_1 hc0 (by decide) (by decide) rfl (tg := 28) rfl ?_
    have h := h.1 hc0
    refine x_aload_n dX11_seen_28 rfl 29 rfl ?_
    refine gf11_0 dX11_seen_29 32 rfl hk_l0 kw2_148 ?_
    refine gf0_0 dX11_seen_32 35 rfl (ly11_0 hk_l0).1 kw2_10 ?_
    refine x_iconst dX11_seen_35 kc_0 36 rfl ?_
    refine kX9_seenFrom dX11_seen_36 39 rfl (ly0_0 (ly11_0 hk_l0).1).1 kw5_39 (Nat.le_of_ble_eq_true rfl) (Nat.le_of_ble_eq_true rfl) h (fun r1 h => ?_)
    exact x_iret dX11_seen_39 ⟨rfl, h⟩
  by_cases hc1 : l1 = 1
  · refine x_tab_at dX11_seen_1 hc1 (by decide) (by decide) rfl (tg := 40) rfl ?_
    have h := h.2.1 hc1
    refine x_aload_n dX11_seen_40 rfl 41 rfl ?_
    refine gf11_0 dX11_seen_41 44 rfl hk_l0 kw2_148 ?_
    refine gf0_0 dX11_seen_44 47 rfl (ly11_0 hk_l0).1 kw2_10 ?_
    refine x_iconst dX11_seen_47 kc_1 48 rfl ?_
    refine kX9_seenFrom dX11_seen_48 51 rfl (ly0_0 (ly11_0 hk_l0).1).1 kw5_39 (Nat.le_of_ble_eq_true rfl) (Nat.le_of_ble_eq_true rfl) h (fun r2 h => ?_)
    exact x_iret dX11_seen_51 ⟨rfl, h⟩
  by_cases hc2 : l1 = 2
  · refine x_tab_at dX11_seen_1 hc2 (by decide) (by decide) rfl (tg := 52) rfl ?_
    have h := h.2.2.1 hc2
    refine x_aload_n dX11_seen_52 rfl 53 rfl ?_
    refine gf11_0 dX11_seen_53 56 rfl hk_l0 kw2_148 ?_
    refine gf0_0 dX11_seen_56 59 rfl (ly11_0 hk_l0).1 kw2_10 ?_
    refine kX9_storks dX11_seen_59 62 rfl (ly0_0 (ly11_0 hk_l0).1).1 kw5_43 (Nat.le_of_ble_eq_true rfl) (Nat.le_of_ble_eq_true rfl) h (fun r3 h => ?_)
    exact x_iret dX11_seen_62 ⟨rfl, h⟩
  have h := h.2.2.2 hc0 hc1 hc2
  refine x_tab_out dX11_seen_1 (by have a0 := lv_neT hc0 (a := 0) (by decide); have a1 := lv_neT hc1 (a := 1) (by decide); have a2 := lv_neT hc2 (a := 2) (by decide); show (l1 : Int32).toInt < 0 ∨ 2 < (l1 : Int32).toInt; omega) (tg := 63) rfl ?_
  refine x_iconst dX11_seen_63 kc_m1 64 rfl ?_
  exact x_iret dX11_seen_64 ⟨rfl, h⟩
theorem cX11_seen_ {Q : Int32 → Prop} {l0 : Nat} {l1 : Int32} {M : Mem} (hk_l0 : SHk l0 = 11) (h : FX11_seen Q l0 l1 M) : xM yX11_seen cX11_seen 2 (some .int) 2 [.ref l0, .int l1] M (xQi (xP M Q)) := xM_of (by decide +kernel) (Nat.le_of_ble_eq_true rfl) (eX11_seen hk_l0 h)
theorem kX11_seen {own : String} {cc : ByteArray} {nL : Nat} {rt : Option FieldType} {d pc ix : Nat} {L : List (Nat × Value)} {st : List Value} {M : Mem} {Rt : xGt → Array Value → State → Outcome → State → Prop} {Q : Int32 → Prop} {l0 : Nat} {l1 : Int32} (hd : decode cc pc = .ok (.invokevirtual ix, 3)) (q : Nat) (hq : pc + 3 = q) (hk_l0 : SHk l0 = 11) (w1 : Cond.methodLink own ix yX11_seen ∈ xTs) (hr : 2 < d) (hst : (st.map fun v => v.category).sum ≤ 8) (h : FX11_seen Q l0 l1 M) (k : ∀ (r : Int32), Q r → xX own cc nL rt d q L (.int r :: st) M Rt) : xX own cc nL rt d pc L (.int l1 :: .ref l0 :: st) M Rt :=
  x_callV_i (n := 1) (As := [.int l1]) hd q hq hk_l0 (by decide) rfl rfl w1 kw5_36 kw5_37 kw1_1 kw5_38 (by decide +kernel) rfl hr (by decide) hst _ rfl (cX11_seen_ hk_l0 h) (fun r N hN => by obtain ⟨rfl, hN⟩ := hN; exact k r hN)
def lbX11_hears_36 (Q : Int32 → Prop) (l1 : Int32) (l2 : Int32) (l3 : Nat) (M : Mem) (B36 : Int32 → Int32 → Int32 → Prop) (l4 : Int32) (l5 : Int32) (l6 : Int32) : Prop :=
  (((M l3 10) ≤ l6 → ((¬ l2 = 0 → Q l5) ∧ (l2 = 0 → Q l4))) ∧ (¬ (M l3 10) ≤ l6 → ((l6 = l1 → B36 l4 l5 (l6 + 1)) ∧ (¬ l6 = l1 → FX9_hearOneAnother (fun (r1 : Bool) => ((r1 = false → B36 l4 l5 (l6 + 1)) ∧ (r1 = true → ((l5 = (-1) → B36 (l4 + 1) l6 (l6 + 1)) ∧ (¬ l5 = (-1) → FJ9_abs_0f7a4 (fun (r2 : Int32) => FJ9_abs_0f7a4 (fun (r3 : Int32) => ((r2 ≤ r3 → B36 (l4 + 1) l5 (l6 + 1)) ∧ (¬ r2 ≤ r3 → B36 (l4 + 1) l6 (l6 + 1)))) (l5 - l1) M) (l6 - l1) M))))) l3 l1 l6 M))))
def NX11_hears_36 (Q : Int32 → Prop) (l1 : Int32) (l2 : Int32) (l3 : Nat) (l4 : Int32) (l5 : Int32) (l6 : Int32) (M : Mem) : Prop := xlp (fun (B : Int32 × Int32 × Int32 → Prop) a => lbX11_hears_36 Q l1 l2 l3 M (fun l4 l5 l6 => B (l4, l5, l6)) a.1 a.2.1 a.2.2) (l4, l5, l6)
theorem nX11_hears_36 {Q : Int32 → Prop} {l1 : Int32} {l2 : Int32} {l3 : Nat} {l4 : Int32} {l5 : Int32} {l6 : Int32} {M : Mem} (hk_l3 : SHk l3 = 9) (h : NX11_hears_36 Q l1 l2 l3 l4 l5 l6 M) : xX RX11 cX11_hears 7 (some .int) 3 36 [(1, .int l1), (2, .int l2), (3, .ref l3), (4, .int l4), (5, .int l5), (6, .int l6)] [] M (xQi (xP M Q)) := by
  obtain ⟨n, h⟩ := h
  have hB36 : ∀ (n : Nat) (l4 : Int32) (l5 : Int32) (l6 : Int32), xlpn (fun (B : Int32 × Int32 × Int32 → Prop) a => lbX11_hears_36 Q l1 l2 l3 M (fun l4 l5 l6 => B (l4, l5, l6)) a.1 a.2.1 a.2.2) n (l4, l5, l6) → xX RX11 cX11_hears 7 (some .int) 3 36 [(1, .int l1), (2, .int l2), (3, .ref l3), (4, .int l4), (5, .int l5), (6, .int l6)] [] M (xQi (xP M Q)) := by
    intro n
    induction n with
    | zero => intro l4 l5 l6 h; exact False.elim h
    | succ n ih =>
      intro l4 l5 l6 h
      have hB36 := ih
      have h : lbX11_hears_36 Q l1 l2 l3 M (fun l4 l5 l6 => xlpn (fun (B : Int32 × Int32 × Int32 → Prop) a => lbX11_hears_36 Q l1 l2 l3 M (fun l4 l5 l6 => B (l4, l5, l6)) a.1 a.2.1 a.2.2) n (l4, l5, l6)) l4 l5 l6 := h
      unfold lbX11_hears_36 at h
      refine x_iload dX11_hears_36 rfl 38 rfl ?_
      refine x_aload_n dX11_hears_38 rfl 39 rfl ?_
      refine gf9_10 dX11_hears_39 42 rfl hk_l3 kw1_69 ?_
      refine x_icmp_ge dX11_hears_42 97 45 rfl rfl (fun hc => ?_) (fun hc => ?_)
      · have h := h.1 hc
        refine x_iload_n dX11_hears_97 rfl 98 rfl ?_
        refine x_if_ne dX11_hears_98 106 101 rfl rfl (fun hc => ?_) (fun hc => ?_)
        · have h := h.1 hc
          refine x_iload dX11_hears_106 rfl 108 rfl ?_
          exact x_iret dX11_hears_108 ⟨rfl, h⟩
        · have h := h.2 hc
          refine x_iload dX11_hears_101 rfl 103 rfl ?_
          refine x_goto dX11_hears_103 108 rfl ?_
          exact x_iret dX11_hears_108 ⟨rfl, h⟩
      · have h := h.2 hc
        refine x_iload dX11_hears_45 rfl 47 rfl ?_
        refine x_iload_n dX11_hears_47 rfl 48 rfl ?_
        refine x_icmp_eq dX11_hears_48 91 51 rfl rfl (fun hc => ?_) (fun hc => ?_)
        · have h := h.1 hc
          refine x_iinc dX11_hears_91 rfl (congrArg (l6 + ·) kc_1) (Nat.le_of_ble_eq_true rfl) [(1, .int l1), (2, .int l2), (3, .ref l3), (4, .int l4), (5, .int l5), (6, .int (l6 + 1))] rfl 94 rfl ?_
          refine x_goto dX11_hears_94 36 rfl ?_
          exact hB36 _ _ _ h
        · have h := h.2 hc
          refine x_aload_n dX11_hears_51 rfl 52 rfl ?_
          refine x_iload_n dX11_hears_52 rfl 53 rfl ?_
          refine x_iload dX11_hears_53 rfl 55 rfl ?_
          refine kX9_hearOneAnother dX11_hears_55 58 rfl hk_l3 kw5_51 (Nat.le_of_ble_eq_true rfl) (Nat.le_of_ble_eq_true rfl) h (fun r1 h => ?_)
          refine x_if_eq_b dX11_hears_58 91 61 rfl rfl (fun hc => ?_) (fun hc => ?_)
          · have h := h.1 hc
            refine x_iinc dX11_hears_91 rfl (congrArg (l6 + ·) kc_1) (Nat.le_of_ble_eq_true rfl) [(1, .int l1), (2, .int l2), (3, .ref l3), (4, .int l4), (5, .int l5), (6, .int (l6 + 1))] rfl 94 rfl ?_
            refine x_goto dX11_hears_94 36 rfl ?_
            exact hB36 _ _ _ h
          · have h := h.2 hc
            refine x_iinc dX11_hears_61 rfl (congrArg (l4 + ·) kc_1) (Nat.le_of_ble_eq_true rfl) [(1, .int l1), (2, .int l2), (3, .ref l3), (4, .int (l4 + 1)), (5, .int l5), (6, .int l6)] rfl 64 rfl ?_
            refine x_iload dX11_hears_64 rfl 66 rfl ?_
            refine x_iconst dX11_hears_66 kc_m1 67 rfl ?_
            refine x_icmp_eq dX11_hears_67 87 70 rfl rfl (fun hc => ?_) (fun hc => ?_)
            · have h := h.1 hc
              refine x_iload dX11_hears_87 rfl 89 rfl ?_
              refine x_istore dX11_hears_89 (Nat.le_of_ble_eq_true rfl) [(1, .int l1), (2, .int l2), (3, .ref l3), (4, .int (l4 + 1)), (5, .int l6), (6, .int l6)] rfl 91 rfl ?_
              refine x_iinc dX11_hears_91 rfl (congrArg (l6 + ·) kc_1) (Nat.le_of_ble_eq_true rfl) [(1, .int l1), (2, .int l2), (3, .ref l3), (4, .int (l4 + 1)), (5, .int l6), (6, .int (l6 + 1))] rfl 94 rfl ?_
              refine x_goto dX11_hears_94 36 rfl ?_
              exact hB36 _ _ _ h
            · have h := h.2 hc
              refine x_iload dX11_hears_70 rfl 72 rfl ?_
              refine x_iload_n dX11_hears_72 rfl 73 rfl ?_
              refine x_isub dX11_hears_73 74 rfl ?_
              refine kJ9_abs_0f7a4 dX11_hears_74 77 rfl kw5_55 (Nat.le_of_ble_eq_true rfl) (Nat.le_of_ble_eq_true rfl) h (fun r2 h => ?_)
              refine x_iload dX11_hears_77 rfl 79 rfl ?_
              refine x_iload_n dX11_hears_79 rfl 80 rfl ?_
              refine x_isub dX11_hears_80 81 rfl ?_
              refine kJ9_abs_0f7a4 dX11_hears_81 84 rfl kw5_55 (Nat.le_of_ble_eq_true rfl) (Nat.le_of_ble_eq_true rfl) h (fun r3 h => ?_)
              refine x_icmp_le dX11_hears_84 91 87 rfl rfl (fun hc => ?_) (fun hc => ?_)
              · have h := h.1 hc
                refine x_iinc dX11_hears_91 rfl (congrArg (l6 + ·) kc_1) (Nat.le_of_ble_eq_true rfl) [(1, .int l1), (2, .int l2), (3, .ref l3), (4, .int (l4 + 1)), (5, .int l5), (6, .int (l6 + 1))] rfl 94 rfl ?_
                refine x_goto dX11_hears_94 36 rfl ?_
                exact hB36 _ _ _ h
              · have h := h.2 hc
                refine x_iload dX11_hears_87 rfl 89 rfl ?_
                refine x_istore dX11_hears_89 (Nat.le_of_ble_eq_true rfl) [(1, .int l1), (2, .int l2), (3, .ref l3), (4, .int (l4 + 1)), (5, .int l6), (6, .int l6)] rfl 91 rfl ?_
                refine x_iinc dX11_hears_91 rfl (congrArg (l6 + ·) kc_1) (Nat.le_of_ble_eq_true rfl) [(1, .int l1), (2, .int l2), (3, .ref l3), (4, .int (l4 + 1)), (5, .int l6), (6, .int (l6 + 1))] rfl 94 rfl ?_
                refine x_goto dX11_hears_94 36 rfl ?_
                exact hB36 _ _ _ h
  exact hB36 n l4 l5 l6 h
def FX11_hears (Q : Int32 → Prop) (l0 : Nat) (l1 : Int32) (l2 : Int32) (M : Mem) : Prop :=
  FX9_isPillar (fun (r4 : Bool) => ((r4 = false → Q (-1)) ∧ (r4 = true → ((l2 < 0 → Q (-1)) ∧ (¬ l2 < 0 → ((l2 ≤ 1 → NX11_hears_36 Q l1 l2 ((l0 + 1) + 1) 0 (-1) 0 M) ∧ (¬ l2 ≤ 1 → Q (-1)))))))) ((l0 + 1) + 1) l1 M
theorem eX11_hears {Q : Int32 → Prop} {l0 : Nat} {l1 : Int32} {l2 : Int32} {M : Mem} (hk_l0 : SHk l0 = 11) (h : FX11_hears Q l0 l1 l2 M) : xX RX11 cX11_hears 7 (some .int) 3 0 [(0, .ref l0), (1, .int l1), (2, .int l2)] [] M (xQi (xP M Q)) := by
  unfold FX11_hears at h
  refine x_aload_n dX11_hears_0 rfl 1 rfl ?_
  refine gf11_0 dX11_hears_1 4 rfl hk_l0 kw2_148 ?_
  refine gf0_0 dX11_hears_4 7 rfl (ly11_0 hk_l0).1 kw2_10 ?_
  refine x_astore_n dX11_hears_7 (Nat.le_of_ble_eq_true rfl) [(0, .ref l0), (1, .int l1), (2, .int l2), (3, .ref ((l0 + 1) + 1))] rfl 8 rfl ?_
  refine x_aload_n dX11_hears_8 rfl 9 rfl ?_
  refine x_iload_n dX11_hears_9 rfl 10 rfl ?_
  refine kX9_isPillar dX11_hears_10 13 rfl (ly0_0 (ly11_0 hk_l0).1).1 kw4_170 (Nat.le_of_ble_eq_true rfl) (Nat.le_of_ble_eq_true rfl) h (fun r4 h => ?_)
  refine x_if_eq_b dX11_hears_13 25 16 rfl rfl (fun hc => ?_) (fun hc => ?_)
  · have h := h.1 hc
    refine x_iconst dX11_hears_25 kc_m1 26 rfl ?_
    exact x_iret dX11_hears_26 ⟨rfl, h⟩
  · have h := h.2 hc
    refine x_iload_n dX11_hears_16 rfl 17 rfl ?_
    refine x_if_lt dX11_hears_17 25 20 rfl rfl (fun hc => ?_) (fun hc => ?_)
    · have h := h.1 hc
      refine x_iconst dX11_hears_25 kc_m1 26 rfl ?_
      exact x_iret dX11_hears_26 ⟨rfl, h⟩
    · have h := h.2 hc
      refine x_iload_n dX11_hears_20 rfl 21 rfl ?_
      refine x_iconst dX11_hears_21 kc_1 22 rfl ?_
      refine x_icmp_le dX11_hears_22 27 25 rfl rfl (fun hc => ?_) (fun hc => ?_)
      · have h := h.1 hc
        refine x_iconst dX11_hears_27 kc_0 28 rfl ?_
        refine x_istore dX11_hears_28 (Nat.le_of_ble_eq_true rfl) [(0, .ref l0), (1, .int l1), (2, .int l2), (3, .ref ((l0 + 1) + 1)), (4, .int 0)] rfl 30 rfl ?_
        refine x_iconst dX11_hears_30 kc_m1 31 rfl ?_
        refine x_istore dX11_hears_31 (Nat.le_of_ble_eq_true rfl) [(0, .ref l0), (1, .int l1), (2, .int l2), (3, .ref ((l0 + 1) + 1)), (4, .int 0), (5, .int (-1))] rfl 33 rfl ?_
        refine x_iconst dX11_hears_33 kc_0 34 rfl ?_
        refine x_istore dX11_hears_34 (Nat.le_of_ble_eq_true rfl) [(0, .ref l0), (1, .int l1), (2, .int l2), (3, .ref ((l0 + 1) + 1)), (4, .int 0), (5, .int (-1)), (6, .int 0)] rfl 36 rfl ?_
        refine x_weak [(1, .int l1), (2, .int l2), (3, .ref ((l0 + 1) + 1)), (4, .int 0), (5, .int (-1)), (6, .int 0)] [1, 2, 3, 4, 5, 6] rfl ?_
        exact nX11_hears_36 (ly0_0 (ly11_0 hk_l0).1).1 h
      · have h := h.2 hc
        refine x_iconst dX11_hears_25 kc_m1 26 rfl ?_
        exact x_iret dX11_hears_26 ⟨rfl, h⟩
theorem cX11_hears_ {Q : Int32 → Prop} {l0 : Nat} {l1 : Int32} {l2 : Int32} {M : Mem} (hk_l0 : SHk l0 = 11) (h : FX11_hears Q l0 l1 l2 M) : xM yX11_hears cX11_hears 7 (some .int) 3 [.ref l0, .int l1, .int l2] M (xQi (xP M Q)) := xM_of (by decide +kernel) (Nat.le_of_ble_eq_true rfl) (eX11_hears hk_l0 h)
theorem kX11_hears {own : String} {cc : ByteArray} {nL : Nat} {rt : Option FieldType} {d pc ix : Nat} {L : List (Nat × Value)} {st : List Value} {M : Mem} {Rt : xGt → Array Value → State → Outcome → State → Prop} {Q : Int32 → Prop} {l0 : Nat} {l1 : Int32} {l2 : Int32} (hd : decode cc pc = .ok (.invokevirtual ix, 3)) (q : Nat) (hq : pc + 3 = q) (hk_l0 : SHk l0 = 11) (w1 : Cond.methodLink own ix yX11_hears ∈ xTs) (hr : 3 < d) (hst : (st.map fun v => v.category).sum ≤ 8) (h : FX11_hears Q l0 l1 l2 M) (k : ∀ (r : Int32), Q r → xX own cc nL rt d q L (.int r :: st) M Rt) : xX own cc nL rt d pc L (.int l2 :: .int l1 :: .ref l0 :: st) M Rt :=
  x_callV_i (n := 2) (As := [.int l1, .int l2]) hd q hq hk_l0 (by decide) rfl rfl w1 kw5_48 kw5_49 kw1_1 kw5_50 (by decide +kernel) rfl hr (by decide) hst _ rfl (cX11_hears_ hk_l0 h) (fun r N hN => by obtain ⟨rfl, hN⟩ := hN; exact k r hN)
def FX11_build (Q : Int32 → Mem → Prop) (l0 : Nat) (l1 : Int32) (l2 : Int32) (M : Mem) : Prop :=
  ((¬ l1 = (-1) → FX11_within (fun (r1 : Bool) => ((r1 = false → Q (-1) M) ∧ (r1 = true → FX11_within (fun (r2 : Bool) => ((r2 = true → FX10_tell (fun (r4 : Int32) (M3 : Mem) => Q r4 M3) ((l0 + 1) + 29) l1 l2 M) ∧ (r2 = false → Q (-1) M))) l2 1 30 M))) l1 1 30 M) ∧ (l1 = (-1) → ∀ M5 : Mem, M5 = xu M ((l0 + 1) + 29) 3 0 → Q 0 M5))
theorem eX11_build {Q : Int32 → Mem → Prop} {l0 : Nat} {l1 : Int32} {l2 : Int32} {M : Mem} (hk_l0 : SHk l0 = 11) (h : FX11_build Q l0 l1 l2 M) : xX RX11 cX11_build 3 (some .int) 2 0 [(0, .ref l0), (1, .int l1), (2, .int l2)] [] M (xQi Q) := by
  unfold FX11_build at h
  refine x_iload_n dX11_build_0 rfl 1 rfl ?_
  refine x_iconst dX11_build_1 kc_m1 2 rfl ?_
  refine x_icmp_ne dX11_build_2 18 5 rfl rfl (fun hc => ?_) (fun hc => ?_)
  · have h := h.1 hc
    refine x_iload_n dX11_build_18 rfl 19 rfl ?_
    refine x_iconst dX11_build_19 kc_1 20 rfl ?_
    refine x_bipush dX11_build_20 kb_30 22 rfl ?_
    refine kX11_within dX11_build_22 25 rfl kw2_213 (Nat.le_of_ble_eq_true rfl) (Nat.le_of_ble_eq_true rfl) h (fun r1 h => ?_)
    refine x_if_eq_b dX11_build_25 38 28 rfl rfl (fun hc => ?_) (fun hc => ?_)
    · have h := h.1 hc
      refine x_iconst dX11_build_38 kc_m1 39 rfl ?_
      exact x_iret dX11_build_39 h
    · have h := h.2 hc
      refine x_iload_n dX11_build_28 rfl 29 rfl ?_
      refine x_iconst dX11_build_29 kc_1 30 rfl ?_
      refine x_bipush dX11_build_30 kb_30 32 rfl ?_
      refine kX11_within dX11_build_32 35 rfl kw2_213 (Nat.le_of_ble_eq_true rfl) (Nat.le_of_ble_eq_true rfl) h (fun r2 h => ?_)
      refine x_if_ne_b dX11_build_35 40 38 rfl rfl (fun hc => ?_) (fun hc => ?_)
      · have h := h.1 hc
        refine x_aload_n dX11_build_40 rfl 41 rfl ?_
        refine gf11_0 dX11_build_41 44 rfl hk_l0 kw2_148 ?_
        refine gf0_5 dX11_build_44 47 rfl (ly11_0 hk_l0).1 kw2_20 ?_
        refine x_iload_n dX11_build_47 rfl 48 rfl ?_
        refine x_iload_n dX11_build_48 rfl 49 rfl ?_
        refine kX10_tell dX11_build_49 52 rfl (ly0_5 (ly11_0 hk_l0).1).1 kw5_60 (Nat.le_of_ble_eq_true rfl) (Nat.le_of_ble_eq_true rfl) h (fun r4 M3 h => ?_)
        exact x_iret dX11_build_52 h
      · have h := h.2 hc
        refine x_iconst dX11_build_38 kc_m1 39 rfl ?_
        exact x_iret dX11_build_39 h
  · have h := h.2 hc
    refine x_aload_n dX11_build_5 rfl 6 rfl ?_
    refine gf11_0 dX11_build_6 9 rfl hk_l0 kw2_148 ?_
    refine gf0_5 dX11_build_9 12 rfl (ly11_0 hk_l0).1 kw2_20 ?_
    refine x_iconst dX11_build_12 kc_0 13 rfl ?_
    refine pf10_3 dX11_build_13 16 rfl (ly0_5 (ly11_0 hk_l0).1).1 kw1_239 (x_mem (fun M5 hM5 => ?_))
    have h := h M5 hM5
    refine x_iconst dX11_build_16 kc_0 17 rfl ?_
    exact x_iret dX11_build_17 h
theorem cX11_build_ {Q : Int32 → Mem → Prop} {l0 : Nat} {l1 : Int32} {l2 : Int32} {M : Mem} (hk_l0 : SHk l0 = 11) (h : FX11_build Q l0 l1 l2 M) : xM yX11_build cX11_build 3 (some .int) 2 [.ref l0, .int l1, .int l2] M (xQi Q) := xM_of (by decide +kernel) (Nat.le_of_ble_eq_true rfl) (eX11_build hk_l0 h)
theorem kX11_build {own : String} {cc : ByteArray} {nL : Nat} {rt : Option FieldType} {d pc ix : Nat} {L : List (Nat × Value)} {st : List Value} {M : Mem} {Rt : xGt → Array Value → State → Outcome → State → Prop} {Q : Int32 → Mem → Prop} {l0 : Nat} {l1 : Int32} {l2 : Int32} (hd : decode cc pc = .ok (.invokevirtual ix, 3)) (q : Nat) (hq : pc + 3 = q) (hk_l0 : SHk l0 = 11) (w1 : Cond.methodLink own ix yX11_build ∈ xTs) (hr : 2 < d) (hst : (st.map fun v => v.category).sum ≤ 8) (h : FX11_build Q l0 l1 l2 M) (k : ∀ (r : Int32) (N : Mem), Q r N → xX own cc nL rt d q L (.int r :: st) N Rt) : xX own cc nL rt d pc L (.int l2 :: .int l1 :: .ref l0 :: st) M Rt :=
  x_callV_i (n := 2) (As := [.int l1, .int l2]) hd q hq hk_l0 (by decide) rfl rfl w1 kw5_57 kw5_58 kw1_1 kw5_59 (by decide +kernel) rfl hr (by decide) hst _ rfl (cX11_build_ hk_l0 h) k
def FX11_builds (Q : Int32 → Mem → Prop) (l0 : Nat) (l1 : Int32) (M : Mem) : Prop :=
  ((¬ l1 = 0 → ((l1 < 10 → Q (-1) M) ∧ (¬ l1 < 10 → ((l1 < (10 + (M ((l0 + 1) + 29) 3)) → FX10_inOrder (fun (r2 : Int32) (M1 : Mem) => Q r2 M1) ((l0 + 1) + 29) (l1 - 10) M) ∧ (¬ l1 < (10 + (M ((l0 + 1) + 29) 3)) → Q (-1) M))))) ∧ (l1 = 0 → FX10_leastSum (fun (r4 : Int32) (M3 : Mem) => Q r4 M3) ((l0 + 1) + 29) M))
theorem eX11_builds {Q : Int32 → Mem → Prop} {l0 : Nat} {l1 : Int32} {M : Mem} (hk_l0 : SHk l0 = 11) (h : FX11_builds Q l0 l1 M) : xX RX11 cX11_builds 2 (some .int) 4 0 [(0, .ref l0), (1, .int l1)] [] M (xQi Q) := by
  unfold FX11_builds at h
  refine x_iload_n dX11_builds_0 rfl 1 rfl ?_
  refine x_if_ne dX11_builds_1 15 4 rfl rfl (fun hc => ?_) (fun hc => ?_)
  · have h := h.1 hc
    refine x_iload_n dX11_builds_15 rfl 16 rfl ?_
    refine x_bipush dX11_builds_16 kb_10 18 rfl ?_
    refine x_icmp_lt dX11_builds_18 38 21 rfl rfl (fun hc => ?_) (fun hc => ?_)
    · have h := h.1 hc
      refine x_iconst dX11_builds_38 kc_m1 39 rfl ?_
      exact x_iret dX11_builds_39 h
    · have h := h.2 hc
      refine x_iload_n dX11_builds_21 rfl 22 rfl ?_
      refine x_bipush dX11_builds_22 kb_10 24 rfl ?_
      refine x_aload_n dX11_builds_24 rfl 25 rfl ?_
      refine gf11_0 dX11_builds_25 28 rfl hk_l0 kw2_148 ?_
      refine gf0_5 dX11_builds_28 31 rfl (ly11_0 hk_l0).1 kw2_20 ?_
      refine gf10_3 dX11_builds_31 34 rfl (ly0_5 (ly11_0 hk_l0).1).1 kw1_239 ?_
      refine x_iadd dX11_builds_34 35 rfl ?_
      refine x_icmp_lt dX11_builds_35 40 38 rfl rfl (fun hc => ?_) (fun hc => ?_)
      · have h := h.1 hc
        refine x_aload_n dX11_builds_40 rfl 41 rfl ?_
        refine gf11_0 dX11_builds_41 44 rfl hk_l0 kw2_148 ?_
        refine gf0_5 dX11_builds_44 47 rfl (ly11_0 hk_l0).1 kw2_20 ?_
        refine x_iload_n dX11_builds_47 rfl 48 rfl ?_
        refine x_bipush dX11_builds_48 kb_10 50 rfl ?_
        refine x_isub dX11_builds_50 51 rfl ?_
        refine kX10_inOrder dX11_builds_51 54 rfl (ly0_5 (ly11_0 hk_l0).1).1 kw5_80 (Nat.le_of_ble_eq_true rfl) (Nat.le_of_ble_eq_true rfl) h (fun r2 M1 h => ?_)
        exact x_iret dX11_builds_54 h
      · have h := h.2 hc
        refine x_iconst dX11_builds_38 kc_m1 39 rfl ?_
        exact x_iret dX11_builds_39 h
  · have h := h.2 hc
    refine x_aload_n dX11_builds_4 rfl 5 rfl ?_
    refine gf11_0 dX11_builds_5 8 rfl hk_l0 kw2_148 ?_
    refine gf0_5 dX11_builds_8 11 rfl (ly11_0 hk_l0).1 kw2_20 ?_
    refine kX10_leastSum dX11_builds_11 14 rfl (ly0_5 (ly11_0 hk_l0).1).1 kw5_68 (Nat.le_of_ble_eq_true rfl) (Nat.le_of_ble_eq_true rfl) h (fun r4 M3 h => ?_)
    exact x_iret dX11_builds_14 h
theorem cX11_builds_ {Q : Int32 → Mem → Prop} {l0 : Nat} {l1 : Int32} {M : Mem} (hk_l0 : SHk l0 = 11) (h : FX11_builds Q l0 l1 M) : xM yX11_builds cX11_builds 2 (some .int) 4 [.ref l0, .int l1] M (xQi Q) := xM_of (by decide +kernel) (Nat.le_of_ble_eq_true rfl) (eX11_builds hk_l0 h)
theorem kX11_builds {own : String} {cc : ByteArray} {nL : Nat} {rt : Option FieldType} {d pc ix : Nat} {L : List (Nat × Value)} {st : List Value} {M : Mem} {Rt : xGt → Array Value → State → Outcome → State → Prop} {Q : Int32 → Mem → Prop} {l0 : Nat} {l1 : Int32} (hd : decode cc pc = .ok (.invokevirtual ix, 3)) (q : Nat) (hq : pc + 3 = q) (hk_l0 : SHk l0 = 11) (w1 : Cond.methodLink own ix yX11_builds ∈ xTs) (hr : 4 < d) (hst : (st.map fun v => v.category).sum ≤ 8) (h : FX11_builds Q l0 l1 M) (k : ∀ (r : Int32) (N : Mem), Q r N → xX own cc nL rt d q L (.int r :: st) N Rt) : xX own cc nL rt d pc L (.int l1 :: .ref l0 :: st) M Rt :=
  x_callV_i (n := 1) (As := [.int l1]) hd q hq hk_l0 (by decide) rfl rfl w1 kw5_65 kw5_66 kw1_1 kw5_67 (by decide +kernel) rfl hr (by decide) hst _ rfl (cX11_builds_ hk_l0 h) k
def FX11_weighed (Q : Int64 → Prop) (l0 : Int64) (l2 : Int32) (l3 : Int32) (M : Mem) : Prop :=
  ∀ y1 : Int64, y1 = l0 * ((l2 : Int32).toInt64) → ∀ y2 : Int64, y2 = y1 + ((1000000 - l0) * ((l3 : Int32).toInt64)) → ((0 < (lg_cmp y2 0) → (¬ (y2 : Int64) = 0) ∧ Q ((y1 * 1000000) / y2)) ∧ (¬ 0 < (lg_cmp y2 0) → Q 0))
theorem eX11_weighed {Q : Int64 → Prop} {l0 : Int64} {l2 : Int32} {l3 : Int32} {M : Mem} (h : FX11_weighed Q l0 l2 l3 M) : xX RX11 cX11_weighed 8 (some .long) 1 0 [(0, .long l0), (2, .int l2), (3, .int l3)] [] M (xQl (xP M Q)) := by
  unfold FX11_weighed at h
  refine x_lload_n dX11_weighed_0 rfl 1 rfl ?_
  refine x_iload_n dX11_weighed_1 rfl 2 rfl ?_
  refine x_i2l dX11_weighed_2 3 rfl ?_
  refine x_lmul dX11_weighed_3 4 rfl ?_
  refine x_topl (fun y1 hy1 => ?_)
  have h := h y1 hy1
  refine x_lstore dX11_weighed_4 (Nat.le_of_ble_eq_true rfl) [(0, .long l0), (2, .int l2), (3, .int l3), (4, .long y1)] rfl 6 rfl ?_
  refine x_lload dX11_weighed_6 rfl 8 rfl ?_
  refine x_ldc2 dX11_weighed_8 kw5_92 11 rfl ?_
  refine x_lload_n dX11_weighed_11 rfl 12 rfl ?_
  refine x_lsub dX11_weighed_12 13 rfl ?_
  refine x_iload_n dX11_weighed_13 rfl 14 rfl ?_
  refine x_i2l dX11_weighed_14 15 rfl ?_
  refine x_lmul dX11_weighed_15 16 rfl ?_
  refine x_ladd dX11_weighed_16 17 rfl ?_
  refine x_topl (fun y2 hy2 => ?_)
  have h := h y2 hy2
  refine x_lstore dX11_weighed_17 (Nat.le_of_ble_eq_true rfl) [(0, .long l0), (2, .int l2), (3, .int l3), (4, .long y1), (6, .long y2)] rfl 19 rfl ?_
  refine x_lload dX11_weighed_19 rfl 21 rfl ?_
  refine x_lconst (v := 0) dX11_weighed_21 (by decide) 22 rfl ?_
  refine x_lcmp dX11_weighed_22 23 rfl ?_
  refine x_if_gt dX11_weighed_23 30 26 rfl rfl (fun hc => ?_) (fun hc => ?_)
  · have h := h.1 hc
    refine x_lload dX11_weighed_30 rfl 32 rfl ?_
    refine x_ldc2 dX11_weighed_32 kw5_92 35 rfl ?_
    refine x_lmul dX11_weighed_35 36 rfl ?_
    refine x_lload dX11_weighed_36 rfl 38 rfl ?_
    obtain ⟨hne, h⟩ := h
    refine x_ldiv dX11_weighed_38 hne 39 rfl ?_
    exact x_lret dX11_weighed_39 ⟨rfl, h⟩
  · have h := h.2 hc
    refine x_lconst (v := 0) dX11_weighed_26 (by decide) 27 rfl ?_
    refine x_goto dX11_weighed_27 39 rfl ?_
    exact x_lret dX11_weighed_39 ⟨rfl, h⟩
theorem cX11_weighed_ {Q : Int64 → Prop} {l0 : Int64} {l2 : Int32} {l3 : Int32} {M : Mem} (h : FX11_weighed Q l0 l2 l3 M) : xM yX11_weighed cX11_weighed 8 (some .long) 1 [.long l0, .int l2, .int l3] M (xQl (xP M Q)) := xM_of (by decide +kernel) (Nat.le_of_ble_eq_true rfl) (eX11_weighed h)
theorem kX11_weighed {own : String} {cc : ByteArray} {nL : Nat} {rt : Option FieldType} {d pc ix : Nat} {L : List (Nat × Value)} {st : List Value} {M : Mem} {Rt : xGt → Array Value → State → Outcome → State → Prop} {Q : Int64 → Prop} {l0 : Int64} {l2 : Int32} {l3 : Int32} (hd : decode cc pc = .ok (.invokestatic ix, 3)) (q : Nat) (hq : pc + 3 = q) (w1 : Cond.methodLink own ix yX11_weighed ∈ xTs) (hr : 1 < d) (hst : (st.map fun v => v.category).sum ≤ 8) (h : FX11_weighed Q l0 l2 l3 M) (k : ∀ (r : Int64), Q r → xX own cc nL rt d q L (.long r :: st) M Rt) : xX own cc nL rt d pc L (.int l3 :: .int l2 :: .long l0 :: st) M Rt :=
  x_callS_l (n := 3) (As := [.long l0, .int l2, .int l3]) hd q hq w1 kw5_90 kw1_1 kw5_91 (by decide +kernel) rfl hr (by decide) hst _ rfl (cX11_weighed_ h) (fun r N hN => by obtain ⟨rfl, hN⟩ := hN; exact k r hN)
def lbX11_gone_69 (Q : Int32 → Prop) (l3 : Int32) (M : Mem) (B69 : Int64 → Int32 → Prop) (l4 : Int64) (l6 : Int32) : Prop :=
  ((l3 ≤ l6 → Q l4.toInt32) ∧ (¬ l3 ≤ l6 → FX11_weighed (fun (r1 : Int64) => B69 r1 (l6 + 1)) l4 2 8 M))
def NX11_gone_69 (Q : Int32 → Prop) (l3 : Int32) (l4 : Int64) (l6 : Int32) (M : Mem) : Prop := xlp (fun (B : Int64 × Int32 → Prop) a => lbX11_gone_69 Q l3 M (fun l4 l6 => B (l4, l6)) a.1 a.2) (l4, l6)
theorem nX11_gone_69 {Q : Int32 → Prop} {l3 : Int32} {l4 : Int64} {l6 : Int32} {M : Mem} (h : NX11_gone_69 Q l3 l4 l6 M) : xX RX11 cX11_gone 7 (some .int) 2 69 [(3, .int l3), (4, .long l4), (6, .int l6)] [] M (xQi (xP M Q)) := by
  obtain ⟨n, h⟩ := h
  have hB69 : ∀ (n : Nat) (l4 : Int64) (l6 : Int32), xlpn (fun (B : Int64 × Int32 → Prop) a => lbX11_gone_69 Q l3 M (fun l4 l6 => B (l4, l6)) a.1 a.2) n (l4, l6) → xX RX11 cX11_gone 7 (some .int) 2 69 [(3, .int l3), (4, .long l4), (6, .int l6)] [] M (xQi (xP M Q)) := by
    intro n
    induction n with
    | zero => intro l4 l6 h; exact False.elim h
    | succ n ih =>
      intro l4 l6 h
      have hB69 := ih
      have h : lbX11_gone_69 Q l3 M (fun l4 l6 => xlpn (fun (B : Int64 × Int32 → Prop) a => lbX11_gone_69 Q l3 M (fun l4 l6 => B (l4, l6)) a.1 a.2) n (l4, l6)) l4 l6 := h
      unfold lbX11_gone_69 at h
      refine x_iload dX11_gone_69 rfl 71 rfl ?_
      refine x_iload_n dX11_gone_71 rfl 72 rfl ?_
      refine x_icmp_ge dX11_gone_72 91 75 rfl rfl (fun hc => ?_) (fun hc => ?_)
      · have h := h.1 hc
        refine x_lload dX11_gone_91 rfl 93 rfl ?_
        refine x_l2i dX11_gone_93 94 rfl ?_
        exact x_iret dX11_gone_94 ⟨rfl, h⟩
      · have h := h.2 hc
        refine x_lload dX11_gone_75 rfl 77 rfl ?_
        refine x_iconst dX11_gone_77 kc_2 78 rfl ?_
        refine x_bipush dX11_gone_78 kb_8 80 rfl ?_
        refine kX11_weighed dX11_gone_80 83 rfl kw5_89 (Nat.le_of_ble_eq_true rfl) (Nat.le_of_ble_eq_true rfl) h (fun r1 h => ?_)
        refine x_lstore dX11_gone_83 (Nat.le_of_ble_eq_true rfl) [(3, .int l3), (4, .long r1), (6, .int l6)] rfl 85 rfl ?_
        refine x_iinc dX11_gone_85 rfl (congrArg (l6 + ·) kc_1) (Nat.le_of_ble_eq_true rfl) [(3, .int l3), (4, .long r1), (6, .int (l6 + 1))] rfl 88 rfl ?_
        refine x_goto dX11_gone_88 69 rfl ?_
        exact hB69 _ _ h
  exact hB69 n l4 l6 h
def lbX11_gone_44 (Q : Int32 → Prop) (l2 : Int32) (l3 : Int32) (M : Mem) (B44 : Int64 → Int32 → Prop) (l4 : Int64) (l6 : Int32) : Prop :=
  ((l2 ≤ l6 → NX11_gone_69 Q l3 l4 l2 M) ∧ (¬ l2 ≤ l6 → FX11_weighed (fun (r2 : Int64) => B44 r2 (l6 + 1)) l4 8 2 M))
def NX11_gone_44 (Q : Int32 → Prop) (l2 : Int32) (l3 : Int32) (l4 : Int64) (l6 : Int32) (M : Mem) : Prop := xlp (fun (B : Int64 × Int32 → Prop) a => lbX11_gone_44 Q l2 l3 M (fun l4 l6 => B (l4, l6)) a.1 a.2) (l4, l6)
theorem nX11_gone_44 {Q : Int32 → Prop} {l2 : Int32} {l3 : Int32} {l4 : Int64} {l6 : Int32} {M : Mem} (h : NX11_gone_44 Q l2 l3 l4 l6 M) : xX RX11 cX11_gone 7 (some .int) 2 44 [(2, .int l2), (3, .int l3), (4, .long l4), (6, .int l6)] [] M (xQi (xP M Q)) := by
  obtain ⟨n, h⟩ := h
  have hB44 : ∀ (n : Nat) (l4 : Int64) (l6 : Int32), xlpn (fun (B : Int64 × Int32 → Prop) a => lbX11_gone_44 Q l2 l3 M (fun l4 l6 => B (l4, l6)) a.1 a.2) n (l4, l6) → xX RX11 cX11_gone 7 (some .int) 2 44 [(2, .int l2), (3, .int l3), (4, .long l4), (6, .int l6)] [] M (xQi (xP M Q)) := by
    intro n
    induction n with
    | zero => intro l4 l6 h; exact False.elim h
    | succ n ih =>
      intro l4 l6 h
      have hB44 := ih
      have h : lbX11_gone_44 Q l2 l3 M (fun l4 l6 => xlpn (fun (B : Int64 × Int32 → Prop) a => lbX11_gone_44 Q l2 l3 M (fun l4 l6 => B (l4, l6)) a.1 a.2) n (l4, l6)) l4 l6 := h
      unfold lbX11_gone_44 at h
      refine x_iload dX11_gone_44 rfl 46 rfl ?_
      refine x_iload_n dX11_gone_46 rfl 47 rfl ?_
      refine x_icmp_ge dX11_gone_47 66 50 rfl rfl (fun hc => ?_) (fun hc => ?_)
      · have h := h.1 hc
        refine x_iload_n dX11_gone_66 rfl 67 rfl ?_
        refine x_istore dX11_gone_67 (Nat.le_of_ble_eq_true rfl) [(2, .int l2), (3, .int l3), (4, .long l4), (6, .int l2)] rfl 69 rfl ?_
        refine x_weak [(3, .int l3), (4, .long l4), (6, .int l2)] [1, 2, 3] rfl ?_
        exact nX11_gone_69 h
      · have h := h.2 hc
        refine x_lload dX11_gone_50 rfl 52 rfl ?_
        refine x_bipush dX11_gone_52 kb_8 54 rfl ?_
        refine x_iconst dX11_gone_54 kc_2 55 rfl ?_
        refine kX11_weighed dX11_gone_55 58 rfl kw5_89 (Nat.le_of_ble_eq_true rfl) (Nat.le_of_ble_eq_true rfl) h (fun r2 h => ?_)
        refine x_lstore dX11_gone_58 (Nat.le_of_ble_eq_true rfl) [(2, .int l2), (3, .int l3), (4, .long r2), (6, .int l6)] rfl 60 rfl ?_
        refine x_iinc dX11_gone_60 rfl (congrArg (l6 + ·) kc_1) (Nat.le_of_ble_eq_true rfl) [(2, .int l2), (3, .int l3), (4, .long r2), (6, .int (l6 + 1))] rfl 63 rfl ?_
        refine x_goto dX11_gone_63 44 rfl ?_
        exact hB44 _ _ h
  exact hB44 n l4 l6 h
def FX11_gone (Q : Int32 → Prop) (l0 : Nat) (l1 : Int32) (l2 : Int32) (l3 : Int32) (M : Mem) : Prop :=
  FX11_within (fun (r3 : Bool) => ((r3 = false → Q (-1)) ∧ (r3 = true → FX11_within (fun (r4 : Bool) => ((r4 = false → Q (-1)) ∧ (r4 = true → FX11_within (fun (r5 : Bool) => ((r5 = true → ∀ y6 : Int64, y6 = ((l1 : Int32).toInt64) * 1000 → NX11_gone_44 Q l2 l3 y6 0 M) ∧ (r5 = false → Q (-1)))) l3 l2 40 M))) l2 0 20 M))) l1 0 1000 M
theorem eX11_gone {Q : Int32 → Prop} {l0 : Nat} {l1 : Int32} {l2 : Int32} {l3 : Int32} {M : Mem} (hk_l0 : SHk l0 = 11) (h : FX11_gone Q l0 l1 l2 l3 M) : xX RX11 cX11_gone 7 (some .int) 2 0 [(0, .ref l0), (1, .int l1), (2, .int l2), (3, .int l3)] [] M (xQi (xP M Q)) := by
  unfold FX11_gone at h
  refine x_iload_n dX11_gone_0 rfl 1 rfl ?_
  refine x_iconst dX11_gone_1 kc_0 2 rfl ?_
  refine x_sipush dX11_gone_2 kh_1000 5 rfl ?_
  refine kX11_within dX11_gone_5 8 rfl kw2_213 (Nat.le_of_ble_eq_true rfl) (Nat.le_of_ble_eq_true rfl) h (fun r3 h => ?_)
  refine x_if_eq_b dX11_gone_8 31 11 rfl rfl (fun hc => ?_) (fun hc => ?_)
  · have h := h.1 hc
    refine x_iconst dX11_gone_31 kc_m1 32 rfl ?_
    exact x_iret dX11_gone_32 ⟨rfl, h⟩
  · have h := h.2 hc
    refine x_iload_n dX11_gone_11 rfl 12 rfl ?_
    refine x_iconst dX11_gone_12 kc_0 13 rfl ?_
    refine x_bipush dX11_gone_13 kb_20 15 rfl ?_
    refine kX11_within dX11_gone_15 18 rfl kw2_213 (Nat.le_of_ble_eq_true rfl) (Nat.le_of_ble_eq_true rfl) h (fun r4 h => ?_)
    refine x_if_eq_b dX11_gone_18 31 21 rfl rfl (fun hc => ?_) (fun hc => ?_)
    · have h := h.1 hc
      refine x_iconst dX11_gone_31 kc_m1 32 rfl ?_
      exact x_iret dX11_gone_32 ⟨rfl, h⟩
    · have h := h.2 hc
      refine x_iload_n dX11_gone_21 rfl 22 rfl ?_
      refine x_iload_n dX11_gone_22 rfl 23 rfl ?_
      refine x_bipush dX11_gone_23 kb_40 25 rfl ?_
      refine kX11_within dX11_gone_25 28 rfl kw2_213 (Nat.le_of_ble_eq_true rfl) (Nat.le_of_ble_eq_true rfl) h (fun r5 h => ?_)
      refine x_if_ne_b dX11_gone_28 33 31 rfl rfl (fun hc => ?_) (fun hc => ?_)
      · have h := h.1 hc
        refine x_iload_n dX11_gone_33 rfl 34 rfl ?_
        refine x_i2l dX11_gone_34 35 rfl ?_
        refine x_ldc2 dX11_gone_35 kw5_88 38 rfl ?_
        refine x_lmul dX11_gone_38 39 rfl ?_
        refine x_topl (fun y6 hy6 => ?_)
        have h := h y6 hy6
        refine x_lstore dX11_gone_39 (Nat.le_of_ble_eq_true rfl) [(0, .ref l0), (1, .int l1), (2, .int l2), (3, .int l3), (4, .long y6)] rfl 41 rfl ?_
        refine x_iconst dX11_gone_41 kc_0 42 rfl ?_
        refine x_istore dX11_gone_42 (Nat.le_of_ble_eq_true rfl) [(0, .ref l0), (1, .int l1), (2, .int l2), (3, .int l3), (4, .long y6), (6, .int 0)] rfl 44 rfl ?_
        refine x_weak [(2, .int l2), (3, .int l3), (4, .long y6), (6, .int 0)] [2, 3, 4, 5] rfl ?_
        exact nX11_gone_44 h
      · have h := h.2 hc
        refine x_iconst dX11_gone_31 kc_m1 32 rfl ?_
        exact x_iret dX11_gone_32 ⟨rfl, h⟩
theorem cX11_gone_ {Q : Int32 → Prop} {l0 : Nat} {l1 : Int32} {l2 : Int32} {l3 : Int32} {M : Mem} (hk_l0 : SHk l0 = 11) (h : FX11_gone Q l0 l1 l2 l3 M) : xM yX11_gone cX11_gone 7 (some .int) 2 [.ref l0, .int l1, .int l2, .int l3] M (xQi (xP M Q)) := xM_of (by decide +kernel) (Nat.le_of_ble_eq_true rfl) (eX11_gone hk_l0 h)
theorem kX11_gone {own : String} {cc : ByteArray} {nL : Nat} {rt : Option FieldType} {d pc ix : Nat} {L : List (Nat × Value)} {st : List Value} {M : Mem} {Rt : xGt → Array Value → State → Outcome → State → Prop} {Q : Int32 → Prop} {l0 : Nat} {l1 : Int32} {l2 : Int32} {l3 : Int32} (hd : decode cc pc = .ok (.invokevirtual ix, 3)) (q : Nat) (hq : pc + 3 = q) (hk_l0 : SHk l0 = 11) (w1 : Cond.methodLink own ix yX11_gone ∈ xTs) (hr : 2 < d) (hst : (st.map fun v => v.category).sum ≤ 8) (h : FX11_gone Q l0 l1 l2 l3 M) (k : ∀ (r : Int32), Q r → xX own cc nL rt d q L (.int r :: st) M Rt) : xX own cc nL rt d pc L (.int l3 :: .int l2 :: .int l1 :: .ref l0 :: st) M Rt :=
  x_callV_i (n := 3) (As := [.int l1, .int l2, .int l3]) hd q hq hk_l0 (by decide) rfl rfl w1 kw5_85 kw5_86 kw1_1 kw5_87 (by decide +kernel) rfl hr (by decide) hst _ rfl (cX11_gone_ hk_l0 h) (fun r N hN => by obtain ⟨rfl, hN⟩ := hN; exact k r hN)
def FX11_lap (Q : Int32 → Mem → Prop) (l0 : Nat) (l1 : Int32) (l2 : Int32) (l3 : Int32) (l4 : Int32) (M : Mem) : Prop :=
  FX9_isPillar (fun (r1 : Bool) => ((r1 = false → Q (-1) M) ∧ (r1 = true → FX9_isPillar (fun (r2 : Bool) => ((r2 = false → Q (-1) M) ∧ (r2 = true → FX11_within (fun (r3 : Bool) => ((r3 = false → Q (-1) M) ∧ (r3 = true → ((l4 < 0 → Q (-1) M) ∧ (¬ l4 < 0 → ((l4 ≤ 1 → FX1_walk (fun (M4 : Mem) => vp_in l2 10 ∧ ((¬ (M4 ((l0 + 162) + 1) (ix l2)) = (-1) → ((¬ l4 = 0 → vp_in l2 10 ∧ Q (M4 ((l0 + 162) + 2) (ix l2)) M4) ∧ (l4 = 0 → vp_in l2 10 ∧ Q (M4 ((l0 + 162) + 1) (ix l2)) M4))) ∧ ((M4 ((l0 + 162) + 1) (ix l2)) = (-1) → Q (-1) M4))) (l0 + 162) ((l0 + 1) + 1) l1 l3 M) ∧ (¬ l4 ≤ 1 → Q (-1) M))))))) l3 0 99 M))) ((l0 + 1) + 1) l2 M))) ((l0 + 1) + 1) l1 M
theorem eX11_lap {Q : Int32 → Mem → Prop} {l0 : Nat} {l1 : Int32} {l2 : Int32} {l3 : Int32} {l4 : Int32} {M : Mem} (hk_l0 : SHk l0 = 11) (h : FX11_lap Q l0 l1 l2 l3 l4 M) : xX RX11 cX11_lap 6 (some .int) 4 0 [(0, .ref l0), (1, .int l1), (2, .int l2), (3, .int l3), (4, .int l4)] [] M (xQi Q) := by
  unfold FX11_lap at h
  refine x_aload_n dX11_lap_0 rfl 1 rfl ?_
  refine gf11_0 dX11_lap_1 4 rfl hk_l0 kw2_148 ?_
  refine gf0_0 dX11_lap_4 7 rfl (ly11_0 hk_l0).1 kw2_10 ?_
  refine x_astore dX11_lap_7 (Nat.le_of_ble_eq_true rfl) [(0, .ref l0), (1, .int l1), (2, .int l2), (3, .int l3), (4, .int l4), (5, .ref ((l0 + 1) + 1))] rfl 9 rfl ?_
  refine x_aload dX11_lap_9 rfl 11 rfl ?_
  refine x_iload_n dX11_lap_11 rfl 12 rfl ?_
  refine kX9_isPillar dX11_lap_12 15 rfl (ly0_0 (ly11_0 hk_l0).1).1 kw4_170 (Nat.le_of_ble_eq_true rfl) (Nat.le_of_ble_eq_true rfl) h (fun r1 h => ?_)
  refine x_if_eq_b dX11_lap_15 48 18 rfl rfl (fun hc => ?_) (fun hc => ?_)
  · have h := h.1 hc
    refine x_iconst dX11_lap_48 kc_m1 49 rfl ?_
    exact x_iret dX11_lap_49 h
  · have h := h.2 hc
    refine x_aload dX11_lap_18 rfl 20 rfl ?_
    refine x_iload_n dX11_lap_20 rfl 21 rfl ?_
    refine kX9_isPillar dX11_lap_21 24 rfl (ly0_0 (ly11_0 hk_l0).1).1 kw4_170 (Nat.le_of_ble_eq_true rfl) (Nat.le_of_ble_eq_true rfl) h (fun r2 h => ?_)
    refine x_if_eq_b dX11_lap_24 48 27 rfl rfl (fun hc => ?_) (fun hc => ?_)
    · have h := h.1 hc
      refine x_iconst dX11_lap_48 kc_m1 49 rfl ?_
      exact x_iret dX11_lap_49 h
    · have h := h.2 hc
      refine x_iload_n dX11_lap_27 rfl 28 rfl ?_
      refine x_iconst dX11_lap_28 kc_0 29 rfl ?_
      refine x_bipush dX11_lap_29 kb_99 31 rfl ?_
      refine kX11_within dX11_lap_31 34 rfl kw2_213 (Nat.le_of_ble_eq_true rfl) (Nat.le_of_ble_eq_true rfl) h (fun r3 h => ?_)
      refine x_if_eq_b dX11_lap_34 48 37 rfl rfl (fun hc => ?_) (fun hc => ?_)
      · have h := h.1 hc
        refine x_iconst dX11_lap_48 kc_m1 49 rfl ?_
        exact x_iret dX11_lap_49 h
      · have h := h.2 hc
        refine x_iload dX11_lap_37 rfl 39 rfl ?_
        refine x_if_lt dX11_lap_39 48 42 rfl rfl (fun hc => ?_) (fun hc => ?_)
        · have h := h.1 hc
          refine x_iconst dX11_lap_48 kc_m1 49 rfl ?_
          exact x_iret dX11_lap_49 h
        · have h := h.2 hc
          refine x_iload dX11_lap_42 rfl 44 rfl ?_
          refine x_iconst dX11_lap_44 kc_1 45 rfl ?_
          refine x_icmp_le dX11_lap_45 50 48 rfl rfl (fun hc => ?_) (fun hc => ?_)
          · have h := h.1 hc
            refine x_aload_n dX11_lap_50 rfl 51 rfl ?_
            refine gf11_5 dX11_lap_51 54 rfl hk_l0 kw2_153 ?_
            refine x_aload dX11_lap_54 rfl 56 rfl ?_
            refine x_iload_n dX11_lap_56 rfl 57 rfl ?_
            refine x_iload_n dX11_lap_57 rfl 58 rfl ?_
            refine kX1_walk dX11_lap_58 61 rfl (ly11_5 hk_l0).1 (ly0_0 (ly11_0 hk_l0).1).1 kw5_97 (Nat.le_of_ble_eq_true rfl) (Nat.le_of_ble_eq_true rfl) h (fun M4 h => ?_)
            refine x_aload_n dX11_lap_61 rfl 62 rfl ?_
            refine gf11_5 dX11_lap_62 65 rfl hk_l0 kw2_153 ?_
            refine gf1_0 dX11_lap_65 68 rfl (ly11_5 hk_l0).1 kw2_140 ?_
            refine x_iload_n dX11_lap_68 rfl 69 rfl ?_
            obtain ⟨hin, h⟩ := h
            refine x_iaload dX11_lap_69 (ly1_0 (ly11_5 hk_l0).1) hin 70 rfl ?_
            refine x_iconst dX11_lap_70 kc_m1 71 rfl ?_
            refine x_icmp_ne dX11_lap_71 76 74 rfl rfl (fun hc => ?_) (fun hc => ?_)
            · have h := h.1 hc
              refine x_iload dX11_lap_76 rfl 78 rfl ?_
              refine x_if_ne dX11_lap_78 93 81 rfl rfl (fun hc => ?_) (fun hc => ?_)
              · have h := h.1 hc
                refine x_aload_n dX11_lap_93 rfl 94 rfl ?_
                refine gf11_5 dX11_lap_94 97 rfl hk_l0 kw2_153 ?_
                refine gf1_1 dX11_lap_97 100 rfl (ly11_5 hk_l0).1 kw2_142 ?_
                refine x_iload_n dX11_lap_100 rfl 101 rfl ?_
                obtain ⟨hin, h⟩ := h
                refine x_iaload dX11_lap_101 (ly1_1 (ly11_5 hk_l0).1) hin 102 rfl ?_
                exact x_iret dX11_lap_102 h
              · have h := h.2 hc
                refine x_aload_n dX11_lap_81 rfl 82 rfl ?_
                refine gf11_5 dX11_lap_82 85 rfl hk_l0 kw2_153 ?_
                refine gf1_0 dX11_lap_85 88 rfl (ly11_5 hk_l0).1 kw2_140 ?_
                refine x_iload_n dX11_lap_88 rfl 89 rfl ?_
                obtain ⟨hin, h⟩ := h
                refine x_iaload dX11_lap_89 (ly1_0 (ly11_5 hk_l0).1) hin 90 rfl ?_
                refine x_goto dX11_lap_90 102 rfl ?_
                exact x_iret dX11_lap_102 h
            · have h := h.2 hc
              refine x_iconst dX11_lap_74 kc_m1 75 rfl ?_
              exact x_iret dX11_lap_75 h
          · have h := h.2 hc
            refine x_iconst dX11_lap_48 kc_m1 49 rfl ?_
            exact x_iret dX11_lap_49 h
theorem cX11_lap_ {Q : Int32 → Mem → Prop} {l0 : Nat} {l1 : Int32} {l2 : Int32} {l3 : Int32} {l4 : Int32} {M : Mem} (hk_l0 : SHk l0 = 11) (h : FX11_lap Q l0 l1 l2 l3 l4 M) : xM yX11_lap cX11_lap 6 (some .int) 4 [.ref l0, .int l1, .int l2, .int l3, .int l4] M (xQi Q) := xM_of (by decide +kernel) (Nat.le_of_ble_eq_true rfl) (eX11_lap hk_l0 h)
theorem kX11_lap {own : String} {cc : ByteArray} {nL : Nat} {rt : Option FieldType} {d pc ix : Nat} {L : List (Nat × Value)} {st : List Value} {M : Mem} {Rt : xGt → Array Value → State → Outcome → State → Prop} {Q : Int32 → Mem → Prop} {l0 : Nat} {l1 : Int32} {l2 : Int32} {l3 : Int32} {l4 : Int32} (hd : decode cc pc = .ok (.invokevirtual ix, 3)) (q : Nat) (hq : pc + 3 = q) (hk_l0 : SHk l0 = 11) (w1 : Cond.methodLink own ix yX11_lap ∈ xTs) (hr : 4 < d) (hst : (st.map fun v => v.category).sum ≤ 8) (h : FX11_lap Q l0 l1 l2 l3 l4 M) (k : ∀ (r : Int32) (N : Mem), Q r N → xX own cc nL rt d q L (.int r :: st) N Rt) : xX own cc nL rt d pc L (.int l4 :: .int l3 :: .int l2 :: .int l1 :: .ref l0 :: st) M Rt :=
  x_callV_i (n := 4) (As := [.int l1, .int l2, .int l3, .int l4]) hd q hq hk_l0 (by decide) rfl rfl w1 kw5_94 kw5_95 kw1_1 kw5_96 (by decide +kernel) rfl hr (by decide) hst _ rfl (cX11_lap_ hk_l0 h) k
def lbX11_game_79 (Q : Int32 → Prop) (B52 : Int32 → Prop) (l1 : Int32) (l2 : Nat) (l3 : Int32) (l4 : Int32) (l5 : Int32) (M : Mem) (B79 : Int32 → Prop) (l6 : Int32) : Prop :=
  ((l5 < l6 → B52 (l4 + 1)) ∧ (¬ l5 < l6 → FX9_nimber (fun (r1 : Int32) => FX9_nimber (fun (r2 : Int32) => ((¬ ((l3 ^^^ r1) ^^^ r2) = 0 → B79 (l6 + 1)) ∧ (((l3 ^^^ r1) ^^^ r2) = 0 → ((¬ l1 = 0 → Q l6) ∧ (l1 = 0 → Q l4))))) l2 l4 l6 M) l2 l4 0 M))
def NX11_game_79 (Q : Int32 → Prop) (B52 : Int32 → Prop) (l1 : Int32) (l2 : Nat) (l3 : Int32) (l4 : Int32) (l5 : Int32) (l6 : Int32) (M : Mem) : Prop := xlp (fun (B : Int32 → Prop) a => lbX11_game_79 Q B52 l1 l2 l3 l4 l5 M (fun l6 => B (l6)) a) (l6)
theorem nX11_game_79 {Q : Int32 → Prop} {B52 : Int32 → Prop} {l1 : Int32} {l2 : Nat} {l3 : Int32} {l4 : Int32} {l5 : Int32} {l6 : Int32} {M : Mem} (hB52 : ∀ (l4 : Int32), B52 l4 → xX RX11 cX11_game 7 (some .int) 5 52 [(1, .int l1), (2, .ref l2), (3, .int l3), (4, .int l4)] [] M (xQi (xP M Q))) (hk_l2 : SHk l2 = 9) (h : NX11_game_79 Q B52 l1 l2 l3 l4 l5 l6 M) : xX RX11 cX11_game 7 (some .int) 5 79 [(1, .int l1), (2, .ref l2), (3, .int l3), (4, .int l4), (5, .int l5), (6, .int l6)] [] M (xQi (xP M Q)) := by
  obtain ⟨n, h⟩ := h
  have hB79 : ∀ (n : Nat) (l6 : Int32), xlpn (fun (B : Int32 → Prop) a => lbX11_game_79 Q B52 l1 l2 l3 l4 l5 M (fun l6 => B (l6)) a) n (l6) → xX RX11 cX11_game 7 (some .int) 5 79 [(1, .int l1), (2, .ref l2), (3, .int l3), (4, .int l4), (5, .int l5), (6, .int l6)] [] M (xQi (xP M Q)) := by
    intro n
    induction n with
    | zero => intro l6 h; exact False.elim h
    | succ n ih =>
      intro l6 h
      have hB79 := ih
      have h : lbX11_game_79 Q B52 l1 l2 l3 l4 l5 M (fun l6 => xlpn (fun (B : Int32 → Prop) a => lbX11_game_79 Q B52 l1 l2 l3 l4 l5 M (fun l6 => B (l6)) a) n (l6)) l6 := h
      unfold lbX11_game_79 at h
      refine x_iload dX11_game_79 rfl 81 rfl ?_
      refine x_iload dX11_game_81 rfl 83 rfl ?_
      refine x_icmp_gt dX11_game_83 125 86 rfl rfl (fun hc => ?_) (fun hc => ?_)
      · have h := h.1 hc
        refine x_iinc dX11_game_125 rfl (congrArg (l4 + ·) kc_1) (Nat.le_of_ble_eq_true rfl) [(1, .int l1), (2, .ref l2), (3, .int l3), (4, .int (l4 + 1)), (5, .int l5), (6, .int l6)] rfl 128 rfl ?_
        refine x_goto dX11_game_128 52 rfl ?_
        refine x_weak [(1, .int l1), (2, .ref l2), (3, .int l3), (4, .int (l4 + 1))] [0, 1, 2, 3] rfl ?_
        exact hB52 _ h
      · have h := h.2 hc
        refine x_iload_n dX11_game_86 rfl 87 rfl ?_
        refine x_aload_n dX11_game_87 rfl 88 rfl ?_
        refine x_iload dX11_game_88 rfl 90 rfl ?_
        refine x_iconst dX11_game_90 kc_0 91 rfl ?_
        refine kX9_nimber dX11_game_91 94 rfl hk_l2 kw5_113 (Nat.le_of_ble_eq_true rfl) (Nat.le_of_ble_eq_true rfl) h (fun r1 h => ?_)
        refine x_ixor dX11_game_94 95 rfl ?_
        refine x_aload_n dX11_game_95 rfl 96 rfl ?_
        refine x_iload dX11_game_96 rfl 98 rfl ?_
        refine x_iload dX11_game_98 rfl 100 rfl ?_
        refine kX9_nimber dX11_game_100 103 rfl hk_l2 kw5_113 (Nat.le_of_ble_eq_true rfl) (Nat.le_of_ble_eq_true rfl) h (fun r2 h => ?_)
        refine x_ixor dX11_game_103 104 rfl ?_
        refine x_if_ne dX11_game_104 119 107 rfl rfl (fun hc => ?_) (fun hc => ?_)
        · have h := h.1 hc
          refine x_iinc dX11_game_119 rfl (congrArg (l6 + ·) kc_1) (Nat.le_of_ble_eq_true rfl) [(1, .int l1), (2, .ref l2), (3, .int l3), (4, .int l4), (5, .int l5), (6, .int (l6 + 1))] rfl 122 rfl ?_
          refine x_goto dX11_game_122 79 rfl ?_
          exact hB79 _ h
        · have h := h.2 hc
          refine x_iload_n dX11_game_107 rfl 108 rfl ?_
          refine x_if_ne dX11_game_108 116 111 rfl rfl (fun hc => ?_) (fun hc => ?_)
          · have h := h.1 hc
            refine x_iload dX11_game_116 rfl 118 rfl ?_
            exact x_iret dX11_game_118 ⟨rfl, h⟩
          · have h := h.2 hc
            refine x_iload dX11_game_111 rfl 113 rfl ?_
            refine x_goto dX11_game_113 118 rfl ?_
            exact x_iret dX11_game_118 ⟨rfl, h⟩
  exact hB79 n l6 h
def lbX11_game_52 (Q : Int32 → Prop) (l1 : Int32) (l2 : Nat) (l3 : Int32) (M : Mem) (B52 : Int32 → Prop) (l4 : Int32) : Prop :=
  (((M l2 10) ≤ l4 → Q (-1)) ∧ (¬ (M l2 10) ≤ l4 → FX9_heap (fun (r3 : Int32) => FJ9_min_7cf53 (fun (r4 : Int32) => NX11_game_79 Q B52 l1 l2 l3 l4 r4 1 M) (l4 + 1) r3 M) l2 l4 M))
def NX11_game_52 (Q : Int32 → Prop) (l1 : Int32) (l2 : Nat) (l3 : Int32) (l4 : Int32) (M : Mem) : Prop := xlp (fun (B : Int32 → Prop) a => lbX11_game_52 Q l1 l2 l3 M (fun l4 => B (l4)) a) (l4)
theorem nX11_game_52 {Q : Int32 → Prop} {l1 : Int32} {l2 : Nat} {l3 : Int32} {l4 : Int32} {M : Mem} (hk_l2 : SHk l2 = 9) (h : NX11_game_52 Q l1 l2 l3 l4 M) : xX RX11 cX11_game 7 (some .int) 5 52 [(1, .int l1), (2, .ref l2), (3, .int l3), (4, .int l4)] [] M (xQi (xP M Q)) := by
  obtain ⟨n, h⟩ := h
  have hB52 : ∀ (n : Nat) (l4 : Int32), xlpn (fun (B : Int32 → Prop) a => lbX11_game_52 Q l1 l2 l3 M (fun l4 => B (l4)) a) n (l4) → xX RX11 cX11_game 7 (some .int) 5 52 [(1, .int l1), (2, .ref l2), (3, .int l3), (4, .int l4)] [] M (xQi (xP M Q)) := by
    intro n
    induction n with
    | zero => intro l4 h; exact False.elim h
    | succ n ih =>
      intro l4 h
      have hB52 := ih
      have h : lbX11_game_52 Q l1 l2 l3 M (fun l4 => xlpn (fun (B : Int32 → Prop) a => lbX11_game_52 Q l1 l2 l3 M (fun l4 => B (l4)) a) n (l4)) l4 := h
      unfold lbX11_game_52 at h
      refine x_iload dX11_game_52 rfl 54 rfl ?_
      refine x_aload_n dX11_game_54 rfl 55 rfl ?_
      refine gf9_10 dX11_game_55 58 rfl hk_l2 kw1_69 ?_
      refine x_icmp_ge dX11_game_58 131 61 rfl rfl (fun hc => ?_) (fun hc => ?_)
      · have h := h.1 hc
        refine x_iconst dX11_game_131 kc_m1 132 rfl ?_
        exact x_iret dX11_game_132 ⟨rfl, h⟩
      · have h := h.2 hc
        refine x_iload dX11_game_61 rfl 63 rfl ?_
        refine x_iconst dX11_game_63 kc_1 64 rfl ?_
        refine x_iadd dX11_game_64 65 rfl ?_
        refine x_aload_n dX11_game_65 rfl 66 rfl ?_
        refine x_iload dX11_game_66 rfl 68 rfl ?_
        refine kX9_heap dX11_game_68 71 rfl hk_l2 kw5_122 (Nat.le_of_ble_eq_true rfl) (Nat.le_of_ble_eq_true rfl) h (fun r3 h => ?_)
        refine kJ9_min_7cf53 dX11_game_71 74 rfl kw3_35 (Nat.le_of_ble_eq_true rfl) (Nat.le_of_ble_eq_true rfl) h (fun r4 h => ?_)
        refine x_istore dX11_game_74 (Nat.le_of_ble_eq_true rfl) [(1, .int l1), (2, .ref l2), (3, .int l3), (4, .int l4), (5, .int r4)] rfl 76 rfl ?_
        refine x_iconst dX11_game_76 kc_1 77 rfl ?_
        refine x_istore dX11_game_77 (Nat.le_of_ble_eq_true rfl) [(1, .int l1), (2, .ref l2), (3, .int l3), (4, .int l4), (5, .int r4), (6, .int 1)] rfl 79 rfl ?_
        exact nX11_game_79 hB52 hk_l2 h
  exact hB52 n l4 h
def lbX11_game_24 (Q : Int32 → Prop) (l1 : Int32) (l2 : Nat) (M : Mem) (B24 : Int32 → Int32 → Prop) (l3 : Int32) (l4 : Int32) : Prop :=
  (((M l2 10) ≤ l4 → NX11_game_52 Q l1 l2 l3 0 M) ∧ (¬ (M l2 10) ≤ l4 → FX9_nimber (fun (r5 : Int32) => B24 (l3 ^^^ r5) (l4 + 1)) l2 l4 0 M))
def NX11_game_24 (Q : Int32 → Prop) (l1 : Int32) (l2 : Nat) (l3 : Int32) (l4 : Int32) (M : Mem) : Prop := xlp (fun (B : Int32 × Int32 → Prop) a => lbX11_game_24 Q l1 l2 M (fun l3 l4 => B (l3, l4)) a.1 a.2) (l3, l4)
theorem nX11_game_24 {Q : Int32 → Prop} {l1 : Int32} {l2 : Nat} {l3 : Int32} {l4 : Int32} {M : Mem} (hk_l2 : SHk l2 = 9) (h : NX11_game_24 Q l1 l2 l3 l4 M) : xX RX11 cX11_game 7 (some .int) 5 24 [(1, .int l1), (2, .ref l2), (3, .int l3), (4, .int l4)] [] M (xQi (xP M Q)) := by
  obtain ⟨n, h⟩ := h
  have hB24 : ∀ (n : Nat) (l3 : Int32) (l4 : Int32), xlpn (fun (B : Int32 × Int32 → Prop) a => lbX11_game_24 Q l1 l2 M (fun l3 l4 => B (l3, l4)) a.1 a.2) n (l3, l4) → xX RX11 cX11_game 7 (some .int) 5 24 [(1, .int l1), (2, .ref l2), (3, .int l3), (4, .int l4)] [] M (xQi (xP M Q)) := by
    intro n
    induction n with
    | zero => intro l3 l4 h; exact False.elim h
    | succ n ih =>
      intro l3 l4 h
      have hB24 := ih
      have h : lbX11_game_24 Q l1 l2 M (fun l3 l4 => xlpn (fun (B : Int32 × Int32 → Prop) a => lbX11_game_24 Q l1 l2 M (fun l3 l4 => B (l3, l4)) a.1 a.2) n (l3, l4)) l3 l4 := h
      unfold lbX11_game_24 at h
      refine x_iload dX11_game_24 rfl 26 rfl ?_
      refine x_aload_n dX11_game_26 rfl 27 rfl ?_
      refine gf9_10 dX11_game_27 30 rfl hk_l2 kw1_69 ?_
      refine x_icmp_ge dX11_game_30 49 33 rfl rfl (fun hc => ?_) (fun hc => ?_)
      · have h := h.1 hc
        refine x_iconst dX11_game_49 kc_0 50 rfl ?_
        refine x_istore dX11_game_50 (Nat.le_of_ble_eq_true rfl) [(1, .int l1), (2, .ref l2), (3, .int l3), (4, .int 0)] rfl 52 rfl ?_
        exact nX11_game_52 hk_l2 h
      · have h := h.2 hc
        refine x_iload_n dX11_game_33 rfl 34 rfl ?_
        refine x_aload_n dX11_game_34 rfl 35 rfl ?_
        refine x_iload dX11_game_35 rfl 37 rfl ?_
        refine x_iconst dX11_game_37 kc_0 38 rfl ?_
        refine kX9_nimber dX11_game_38 41 rfl hk_l2 kw5_113 (Nat.le_of_ble_eq_true rfl) (Nat.le_of_ble_eq_true rfl) h (fun r5 h => ?_)
        refine x_ixor dX11_game_41 42 rfl ?_
        refine x_istore_n dX11_game_42 (Nat.le_of_ble_eq_true rfl) [(1, .int l1), (2, .ref l2), (3, .int (l3 ^^^ r5)), (4, .int l4)] rfl 43 rfl ?_
        refine x_iinc dX11_game_43 rfl (congrArg (l4 + ·) kc_1) (Nat.le_of_ble_eq_true rfl) [(1, .int l1), (2, .ref l2), (3, .int (l3 ^^^ r5)), (4, .int (l4 + 1))] rfl 46 rfl ?_
        refine x_goto dX11_game_46 24 rfl ?_
        exact hB24 _ _ h
  exact hB24 n l3 l4 h
def NX11_game_11 (Q : Int32 → Prop) (l0 : Nat) (l1 : Int32) (M : Mem) : Prop :=
  NX11_game_24 Q l1 ((l0 + 1) + 1) 0 0 M
theorem nX11_game_11 {Q : Int32 → Prop} {l0 : Nat} {l1 : Int32} {M : Mem} (hk_l0 : SHk l0 = 11) (h : NX11_game_11 Q l0 l1 M) : xX RX11 cX11_game 7 (some .int) 5 11 [(0, .ref l0), (1, .int l1)] [] M (xQi (xP M Q)) := by
  unfold NX11_game_11 at h
  refine x_aload_n dX11_game_11 rfl 12 rfl ?_
  refine gf11_0 dX11_game_12 15 rfl hk_l0 kw2_148 ?_
  refine gf0_0 dX11_game_15 18 rfl (ly11_0 hk_l0).1 kw2_10 ?_
  refine x_astore_n dX11_game_18 (Nat.le_of_ble_eq_true rfl) [(0, .ref l0), (1, .int l1), (2, .ref ((l0 + 1) + 1))] rfl 19 rfl ?_
  refine x_iconst dX11_game_19 kc_0 20 rfl ?_
  refine x_istore_n dX11_game_20 (Nat.le_of_ble_eq_true rfl) [(0, .ref l0), (1, .int l1), (2, .ref ((l0 + 1) + 1)), (3, .int 0)] rfl 21 rfl ?_
  refine x_iconst dX11_game_21 kc_0 22 rfl ?_
  refine x_istore dX11_game_22 (Nat.le_of_ble_eq_true rfl) [(0, .ref l0), (1, .int l1), (2, .ref ((l0 + 1) + 1)), (3, .int 0), (4, .int 0)] rfl 24 rfl ?_
  refine x_weak [(1, .int l1), (2, .ref ((l0 + 1) + 1)), (3, .int 0), (4, .int 0)] [1, 2, 3, 4] rfl ?_
  exact nX11_game_24 (ly0_0 (ly11_0 hk_l0).1).1 h
def FX11_game (Q : Int32 → Prop) (l0 : Nat) (l1 : Int32) (M : Mem) : Prop :=
  ((l1 = 0 → NX11_game_11 Q l0 l1 M) ∧ (¬ l1 = 0 → ((l1 = 1 → NX11_game_11 Q l0 l1 M) ∧ (¬ l1 = 1 → Q (-1)))))
theorem eX11_game {Q : Int32 → Prop} {l0 : Nat} {l1 : Int32} {M : Mem} (hk_l0 : SHk l0 = 11) (h : FX11_game Q l0 l1 M) : xX RX11 cX11_game 7 (some .int) 5 0 [(0, .ref l0), (1, .int l1)] [] M (xQi (xP M Q)) := by
  unfold FX11_game at h
  refine x_iload_n dX11_game_0 rfl 1 rfl ?_
  refine x_if_eq dX11_game_1 11 4 rfl rfl (fun hc => ?_) (fun hc => ?_)
  · have h := h.1 hc
    exact nX11_game_11 hk_l0 h
  · have h := h.2 hc
    refine x_iload_n dX11_game_4 rfl 5 rfl ?_
    refine x_iconst dX11_game_5 kc_1 6 rfl ?_
    refine x_icmp_eq dX11_game_6 11 9 rfl rfl (fun hc => ?_) (fun hc => ?_)
    · have h := h.1 hc
      exact nX11_game_11 hk_l0 h
    · have h := h.2 hc
      refine x_iconst dX11_game_9 kc_m1 10 rfl ?_
      exact x_iret dX11_game_10 ⟨rfl, h⟩
theorem cX11_game_ {Q : Int32 → Prop} {l0 : Nat} {l1 : Int32} {M : Mem} (hk_l0 : SHk l0 = 11) (h : FX11_game Q l0 l1 M) : xM yX11_game cX11_game 7 (some .int) 5 [.ref l0, .int l1] M (xQi (xP M Q)) := xM_of (by decide +kernel) (Nat.le_of_ble_eq_true rfl) (eX11_game hk_l0 h)
theorem kX11_game {own : String} {cc : ByteArray} {nL : Nat} {rt : Option FieldType} {d pc ix : Nat} {L : List (Nat × Value)} {st : List Value} {M : Mem} {Rt : xGt → Array Value → State → Outcome → State → Prop} {Q : Int32 → Prop} {l0 : Nat} {l1 : Int32} (hd : decode cc pc = .ok (.invokevirtual ix, 3)) (q : Nat) (hq : pc + 3 = q) (hk_l0 : SHk l0 = 11) (w1 : Cond.methodLink own ix yX11_game ∈ xTs) (hr : 5 < d) (hst : (st.map fun v => v.category).sum ≤ 8) (h : FX11_game Q l0 l1 M) (k : ∀ (r : Int32), Q r → xX own cc nL rt d q L (.int r :: st) M Rt) : xX own cc nL rt d pc L (.int l1 :: .ref l0 :: st) M Rt :=
  x_callV_i (n := 1) (As := [.int l1]) hd q hq hk_l0 (by decide) rfl rfl w1 kw5_110 kw5_111 kw1_1 kw5_112 (by decide +kernel) rfl hr (by decide) hst _ rfl (cX11_game_ hk_l0 h) (fun r N hN => by obtain ⟨rfl, hN⟩ := hN; exact k r hN)
def FX11_undo (Q : Bool → Mem → Prop) (l0 : Nat) (M : Mem) : Prop :=
  FX3_goBack (fun (r2 : Bool) (M1 : Mem) => Q r2 M1) (l0 + 77) ((l0 + 1) + 1) M
theorem eX11_undo {Q : Bool → Mem → Prop} {l0 : Nat} {M : Mem} (hk_l0 : SHk l0 = 11) (h : FX11_undo Q l0 M) : xX RX11 cX11_undo 1 (some .boolean) 4 0 [(0, .ref l0)] [] M (xQb Q) := by
  unfold FX11_undo at h
  refine x_aload_n dX11_undo_0 rfl 1 rfl ?_
  refine gf11_3 dX11_undo_1 4 rfl hk_l0 kw2_151 ?_
  refine x_aload_n dX11_undo_4 rfl 5 rfl ?_
  refine gf11_0 dX11_undo_5 8 rfl hk_l0 kw2_148 ?_
  refine gf0_0 dX11_undo_8 11 rfl (ly11_0 hk_l0).1 kw2_10 ?_
  refine kX3_goBack dX11_undo_11 14 rfl (ly11_3 hk_l0).1 (ly0_0 (ly11_0 hk_l0).1).1 kw5_127 (Nat.le_of_ble_eq_true rfl) (Nat.le_of_ble_eq_true rfl) h (fun r2 M1 h => ?_)
  exact x_zret dX11_undo_14 h
theorem cX11_undo_ {Q : Bool → Mem → Prop} {l0 : Nat} {M : Mem} (hk_l0 : SHk l0 = 11) (h : FX11_undo Q l0 M) : xM yX11_undo cX11_undo 1 (some .boolean) 4 [.ref l0] M (xQb Q) := xM_of (by decide +kernel) (Nat.le_of_ble_eq_true rfl) (eX11_undo hk_l0 h)
theorem kX11_undo {own : String} {cc : ByteArray} {nL : Nat} {rt : Option FieldType} {d pc ix : Nat} {L : List (Nat × Value)} {st : List Value} {M : Mem} {Rt : xGt → Array Value → State → Outcome → State → Prop} {Q : Bool → Mem → Prop} {l0 : Nat} (hd : decode cc pc = .ok (.invokevirtual ix, 3)) (q : Nat) (hq : pc + 3 = q) (hk_l0 : SHk l0 = 11) (w1 : Cond.methodLink own ix yX11_undo ∈ xTs) (hr : 4 < d) (hst : (st.map fun v => v.category).sum ≤ 8) (h : FX11_undo Q l0 M) (k : ∀ (r : Bool) (N : Mem), Q r N → xX own cc nL rt d q L (.int (bI r) :: st) N Rt) : xX own cc nL rt d pc L (.ref l0 :: st) M Rt :=
  x_callV_b (n := 0) (As := []) hd q hq hk_l0 (by decide) rfl rfl w1 kw5_124 kw5_125 kw1_1 kw5_126 (by decide +kernel) rfl hr (by decide) hst _ rfl (cX11_undo_ hk_l0 h) k
def FX11_image (Q : Bool → Mem → Prop) (l0 : Nat) (l1 : Int32) (M : Mem) : Prop :=
  ((l1 = 0 → ((¬ (M l0 8) = 0 → FX0_copyFrom (fun (M1 : Mem) => FX3_forget (fun (M2 : Mem) => Q true M2) (l0 + 77) M1) (l0 + 1) (l0 + 34) M) ∧ ((M l0 8) = 0 → Q false M))) ∧ (¬ l1 = 0 → FX0_copyFrom (fun (M3 : Mem) => ∀ M4 : Mem, M4 = xu M3 l0 8 1 → Q true M4) (l0 + 34) (l0 + 1) M))
theorem eX11_image {Q : Bool → Mem → Prop} {l0 : Nat} {l1 : Int32} {M : Mem} (hk_l0 : SHk l0 = 11) (h : FX11_image Q l0 l1 M) : xX RX11 cX11_image 2 (some .boolean) 4 0 [(0, .ref l0), (1, .int l1)] [] M (xQb Q) := by
  unfold FX11_image at h
  refine x_iload_n dX11_image_0 rfl 1 rfl ?_
  refine x_if_eq dX11_image_1 22 4 rfl rfl (fun hc => ?_) (fun hc => ?_)
  · have h := h.1 hc
    refine x_aload_n dX11_image_22 rfl 23 rfl ?_
    refine gf11_8 dX11_image_23 26 rfl hk_l0 kw2_156 ?_
    refine x_if_ne dX11_image_26 31 29 rfl rfl (fun hc => ?_) (fun hc => ?_)
    · have h := h.1 hc
      refine x_aload_n dX11_image_31 rfl 32 rfl ?_
      refine gf11_0 dX11_image_32 35 rfl hk_l0 kw2_148 ?_
      refine x_aload_n dX11_image_35 rfl 36 rfl ?_
      refine gf11_1 dX11_image_36 39 rfl hk_l0 kw2_149 ?_
      refine kX0_copyFrom dX11_image_39 42 rfl (ly11_0 hk_l0).1 (ly11_1 hk_l0).1 kw5_135 (Nat.le_of_ble_eq_true rfl) (Nat.le_of_ble_eq_true rfl) h (fun M1 h => ?_)
      refine x_aload_n dX11_image_42 rfl 43 rfl ?_
      refine gf11_3 dX11_image_43 46 rfl hk_l0 kw2_151 ?_
      refine kX3_forget dX11_image_46 49 rfl (ly11_3 hk_l0).1 kw2_181 (Nat.le_of_ble_eq_true rfl) (Nat.le_of_ble_eq_true rfl) h (fun M2 h => ?_)
      refine x_iconst dX11_image_49 kc_1 50 rfl ?_
      exact x_zret (z := true) dX11_image_50 h
    · have h := h.2 hc
      refine x_iconst dX11_image_29 kc_0 30 rfl ?_
      exact x_zret (z := false) dX11_image_30 h
  · have h := h.2 hc
    refine x_aload_n dX11_image_4 rfl 5 rfl ?_
    refine gf11_1 dX11_image_5 8 rfl hk_l0 kw2_149 ?_
    refine x_aload_n dX11_image_8 rfl 9 rfl ?_
    refine gf11_0 dX11_image_9 12 rfl hk_l0 kw2_148 ?_
    refine kX0_copyFrom dX11_image_12 15 rfl (ly11_1 hk_l0).1 (ly11_0 hk_l0).1 kw5_135 (Nat.le_of_ble_eq_true rfl) (Nat.le_of_ble_eq_true rfl) h (fun M3 h => ?_)
    refine x_aload_n dX11_image_15 rfl 16 rfl ?_
    refine x_iconst dX11_image_16 kc_1 17 rfl ?_
    refine pf11_8 dX11_image_17 20 rfl hk_l0 kw2_156 (Or.inr rfl) (x_mem (fun M4 hM4 => ?_))
    have h := h M4 hM4
    refine x_iconst dX11_image_20 kc_1 21 rfl ?_
    exact x_zret (z := true) dX11_image_21 h
theorem cX11_image_ {Q : Bool → Mem → Prop} {l0 : Nat} {l1 : Int32} {M : Mem} (hk_l0 : SHk l0 = 11) (h : FX11_image Q l0 l1 M) : xM yX11_image cX11_image 2 (some .boolean) 4 [.ref l0, .int l1] M (xQb Q) := xM_of (by decide +kernel) (Nat.le_of_ble_eq_true rfl) (eX11_image hk_l0 h)
theorem kX11_image {own : String} {cc : ByteArray} {nL : Nat} {rt : Option FieldType} {d pc ix : Nat} {L : List (Nat × Value)} {st : List Value} {M : Mem} {Rt : xGt → Array Value → State → Outcome → State → Prop} {Q : Bool → Mem → Prop} {l0 : Nat} {l1 : Int32} (hd : decode cc pc = .ok (.invokevirtual ix, 3)) (q : Nat) (hq : pc + 3 = q) (hk_l0 : SHk l0 = 11) (w1 : Cond.methodLink own ix yX11_image ∈ xTs) (hr : 4 < d) (hst : (st.map fun v => v.category).sum ≤ 8) (h : FX11_image Q l0 l1 M) (k : ∀ (r : Bool) (N : Mem), Q r N → xX own cc nL rt d q L (.int (bI r) :: st) N Rt) : xX own cc nL rt d pc L (.int l1 :: .ref l0 :: st) M Rt :=
  x_callV_b (n := 1) (As := [.int l1]) hd q hq hk_l0 (by decide) rfl rfl w1 kw5_132 kw5_133 kw1_1 kw5_134 (by decide +kernel) rfl hr (by decide) hst _ rfl (cX11_image_ hk_l0 h) k
def FX11_look (Q : Int32 → Prop) (l0 : Nat) (l1 : Int32) (M : Mem) : Prop :=
  ((l1 = 10 → Q (M ((l0 + 1) + 11) 7)) ∧ (l1 = 11 → Q (M ((l0 + 1) + 18) 2)) ∧ (l1 = 12 → Q (M ((l0 + 1) + 21) 4)) ∧ (l1 = 13 → Q (M ((l0 + 1) + 26) 2)) ∧ (l1 = 14 → Q (M ((l0 + 1) + 29) 3)) ∧ (l1 = 15 → Q (M (l0 + 77) 1)) ∧ (¬ l1 = 10 → ¬ l1 = 11 → ¬ l1 = 12 → ¬ l1 = 13 → ¬ l1 = 14 → ¬ l1 = 15 → FX9_shown (fun (r1 : Int32) => Q r1) ((l0 + 1) + 1) l1 M))
theorem eX11_look {Q : Int32 → Prop} {l0 : Nat} {l1 : Int32} {M : Mem} (hk_l0 : SHk l0 = 11) (h : FX11_look Q l0 l1 M) : xX RX11 cX11_look 2 (some .int) 2 0 [(0, .ref l0), (1, .int l1)] [] M (xQi (xP M Q)) := by
  unfold FX11_look at h
  refine x_iload_n dX11_look_0 rfl 1 rfl ?_
  by_cases hc0 : l1 = 10
  · refine x_tab_at dX11_look_1 hc0 (by decide) (by decide) rfl (tg := 40) rfl ?_
    have h := h.1 hc0
    refine x_aload_n dX11_look_40 rfl 41 rfl ?_
    refine gf11_0 dX11_look_41 44 rfl hk_l0 kw2_148 ?_
    refine gf0_1 dX11_look_44 47 rfl (ly11_0 hk_l0).1 kw2_12 ?_
    refine gf2_7 dX11_look_47 50 rfl (ly0_1 (ly11_0 hk_l0).1).1 kw1_151 ?_
    exact x_iret dX11_look_50 ⟨rfl, h⟩
  by_cases hc1 : l1 = 11
  · refine x_tab_at dX11_look_1 hc1 (by decide) (by decide) rfl (tg := 51) rfl ?_
    have h := h.2.1 hc1
    refine x_aload_n dX11_look_51 rfl 52 rfl ?_
    refine gf11_0 dX11_look_52 55 rfl hk_l0 kw2_148 ?_
    refine gf0_2 dX11_look_55 58 rfl (ly11_0 hk_l0).1 kw2_14 ?_
    refine gf6_2 dX11_look_58 61 rfl (ly0_2 (ly11_0 hk_l0).1).1 kw1_179 ?_
    exact x_iret dX11_look_61 ⟨rfl, h⟩
  by_cases hc2 : l1 = 12
  · refine x_tab_at dX11_look_1 hc2 (by decide) (by decide) rfl (tg := 62) rfl ?_
    have h := h.2.2.1 hc2
    refine x_aload_n dX11_look_62 rfl 63 rfl ?_
    refine gf11_0 dX11_look_63 66 rfl hk_l0 kw2_148 ?_
    refine gf0_3 dX11_look_66 69 rfl (ly11_0 hk_l0).1 kw2_16 ?_
    refine gf4_4 dX11_look_69 72 rfl (ly0_3 (ly11_0 hk_l0).1).1 kw1_199 ?_
    exact x_iret dX11_look_72 ⟨rfl, h⟩
  by_cases hc3 : l1 = 13
  · refine x_tab_at dX11_look_1 hc3 (by decide) (by decide) rfl (tg := 73) rfl ?_
    have h := h.2.2.2.1 hc3
    refine x_aload_n dX11_look_73 rfl 74 rfl ?_
    refine gf11_0 dX11_look_74 77 rfl hk_l0 kw2_148 ?_
    refine gf0_4 dX11_look_77 80 rfl (ly11_0 hk_l0).1 kw2_18 ?_
    refine gf7_2 dX11_look_80 83 rfl (ly0_4 (ly11_0 hk_l0).1).1 kw1_221 ?_
    exact x_iret dX11_look_83 ⟨rfl, h⟩
  by_cases hc4 : l1 = 14
  · refine x_tab_at dX11_look_1 hc4 (by decide) (by decide) rfl (tg := 84) rfl ?_
    have h := h.2.2.2.2.1 hc4
    refine x_aload_n dX11_look_84 rfl 85 rfl ?_
    refine gf11_0 dX11_look_85 88 rfl hk_l0 kw2_148 ?_
    refine gf0_5 dX11_look_88 91 rfl (ly11_0 hk_l0).1 kw2_20 ?_
    refine gf10_3 dX11_look_91 94 rfl (ly0_5 (ly11_0 hk_l0).1).1 kw1_239 ?_
    exact x_iret dX11_look_94 ⟨rfl, h⟩
  by_cases hc5 : l1 = 15
  · refine x_tab_at dX11_look_1 hc5 (by decide) (by decide) rfl (tg := 95) rfl ?_
    have h := h.2.2.2.2.2.1 hc5
    refine x_aload_n dX11_look_95 rfl 96 rfl ?_
    refine gf11_3 dX11_look_96 99 rfl hk_l0 kw2_151 ?_
    refine gf3_1 dX11_look_99 102 rfl (ly11_3 hk_l0).1 kw2_47 ?_
    exact x_iret dX11_look_102 ⟨rfl, h⟩
  have h := h.2.2.2.2.2.2 hc0 hc1 hc2 hc3 hc4 hc5
  refine x_tab_out dX11_look_1 (by have a0 := lv_neT hc0 (a := 10) (by decide); have a1 := lv_neT hc1 (a := 11) (by decide); have a2 := lv_neT hc2 (a := 12) (by decide); have a3 := lv_neT hc3 (a := 13) (by decide); have a4 := lv_neT hc4 (a := 14) (by decide); have a5 := lv_neT hc5 (a := 15) (by decide); show (l1 : Int32).toInt < 10 ∨ 15 < (l1 : Int32).toInt; omega) (tg := 103) rfl ?_
  refine x_aload_n dX11_look_103 rfl 104 rfl ?_
  refine gf11_0 dX11_look_104 107 rfl hk_l0 kw2_148 ?_
  refine gf0_0 dX11_look_107 110 rfl (ly11_0 hk_l0).1 kw2_10 ?_
  refine x_iload_n dX11_look_110 rfl 111 rfl ?_
  refine kX9_shown dX11_look_111 114 rfl (ly0_0 (ly11_0 hk_l0).1).1 kw5_149 (Nat.le_of_ble_eq_true rfl) (Nat.le_of_ble_eq_true rfl) h (fun r1 h => ?_)
  exact x_iret dX11_look_114 ⟨rfl, h⟩
theorem cX11_look_ {Q : Int32 → Prop} {l0 : Nat} {l1 : Int32} {M : Mem} (hk_l0 : SHk l0 = 11) (h : FX11_look Q l0 l1 M) : xM yX11_look cX11_look 2 (some .int) 2 [.ref l0, .int l1] M (xQi (xP M Q)) := xM_of (by decide +kernel) (Nat.le_of_ble_eq_true rfl) (eX11_look hk_l0 h)
theorem kX11_look {own : String} {cc : ByteArray} {nL : Nat} {rt : Option FieldType} {d pc ix : Nat} {L : List (Nat × Value)} {st : List Value} {M : Mem} {Rt : xGt → Array Value → State → Outcome → State → Prop} {Q : Int32 → Prop} {l0 : Nat} {l1 : Int32} (hd : decode cc pc = .ok (.invokevirtual ix, 3)) (q : Nat) (hq : pc + 3 = q) (hk_l0 : SHk l0 = 11) (w1 : Cond.methodLink own ix yX11_look ∈ xTs) (hr : 2 < d) (hst : (st.map fun v => v.category).sum ≤ 8) (h : FX11_look Q l0 l1 M) (k : ∀ (r : Int32), Q r → xX own cc nL rt d q L (.int r :: st) M Rt) : xX own cc nL rt d pc L (.int l1 :: .ref l0 :: st) M Rt :=
  x_callV_i (n := 1) (As := [.int l1]) hd q hq hk_l0 (by decide) rfl rfl w1 kw5_146 kw5_147 kw1_1 kw5_148 (by decide +kernel) rfl hr (by decide) hst _ rfl (cX11_look_ hk_l0 h) (fun r N hN => by obtain ⟨rfl, hN⟩ := hN; exact k r hN)
def FX12_isIn (Q : Bool → Prop) (l0 : Nat) (l1 : Int32) (l2 : Int32) (l3 : Int32) (M : Mem) : Prop :=
  ((l1 < l2 → Q false) ∧ (¬ l1 < l2 → ((l3 < l1 → Q false) ∧ (¬ l3 < l1 → Q true))))
theorem eX12_isIn {Q : Bool → Prop} {l0 : Nat} {l1 : Int32} {l2 : Int32} {l3 : Int32} {M : Mem} (hk_l0 : SHk l0 = 12) (h : FX12_isIn Q l0 l1 l2 l3 M) : xX RX12 cX12_isIn 4 (some .boolean) 1 0 [(0, .ref l0), (1, .int l1), (2, .int l2), (3, .int l3)] [] M (xQb (xP M Q)) := by
  unfold FX12_isIn at h
  refine x_iload_n dX12_isIn_0 rfl 1 rfl ?_
  refine x_iload_n dX12_isIn_1 rfl 2 rfl ?_
  refine x_icmp_lt dX12_isIn_2 14 5 rfl rfl (fun hc => ?_) (fun hc => ?_)
  · have h := h.1 hc
    refine x_iconst dX12_isIn_14 kc_0 15 rfl ?_
    exact x_zret (z := false) dX12_isIn_15 ⟨rfl, h⟩
  · have h := h.2 hc
    refine x_iload_n dX12_isIn_5 rfl 6 rfl ?_
    refine x_iload_n dX12_isIn_6 rfl 7 rfl ?_
    refine x_icmp_gt dX12_isIn_7 14 10 rfl rfl (fun hc => ?_) (fun hc => ?_)
    · have h := h.1 hc
      refine x_iconst dX12_isIn_14 kc_0 15 rfl ?_
      exact x_zret (z := false) dX12_isIn_15 ⟨rfl, h⟩
    · have h := h.2 hc
      refine x_iconst dX12_isIn_10 kc_1 11 rfl ?_
      refine x_goto dX12_isIn_11 15 rfl ?_
      exact x_zret (z := true) dX12_isIn_15 ⟨rfl, h⟩
theorem cX12_isIn_ {Q : Bool → Prop} {l0 : Nat} {l1 : Int32} {l2 : Int32} {l3 : Int32} {M : Mem} (hk_l0 : SHk l0 = 12) (h : FX12_isIn Q l0 l1 l2 l3 M) : xM yX12_isIn cX12_isIn 4 (some .boolean) 1 [.ref l0, .int l1, .int l2, .int l3] M (xQb (xP M Q)) := xM_of (by decide +kernel) (Nat.le_of_ble_eq_true rfl) (eX12_isIn hk_l0 h)
theorem kX12_isIn {own : String} {cc : ByteArray} {nL : Nat} {rt : Option FieldType} {d pc ix : Nat} {L : List (Nat × Value)} {st : List Value} {M : Mem} {Rt : xGt → Array Value → State → Outcome → State → Prop} {Q : Bool → Prop} {l0 : Nat} {l1 : Int32} {l2 : Int32} {l3 : Int32} (hd : decode cc pc = .ok (.invokevirtual ix, 3)) (q : Nat) (hq : pc + 3 = q) (hk_l0 : SHk l0 = 12) (w1 : Cond.methodLink own ix yX12_isIn ∈ xTs) (hr : 1 < d) (hst : (st.map fun v => v.category).sum ≤ 8) (h : FX12_isIn Q l0 l1 l2 l3 M) (k : ∀ (r : Bool), Q r → xX own cc nL rt d q L (.int (bI r) :: st) M Rt) : xX own cc nL rt d pc L (.int l3 :: .int l2 :: .int l1 :: .ref l0 :: st) M Rt :=
  x_callV_b (n := 3) (As := [.int l1, .int l2, .int l3]) hd q hq hk_l0 (by decide) rfl rfl w1 kw6_84 ks3_1 kw1_14 kw6_85 (by decide +kernel) rfl hr (by decide) hst _ rfl (cX12_isIn_ hk_l0 h) (fun r N hN => by obtain ⟨rfl, hN⟩ := hN; exact k r hN)
def FX12_held (Q : Int32 → Prop) (l0 : Nat) (l1 : Int32) (l2 : Int32) (l3 : Int32) (M : Mem) : Prop :=
  ((l2 ≤ l1 → ((l1 ≤ l3 → Q l1) ∧ (¬ l1 ≤ l3 → Q l3))) ∧ (¬ l2 ≤ l1 → Q l2))
theorem eX12_held {Q : Int32 → Prop} {l0 : Nat} {l1 : Int32} {l2 : Int32} {l3 : Int32} {M : Mem} (hk_l0 : SHk l0 = 12) (h : FX12_held Q l0 l1 l2 l3 M) : xX RX12 cX12_held 4 (some .int) 1 0 [(0, .ref l0), (1, .int l1), (2, .int l2), (3, .int l3)] [] M (xQi (xP M Q)) := by
  unfold FX12_held at h
  refine x_iload_n dX12_held_0 rfl 1 rfl ?_
  refine x_iload_n dX12_held_1 rfl 2 rfl ?_
  refine x_icmp_ge dX12_held_2 9 5 rfl rfl (fun hc => ?_) (fun hc => ?_)
  · have h := h.1 hc
    refine x_iload_n dX12_held_9 rfl 10 rfl ?_
    refine x_iload_n dX12_held_10 rfl 11 rfl ?_
    refine x_icmp_le dX12_held_11 18 14 rfl rfl (fun hc => ?_) (fun hc => ?_)
    · have h := h.1 hc
      refine x_iload_n dX12_held_18 rfl 19 rfl ?_
      exact x_iret dX12_held_19 ⟨rfl, h⟩
    · have h := h.2 hc
      refine x_iload_n dX12_held_14 rfl 15 rfl ?_
      refine x_goto dX12_held_15 19 rfl ?_
      exact x_iret dX12_held_19 ⟨rfl, h⟩
  · have h := h.2 hc
    refine x_iload_n dX12_held_5 rfl 6 rfl ?_
    refine x_goto dX12_held_6 19 rfl ?_
    exact x_iret dX12_held_19 ⟨rfl, h⟩
theorem cX12_held_ {Q : Int32 → Prop} {l0 : Nat} {l1 : Int32} {l2 : Int32} {l3 : Int32} {M : Mem} (hk_l0 : SHk l0 = 12) (h : FX12_held Q l0 l1 l2 l3 M) : xM yX12_held cX12_held 4 (some .int) 1 [.ref l0, .int l1, .int l2, .int l3] M (xQi (xP M Q)) := xM_of (by decide +kernel) (Nat.le_of_ble_eq_true rfl) (eX12_held hk_l0 h)
theorem kX12_held {own : String} {cc : ByteArray} {nL : Nat} {rt : Option FieldType} {d pc ix : Nat} {L : List (Nat × Value)} {st : List Value} {M : Mem} {Rt : xGt → Array Value → State → Outcome → State → Prop} {Q : Int32 → Prop} {l0 : Nat} {l1 : Int32} {l2 : Int32} {l3 : Int32} (hd : decode cc pc = .ok (.invokevirtual ix, 3)) (q : Nat) (hq : pc + 3 = q) (hk_l0 : SHk l0 = 12) (w1 : Cond.methodLink own ix yX12_held ∈ xTs) (hr : 1 < d) (hst : (st.map fun v => v.category).sum ≤ 8) (h : FX12_held Q l0 l1 l2 l3 M) (k : ∀ (r : Int32), Q r → xX own cc nL rt d q L (.int r :: st) M Rt) : xX own cc nL rt d pc L (.int l3 :: .int l2 :: .int l1 :: .ref l0 :: st) M Rt :=
  x_callV_i (n := 3) (As := [.int l1, .int l2, .int l3]) hd q hq hk_l0 (by decide) rfl rfl w1 kw7_128 ks7_0 kw1_14 kw7_129 (by decide +kernel) rfl hr (by decide) hst _ rfl (cX12_held_ hk_l0 h) (fun r N hN => by obtain ⟨rfl, hN⟩ := hN; exact k r hN)
def FX12_greater (Q : Int32 → Prop) (l0 : Nat) (l1 : Int32) (l2 : Int32) (M : Mem) : Prop :=
  ((l1 ≤ l2 → Q l2) ∧ (¬ l1 ≤ l2 → Q l1))
theorem eX12_greater {Q : Int32 → Prop} {l0 : Nat} {l1 : Int32} {l2 : Int32} {M : Mem} (hk_l0 : SHk l0 = 12) (h : FX12_greater Q l0 l1 l2 M) : xX RX12 cX12_greater 3 (some .int) 1 0 [(0, .ref l0), (1, .int l1), (2, .int l2)] [] M (xQi (xP M Q)) := by
  unfold FX12_greater at h
  refine x_iload_n dX12_greater_0 rfl 1 rfl ?_
  refine x_iload_n dX12_greater_1 rfl 2 rfl ?_
  refine x_icmp_le dX12_greater_2 9 5 rfl rfl (fun hc => ?_) (fun hc => ?_)
  · have h := h.1 hc
    refine x_iload_n dX12_greater_9 rfl 10 rfl ?_
    exact x_iret dX12_greater_10 ⟨rfl, h⟩
  · have h := h.2 hc
    refine x_iload_n dX12_greater_5 rfl 6 rfl ?_
    refine x_goto dX12_greater_6 10 rfl ?_
    exact x_iret dX12_greater_10 ⟨rfl, h⟩
theorem cX12_greater_ {Q : Int32 → Prop} {l0 : Nat} {l1 : Int32} {l2 : Int32} {M : Mem} (hk_l0 : SHk l0 = 12) (h : FX12_greater Q l0 l1 l2 M) : xM yX12_greater cX12_greater 3 (some .int) 1 [.ref l0, .int l1, .int l2] M (xQi (xP M Q)) := xM_of (by decide +kernel) (Nat.le_of_ble_eq_true rfl) (eX12_greater hk_l0 h)
theorem kX12_greater {own : String} {cc : ByteArray} {nL : Nat} {rt : Option FieldType} {d pc ix : Nat} {L : List (Nat × Value)} {st : List Value} {M : Mem} {Rt : xGt → Array Value → State → Outcome → State → Prop} {Q : Int32 → Prop} {l0 : Nat} {l1 : Int32} {l2 : Int32} (hd : decode cc pc = .ok (.invokevirtual ix, 3)) (q : Nat) (hq : pc + 3 = q) (hk_l0 : SHk l0 = 12) (w1 : Cond.methodLink own ix yX12_greater ∈ xTs) (hr : 1 < d) (hst : (st.map fun v => v.category).sum ≤ 8) (h : FX12_greater Q l0 l1 l2 M) (k : ∀ (r : Int32), Q r → xX own cc nL rt d q L (.int r :: st) M Rt) : xX own cc nL rt d pc L (.int l2 :: .int l1 :: .ref l0 :: st) M Rt :=
  x_callV_i (n := 2) (As := [.int l1, .int l2]) hd q hq hk_l0 (by decide) rfl rfl w1 kw7_132 ks7_1 kw1_14 kw7_133 (by decide +kernel) rfl hr (by decide) hst _ rfl (cX12_greater_ hk_l0 h) (fun r N hN => by obtain ⟨rfl, hN⟩ := hN; exact k r hN)
def FX12_lesser (Q : Int32 → Prop) (l0 : Nat) (l1 : Int32) (l2 : Int32) (M : Mem) : Prop :=
  ((l2 ≤ l1 → Q l2) ∧ (¬ l2 ≤ l1 → Q l1))
theorem eX12_lesser {Q : Int32 → Prop} {l0 : Nat} {l1 : Int32} {l2 : Int32} {M : Mem} (hk_l0 : SHk l0 = 12) (h : FX12_lesser Q l0 l1 l2 M) : xX RX12 cX12_lesser 3 (some .int) 1 0 [(0, .ref l0), (1, .int l1), (2, .int l2)] [] M (xQi (xP M Q)) := by
  unfold FX12_lesser at h
  refine x_iload_n dX12_lesser_0 rfl 1 rfl ?_
  refine x_iload_n dX12_lesser_1 rfl 2 rfl ?_
  refine x_icmp_ge dX12_lesser_2 9 5 rfl rfl (fun hc => ?_) (fun hc => ?_)
  · have h := h.1 hc
    refine x_iload_n dX12_lesser_9 rfl 10 rfl ?_
    exact x_iret dX12_lesser_10 ⟨rfl, h⟩
  · have h := h.2 hc
    refine x_iload_n dX12_lesser_5 rfl 6 rfl ?_
    refine x_goto dX12_lesser_6 10 rfl ?_
    exact x_iret dX12_lesser_10 ⟨rfl, h⟩
theorem cX12_lesser_ {Q : Int32 → Prop} {l0 : Nat} {l1 : Int32} {l2 : Int32} {M : Mem} (hk_l0 : SHk l0 = 12) (h : FX12_lesser Q l0 l1 l2 M) : xM yX12_lesser cX12_lesser 3 (some .int) 1 [.ref l0, .int l1, .int l2] M (xQi (xP M Q)) := xM_of (by decide +kernel) (Nat.le_of_ble_eq_true rfl) (eX12_lesser hk_l0 h)
theorem kX12_lesser {own : String} {cc : ByteArray} {nL : Nat} {rt : Option FieldType} {d pc ix : Nat} {L : List (Nat × Value)} {st : List Value} {M : Mem} {Rt : xGt → Array Value → State → Outcome → State → Prop} {Q : Int32 → Prop} {l0 : Nat} {l1 : Int32} {l2 : Int32} (hd : decode cc pc = .ok (.invokevirtual ix, 3)) (q : Nat) (hq : pc + 3 = q) (hk_l0 : SHk l0 = 12) (w1 : Cond.methodLink own ix yX12_lesser ∈ xTs) (hr : 1 < d) (hst : (st.map fun v => v.category).sum ≤ 8) (h : FX12_lesser Q l0 l1 l2 M) (k : ∀ (r : Int32), Q r → xX own cc nL rt d q L (.int r :: st) M Rt) : xX own cc nL rt d pc L (.int l2 :: .int l1 :: .ref l0 :: st) M Rt :=
  x_callV_i (n := 2) (As := [.int l1, .int l2]) hd q hq hk_l0 (by decide) rfl rfl w1 kw7_64 ks6_1 kw1_14 kw7_65 (by decide +kernel) rfl hr (by decide) hst _ rfl (cX12_lesser_ hk_l0 h) (fun r N hN => by obtain ⟨rfl, hN⟩ := hN; exact k r hN)
