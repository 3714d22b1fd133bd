def lbX0_leanAll_2 (Q : Mem → Prop) (l0 : Nat) (l1 : Nat) (B2 : Int32 → Mem → Prop) (l2 : Int32) (M : Mem) : Prop :=
  (((M l1 10) ≤ l2 → Q M) ∧ (¬ (M l1 10) ≤ l2 → FX9_sitterOn (fun (r1 : Int32) => FX9_isSaint (fun (r2 : Bool) => ((r2 = false → B2 (l2 + 1) M) ∧ (r2 = true → vp_in r1 14 ∧ FX2_tells (fun (r4 : Int32) (M3 : Mem) => ∀ y5 : Int32, y5 = (M (l1 + 6) (ix r1)) + r4 → FX11_held (fun (r6 : Int32) => vp_in r1 14 ∧ ∀ M7 : Mem, M7 = xu M3 (l1 + 6) (ix r1) r6 → B2 (l2 + 1) M7) y5 (-99) 99 M3) (l0 + 11) 2 l1 r1 M))) l1 r1 M) l1 l2 M))
def NX0_leanAll_2 (Q : Mem → Prop) (l0 : Nat) (l1 : Nat) (l2 : Int32) (M : Mem) : Prop := xlp (fun (B : Int32 × Mem → Prop) a => lbX0_leanAll_2 Q l0 l1 (fun l2 M => B (l2, M)) a.1 a.2) (l2, M)
theorem nX0_leanAll_2 {Q : Mem → Prop} {l0 : Nat} {l1 : Nat} {l2 : Int32} {M : Mem} (hk_l0 : SHk l0 = 0) (hk_l1 : SHk l1 = 9) (h : NX0_leanAll_2 Q l0 l1 l2 M) : xX RX0 cX0_leanAll 5 none 5 2 [(0, .ref l0), (1, .ref l1), (2, .int l2)] [] M (xQv Q) := by
  obtain ⟨n, h⟩ := h
  have hB2 : ∀ (n : Nat) (l2 : Int32) (M : Mem), xlpn (fun (B : Int32 × Mem → Prop) a => lbX0_leanAll_2 Q l0 l1 (fun l2 M => B (l2, M)) a.1 a.2) n (l2, M) → xX RX0 cX0_leanAll 5 none 5 2 [(0, .ref l0), (1, .ref l1), (2, .int l2)] [] M (xQv Q) := by
    intro n
    induction n with
    | zero => intro l2 M h; exact False.elim h
    | succ n ih =>
      intro l2 M h
      have hB2 := ih
      have h : lbX0_leanAll_2 Q l0 l1 (fun l2 M => xlpn (fun (B : Int32 × Mem → Prop) a => lbX0_leanAll_2 Q l0 l1 (fun l2 M => B (l2, M)) a.1 a.2) n (l2, M)) l2 M := h
      unfold lbX0_leanAll_2 at h
      refine x_iload_n dX0_leanAll_2 rfl 3 rfl ?_
      refine x_aload_n dX0_leanAll_3 rfl 4 rfl ?_
      refine gf9_10 dX0_leanAll_4 7 rfl hk_l1 kw1_71 ?_
      refine x_icmp_ge dX0_leanAll_7 64 10 rfl rfl (fun hc => ?_) (fun hc => ?_)
      · have h := h.1 hc
        exact x_vret dX0_leanAll_64 h
      · have h := h.2 hc
        refine x_aload_n dX0_leanAll_10 rfl 11 rfl ?_
        refine x_iload_n dX0_leanAll_11 rfl 12 rfl ?_
        refine kX9_sitterOn dX0_leanAll_12 15 rfl hk_l1 kw3_83 (Nat.le_of_ble_eq_true rfl) (Nat.le_of_ble_eq_true rfl) h (fun r1 h => ?_)
        refine x_istore_n dX0_leanAll_15 (Nat.le_of_ble_eq_true rfl) [(0, .ref l0), (1, .ref l1), (2, .int l2), (3, .int r1)] rfl 16 rfl ?_
        refine x_aload_n dX0_leanAll_16 rfl 17 rfl ?_
        refine x_iload_n dX0_leanAll_17 rfl 18 rfl ?_
        refine kX9_isSaint dX0_leanAll_18 21 rfl hk_l1 kw3_147 (Nat.le_of_ble_eq_true rfl) (Nat.le_of_ble_eq_true rfl) h (fun r2 h => ?_)
        refine x_if_eq_b dX0_leanAll_21 58 24 rfl rfl (fun hc => ?_) (fun hc => ?_)
        · have h := h.1 hc
          refine x_iinc dX0_leanAll_58 rfl (congrArg (l2 + ·) kc_1) (Nat.le_of_ble_eq_true rfl) [(0, .ref l0), (1, .ref l1), (2, .int (l2 + 1)), (3, .int r1)] rfl 61 rfl ?_
          refine x_goto dX0_leanAll_61 2 rfl ?_
          refine x_weak [(0, .ref l0), (1, .ref l1), (2, .int (l2 + 1))] [0, 1, 2] rfl ?_
          exact hB2 _ _ h
        · have h := h.2 hc
          refine x_aload_n dX0_leanAll_24 rfl 25 rfl ?_
          refine gf9_6 dX0_leanAll_25 28 rfl hk_l1 kw1_61 ?_
          refine x_iload_n dX0_leanAll_28 rfl 29 rfl ?_
          obtain ⟨hin, h⟩ := h
          refine x_iaload dX0_leanAll_29 (ly9_6 hk_l1) hin 30 rfl ?_
          refine x_aload_n dX0_leanAll_30 rfl 31 rfl ?_
          refine gf0_1 dX0_leanAll_31 34 rfl hk_l0 kw2_11 ?_
          refine x_iconst dX0_leanAll_34 kc_2 35 rfl ?_
          refine x_aload_n dX0_leanAll_35 rfl 36 rfl ?_
          refine x_iload_n dX0_leanAll_36 rfl 37 rfl ?_
          refine kX2_tells dX0_leanAll_37 40 rfl (ly0_1 hk_l0).1 hk_l1 kw3_87 (Nat.le_of_ble_eq_true rfl) (Nat.le_of_ble_eq_true rfl) h (fun r4 M3 h => ?_)
          refine x_iadd dX0_leanAll_40 41 rfl ?_
          refine x_top (fun y5 hy5 => ?_)
          have h := h y5 hy5
          refine x_istore dX0_leanAll_41 (Nat.le_of_ble_eq_true rfl) [(0, .ref l0), (1, .ref l1), (2, .int l2), (3, .int r1), (4, .int y5)] rfl 43 rfl ?_
          refine x_aload_n dX0_leanAll_43 rfl 44 rfl ?_
          refine gf9_6 dX0_leanAll_44 47 rfl hk_l1 kw1_61 ?_
          refine x_iload_n dX0_leanAll_47 rfl 48 rfl ?_
          refine x_iload dX0_leanAll_48 rfl 50 rfl ?_
          refine x_bipush dX0_leanAll_50 kb_m99 52 rfl ?_
          refine x_bipush dX0_leanAll_52 kb_99 54 rfl ?_
          refine kX11_heldn dX0_leanAll_54 57 rfl kn3_141 (Nat.le_of_ble_eq_true rfl) (Nat.le_of_ble_eq_true rfl) h (fun r6 h => ?_)
          obtain ⟨hin, h⟩ := h
          refine x_iastore dX0_leanAll_57 (ly9_6 hk_l1) hin 58 rfl (x_mem (fun M7 hM7 => ?_))
          have h := h M7 hM7
          refine x_iinc dX0_leanAll_58 rfl (congrArg (l2 + ·) kc_1) (Nat.le_of_ble_eq_true rfl) [(0, .ref l0), (1, .ref l1), (2, .int (l2 + 1)), (3, .int r1), (4, .int y5)] rfl 61 rfl ?_
          refine x_goto dX0_leanAll_61 2 rfl ?_
          refine x_weak [(0, .ref l0), (1, .ref l1), (2, .int (l2 + 1))] [0, 1, 2] rfl ?_
          exact hB2 _ _ h
  exact hB2 n l2 M h
def FX0_leanAll (Q : Mem → Prop) (l0 : Nat) (l1 : Nat) (M : Mem) : Prop :=
  NX0_leanAll_2 Q l0 l1 0 M
theorem eX0_leanAll {Q : Mem → Prop} {l0 : Nat} {l1 : Nat} {M : Mem} (hk_l0 : SHk l0 = 0) (hk_l1 : SHk l1 = 9) (h : FX0_leanAll Q l0 l1 M) : xX RX0 cX0_leanAll 5 none 5 0 [(0, .ref l0), (1, .ref l1)] [] M (xQv Q) := by
  unfold FX0_leanAll at h
  refine x_iconst dX0_leanAll_0 kc_0 1 rfl ?_
  refine x_istore_n dX0_leanAll_1 (Nat.le_of_ble_eq_true rfl) [(0, .ref l0), (1, .ref l1), (2, .int 0)] rfl 2 rfl ?_
  exact nX0_leanAll_2 hk_l0 hk_l1 h
theorem cX0_leanAll_ {Q : Mem → Prop} {l0 : Nat} {l1 : Nat} {M : Mem} (hk_l0 : SHk l0 = 0) (hk_l1 : SHk l1 = 9) (h : FX0_leanAll Q l0 l1 M) : xM yX0_leanAll cX0_leanAll 5 none 5 [.ref l0, .ref l1] M (xQv Q) := xM_of (by decide +kernel) (Nat.le_of_ble_eq_true rfl) (eX0_leanAll hk_l0 hk_l1 h)
theorem kX0_leanAll {own : String} {cc : ByteArray} {nL : Nat} {rt : Option FieldType} {d pc ix : Nat} {L : List (Nat × Value)} {st : List Value} {M : Mem} {Rt : xGt → Array Value → State → Outcome → State → Prop} {Q : Mem → Prop} {l0 : Nat} {l1 : Nat} (hd : decode cc pc = .ok (.invokevirtual ix, 3)) (q : Nat) (hq : pc + 3 = q) (hk_l0 : SHk l0 = 0) (hk_l1 : SHk l1 = 9) (w1 : Cond.methodLink own ix yX0_leanAll ∈ xTs) (hr : 5 < d) (hst : (st.map fun v => v.category).sum ≤ 8) (h : FX0_leanAll Q l0 l1 M) (k : ∀ (N : Mem), Q N → xX own cc nL rt d q L st N Rt) : xX own cc nL rt d pc L (.ref l1 :: .ref l0 :: st) M Rt :=
  x_callV_v (n := 1) (As := [.ref l1]) hd q hq hk_l0 (by decide) rfl rfl w1 kw3_145 ks1_8 kw1_2 kw3_146 (by decide +kernel) rfl hr (by decide) hst _ rfl (cX0_leanAll_ hk_l0 hk_l1 h) k
def lbX9_aheadOnGround_2 (Q : Int32 → Prop) (l0 : Nat) (l1 : Int32) (M : Mem) (B2 : Int32 → Prop) (l2 : Int32) : Prop :=
  (((M l0 9) ≤ l2 → Q (-1)) ∧ (¬ (M l0 9) ≤ l2 → vp_in l2 14 ∧ ((¬ (M (l0 + 8) (ix l2)) = l1 → B2 (l2 + 1)) ∧ ((M (l0 + 8) (ix l2)) = l1 → Q l2))))
def NX9_aheadOnGround_2 (Q : Int32 → Prop) (l0 : Nat) (l1 : Int32) (l2 : Int32) (M : Mem) : Prop := xlp (fun (B : Int32 → Prop) a => lbX9_aheadOnGround_2 Q l0 l1 M (fun l2 => B (l2)) a) (l2)
theorem nX9_aheadOnGround_2 {Q : Int32 → Prop} {l0 : Nat} {l1 : Int32} {l2 : Int32} {M : Mem} (hk_l0 : SHk l0 = 9) (h : NX9_aheadOnGround_2 Q l0 l1 l2 M) : xX RX9 cX9_aheadOnGround 3 (some .int) 1 2 [(0, .ref l0), (1, .int l1), (2, .int l2)] [] M (xQi (xP M Q)) := by
  obtain ⟨n, h⟩ := h
  have hB2 : ∀ (n : Nat) (l2 : Int32), xlpn (fun (B : Int32 → Prop) a => lbX9_aheadOnGround_2 Q l0 l1 M (fun l2 => B (l2)) a) n (l2) → xX RX9 cX9_aheadOnGround 3 (some .int) 1 2 [(0, .ref l0), (1, .int l1), (2, .int l2)] [] M (xQi (xP M Q)) := by
    intro n
    induction n with
    | zero => intro l2 h; exact False.elim h
    | succ n ih =>
      intro l2 h
      have hB2 := ih
      have h : lbX9_aheadOnGround_2 Q l0 l1 M (fun l2 => xlpn (fun (B : Int32 → Prop) a => lbX9_aheadOnGround_2 Q l0 l1 M (fun l2 => B (l2)) a) n (l2)) l2 := h
      unfold lbX9_aheadOnGround_2 at h
      refine x_iload_n dX9_aheadOnGround_2 rfl 3 rfl ?_
      refine x_aload_n dX9_aheadOnGround_3 rfl 4 rfl ?_
      refine gf9_9 dX9_aheadOnGround_4 7 rfl hk_l0 kw1_66 ?_
      refine x_icmp_ge dX9_aheadOnGround_7 28 10 rfl rfl (fun hc => ?_) (fun hc => ?_)
      · have h := h.1 hc
        refine x_iconst dX9_aheadOnGround_28 kc_m1 29 rfl ?_
        exact x_iret dX9_aheadOnGround_29 ⟨rfl, h⟩
      · have h := h.2 hc
        refine x_aload_n dX9_aheadOnGround_10 rfl 11 rfl ?_
        refine gf9_8 dX9_aheadOnGround_11 14 rfl hk_l0 kw1_65 ?_
        refine x_iload_n dX9_aheadOnGround_14 rfl 15 rfl ?_
        obtain ⟨hin, h⟩ := h
        refine x_iaload dX9_aheadOnGround_15 (ly9_8 hk_l0) hin 16 rfl ?_
        refine x_iload_n dX9_aheadOnGround_16 rfl 17 rfl ?_
        refine x_icmp_ne dX9_aheadOnGround_17 22 20 rfl rfl (fun hc => ?_) (fun hc => ?_)
        · have h := h.1 hc
          refine x_iinc dX9_aheadOnGround_22 rfl (congrArg (l2 + ·) kc_1) (Nat.le_of_ble_eq_true rfl) [(0, .ref l0), (1, .int l1), (2, .int (l2 + 1))] rfl 25 rfl ?_
          refine x_goto dX9_aheadOnGround_25 2 rfl ?_
          exact hB2 _ h
        · have h := h.2 hc
          refine x_iload_n dX9_aheadOnGround_20 rfl 21 rfl ?_
          exact x_iret dX9_aheadOnGround_21 ⟨rfl, h⟩
  exact hB2 n l2 h
def FX9_aheadOnGround (Q : Int32 → Prop) (l0 : Nat) (l1 : Int32) (M : Mem) : Prop :=
  NX9_aheadOnGround_2 Q l0 l1 0 M
theorem eX9_aheadOnGround {Q : Int32 → Prop} {l0 : Nat} {l1 : Int32} {M : Mem} (hk_l0 : SHk l0 = 9) (h : FX9_aheadOnGround Q l0 l1 M) : xX RX9 cX9_aheadOnGround 3 (some .int) 1 0 [(0, .ref l0), (1, .int l1)] [] M (xQi (xP M Q)) := by
  unfold FX9_aheadOnGround at h
  refine x_iconst dX9_aheadOnGround_0 kc_0 1 rfl ?_
  refine x_istore_n dX9_aheadOnGround_1 (Nat.le_of_ble_eq_true rfl) [(0, .ref l0), (1, .int l1), (2, .int 0)] rfl 2 rfl ?_
  exact nX9_aheadOnGround_2 hk_l0 h
theorem cX9_aheadOnGround_ {Q : Int32 → Prop} {l0 : Nat} {l1 : Int32} {M : Mem} (hk_l0 : SHk l0 = 9) (h : FX9_aheadOnGround Q l0 l1 M) : xM yX9_aheadOnGround cX9_aheadOnGround 3 (some .int) 1 [.ref l0, .int l1] M (xQi (xP M Q)) := xM_of (by decide +kernel) (Nat.le_of_ble_eq_true rfl) (eX9_aheadOnGround hk_l0 h)
theorem kX9_aheadOnGround {own : String} {cc : ByteArray} {nL : Nat} {rt : Option FieldType} {d pc ix : Nat} {L : List (Nat × Value)} {st : List Value} {M : Mem} {Rt : xGt → Array Value → State → Outcome → State → Prop} {Q : Int32 → Prop} {l0 : Nat} {l1 : Int32} (hd : decode cc pc = .ok (.invokevirtual ix, 3)) (q : Nat) (hq : pc + 3 = q) (hk_l0 : SHk l0 = 9) (w1 : Cond.methodLink own ix yX9_aheadOnGround ∈ xTs) (hr : 1 < d) (hst : (st.map fun v => v.category).sum ≤ 8) (h : FX9_aheadOnGround Q l0 l1 M) (k : ∀ (r : Int32), Q r → xX own cc nL rt d q L (.int r :: st) M Rt) : xX own cc nL rt d pc L (.int l1 :: .ref l0 :: st) M Rt :=
  x_callV_i (n := 1) (As := [.int l1]) hd q hq hk_l0 (by decide) rfl rfl w1 kw3_166 ks1_10 kw1_3 kw3_167 (by decide +kernel) rfl hr (by decide) hst _ rfl (cX9_aheadOnGround_ hk_l0 h) (fun r N hN => by obtain ⟨rfl, hN⟩ := hN; exact k r hN)
def lbX9_leaveGround_25 (Q : Mem → Prop) (l0 : Nat) (B25 : Int32 → Mem → Prop) (l2 : Int32) (M : Mem) : Prop :=
  (((M l0 9) ≤ l2 → Q M) ∧ (¬ (M l0 9) ≤ l2 → vp_in (l2 + 1) 14 ∧ vp_in l2 14 ∧ ∀ M1 : Mem, M1 = xu M (l0 + 8) (ix l2) (M (l0 + 8) (ix (l2 + 1))) → B25 (l2 + 1) M1))
def NX9_leaveGround_25 (Q : Mem → Prop) (l0 : Nat) (l2 : Int32) (M : Mem) : Prop := xlp (fun (B : Int32 × Mem → Prop) a => lbX9_leaveGround_25 Q l0 (fun l2 M => B (l2, M)) a.1 a.2) (l2, M)
theorem nX9_leaveGround_25 {Q : Mem → Prop} {l0 : Nat} {l2 : Int32} {M : Mem} (hk_l0 : SHk l0 = 9) (h : NX9_leaveGround_25 Q l0 l2 M) : xX RX9 cX9_leaveGround 3 none 1 25 [(0, .ref l0), (2, .int l2)] [] M (xQv Q) := by
  obtain ⟨n, h⟩ := h
  have hB25 : ∀ (n : Nat) (l2 : Int32) (M : Mem), xlpn (fun (B : Int32 × Mem → Prop) a => lbX9_leaveGround_25 Q l0 (fun l2 M => B (l2, M)) a.1 a.2) n (l2, M) → xX RX9 cX9_leaveGround 3 none 1 25 [(0, .ref l0), (2, .int l2)] [] M (xQv Q) := by
    intro n
    induction n with
    | zero => intro l2 M h; exact False.elim h
    | succ n ih =>
      intro l2 M h
      have hB25 := ih
      have h : lbX9_leaveGround_25 Q l0 (fun l2 M => xlpn (fun (B : Int32 × Mem → Prop) a => lbX9_leaveGround_25 Q l0 (fun l2 M => B (l2, M)) a.1 a.2) n (l2, M)) l2 M := h
      unfold lbX9_leaveGround_25 at h
      refine x_iload_n dX9_leaveGround_25 rfl 26 rfl ?_
      refine x_aload_n dX9_leaveGround_26 rfl 27 rfl ?_
      refine gf9_9 dX9_leaveGround_27 30 rfl hk_l0 kw1_66 ?_
      refine x_icmp_ge dX9_leaveGround_30 53 33 rfl rfl (fun hc => ?_) (fun hc => ?_)
      · have h := h.1 hc
        exact x_vret dX9_leaveGround_53 h
      · have h := h.2 hc
        refine x_aload_n dX9_leaveGround_33 rfl 34 rfl ?_
        refine gf9_8 dX9_leaveGround_34 37 rfl hk_l0 kw1_65 ?_
        refine x_iload_n dX9_leaveGround_37 rfl 38 rfl ?_
        refine x_aload_n dX9_leaveGround_38 rfl 39 rfl ?_
        refine gf9_8 dX9_leaveGround_39 42 rfl hk_l0 kw1_65 ?_
        refine x_iload_n dX9_leaveGround_42 rfl 43 rfl ?_
        refine x_iconst dX9_leaveGround_43 kc_1 44 rfl ?_
        refine x_iadd dX9_leaveGround_44 45 rfl ?_
        obtain ⟨hin, h⟩ := h
        refine x_iaload dX9_leaveGround_45 (ly9_8 hk_l0) hin 46 rfl ?_
        obtain ⟨hin, h⟩ := h
        refine x_iastore dX9_leaveGround_46 (ly9_8 hk_l0) hin 47 rfl (x_mem (fun M1 hM1 => ?_))
        have h := h M1 hM1
        refine x_iinc dX9_leaveGround_47 rfl (congrArg (l2 + ·) kc_1) (Nat.le_of_ble_eq_true rfl) [(0, .ref l0), (2, .int (l2 + 1))] rfl 50 rfl ?_
        refine x_goto dX9_leaveGround_50 25 rfl ?_
        exact hB25 _ _ h
  exact hB25 n l2 M h
def FX9_leaveGround (Q : Mem → Prop) (l0 : Nat) (l1 : Int32) (M : Mem) : Prop :=
  ((l1 < 0 → Q M) ∧ (¬ l1 < 0 → ((l1 < (M l0 9) → ∀ M2 : Mem, M2 = xu M l0 9 ((M l0 9) - 1) → NX9_leaveGround_25 Q l0 l1 M2) ∧ (¬ l1 < (M l0 9) → Q M))))
theorem eX9_leaveGround {Q : Mem → Prop} {l0 : Nat} {l1 : Int32} {M : Mem} (hk_l0 : SHk l0 = 9) (h : FX9_leaveGround Q l0 l1 M) : xX RX9 cX9_leaveGround 3 none 1 0 [(0, .ref l0), (1, .int l1)] [] M (xQv Q) := by
  unfold FX9_leaveGround at h
  refine x_iload_n dX9_leaveGround_0 rfl 1 rfl ?_
  refine x_if_lt dX9_leaveGround_1 12 4 rfl rfl (fun hc => ?_) (fun hc => ?_)
  · have h := h.1 hc
    exact x_vret dX9_leaveGround_12 h
  · have h := h.2 hc
    refine x_iload_n dX9_leaveGround_4 rfl 5 rfl ?_
    refine x_aload_n dX9_leaveGround_5 rfl 6 rfl ?_
    refine gf9_9 dX9_leaveGround_6 9 rfl hk_l0 kw1_66 ?_
    refine x_icmp_lt dX9_leaveGround_9 13 12 rfl rfl (fun hc => ?_) (fun hc => ?_)
    · have h := h.1 hc
      refine x_aload_n dX9_leaveGround_13 rfl 14 rfl ?_
      refine x_dup dX9_leaveGround_14 rfl 15 rfl ?_
      refine gf9_9 dX9_leaveGround_15 18 rfl hk_l0 kw1_66 ?_
      refine x_iconst dX9_leaveGround_18 kc_1 19 rfl ?_
      refine x_isub dX9_leaveGround_19 20 rfl ?_
      refine pf9_9 dX9_leaveGround_20 23 rfl hk_l0 kw1_66 (x_mem (fun M2 hM2 => ?_))
      have h := h M2 hM2
      refine x_iload_n dX9_leaveGround_23 rfl 24 rfl ?_
      refine x_istore_n dX9_leaveGround_24 (Nat.le_of_ble_eq_true rfl) [(0, .ref l0), (1, .int l1), (2, .int l1)] rfl 25 rfl ?_
      refine x_weak [(0, .ref l0), (2, .int l1)] [0, 2] rfl ?_
      exact nX9_leaveGround_25 hk_l0 h
    · have h := h.2 hc
      exact x_vret dX9_leaveGround_12 h
theorem cX9_leaveGround_ {Q : Mem → Prop} {l0 : Nat} {l1 : Int32} {M : Mem} (hk_l0 : SHk l0 = 9) (h : FX9_leaveGround Q l0 l1 M) : xM yX9_leaveGround cX9_leaveGround 3 none 1 [.ref l0, .int l1] M (xQv Q) := xM_of (by decide +kernel) (Nat.le_of_ble_eq_true rfl) (eX9_leaveGround hk_l0 h)
theorem kX9_leaveGround {own : String} {cc : ByteArray} {nL : Nat} {rt : Option FieldType} {d pc ix : Nat} {L : List (Nat × Value)} {st : List Value} {M : Mem} {Rt : xGt → Array Value → State → Outcome → State → Prop} {Q : Mem → Prop} {l0 : Nat} {l1 : Int32} (hd : decode cc pc = .ok (.invokevirtual ix, 3)) (q : Nat) (hq : pc + 3 = q) (hk_l0 : SHk l0 = 9) (w1 : Cond.methodLink own ix yX9_leaveGround ∈ xTs) (hr : 1 < d) (hst : (st.map fun v => v.category).sum ≤ 8) (h : FX9_leaveGround Q l0 l1 M) (k : ∀ (N : Mem), Q N → xX own cc nL rt d q L st N Rt) : xX own cc nL rt d pc L (.int l1 :: .ref l0 :: st) M Rt :=
  x_callV_v (n := 1) (As := [.int l1]) hd q hq hk_l0 (by decide) rfl rfl w1 kw2_203 ks1_1 kw1_3 kw2_204 (by decide +kernel) rfl hr (by decide) hst _ rfl (cX9_leaveGround_ hk_l0 h) k
def NX9_bury_27 (Q : Mem → Prop) (l0 : Nat) (l1 : Int32) (M : Mem) : Prop :=
  FX9_aheadOnGround (fun (r1 : Int32) => FX9_leaveGround (fun (M2 : Mem) => ∀ M3 : Mem, M3 = xu M2 l0 12 ((M2 l0 12) ||| ((1 : Int32) <<< (l1 &&& 31))) → Q M3) l0 r1 M) l0 l1 M
theorem nX9_bury_27 {Q : Mem → Prop} {l0 : Nat} {l1 : Int32} {M : Mem} (hk_l0 : SHk l0 = 9) (h : NX9_bury_27 Q l0 l1 M) : xX RX9 cX9_bury 3 none 2 27 [(0, .ref l0), (1, .int l1)] [] M (xQv Q) := by
  unfold NX9_bury_27 at h
  refine x_aload_n dX9_bury_27 rfl 28 rfl ?_
  refine x_aload_n dX9_bury_28 rfl 29 rfl ?_
  refine x_iload_n dX9_bury_29 rfl 30 rfl ?_
  refine kX9_aheadOnGround dX9_bury_30 33 rfl hk_l0 kw3_164 (Nat.le_of_ble_eq_true rfl) (Nat.le_of_ble_eq_true rfl) h (fun r1 h => ?_)
  refine kX9_leaveGround dX9_bury_33 36 rfl hk_l0 kw2_201 (Nat.le_of_ble_eq_true rfl) (Nat.le_of_ble_eq_true rfl) h (fun M2 h => ?_)
  refine x_aload_n dX9_bury_36 rfl 37 rfl ?_
  refine x_dup dX9_bury_37 rfl 38 rfl ?_
  refine gf9_12 dX9_bury_38 41 rfl hk_l0 kw1_76 ?_
  refine x_iconst dX9_bury_41 kc_1 42 rfl ?_
  refine x_iload_n dX9_bury_42 rfl 43 rfl ?_
  refine x_ishl dX9_bury_43 44 rfl ?_
  refine x_ior dX9_bury_44 45 rfl ?_
  refine pf9_12 dX9_bury_45 48 rfl hk_l0 kw1_76 (x_mem (fun M3 hM3 => ?_))
  have h := h M3 hM3
  exact x_vret dX9_bury_48 h
def FX9_bury (Q : Mem → Prop) (l0 : Nat) (l1 : Int32) (M : Mem) : Prop :=
  FX9_isSaint (fun (r4 : Bool) => ((r4 = true → FX9_pillarOf (fun (r5 : Int32) => ((r5 = (-1) → NX9_bury_27 Q l0 l1 M) ∧ (¬ r5 = (-1) → vp_in r5 10 ∧ ∀ M6 : Mem, M6 = xu M (l0 + 2) (ix r5) (-1) → NX9_bury_27 Q l0 l1 M6))) l0 l1 M) ∧ (r4 = false → Q M))) l0 l1 M
theorem eX9_bury {Q : Mem → Prop} {l0 : Nat} {l1 : Int32} {M : Mem} (hk_l0 : SHk l0 = 9) (h : FX9_bury Q l0 l1 M) : xX RX9 cX9_bury 3 none 2 0 [(0, .ref l0), (1, .int l1)] [] M (xQv Q) := by
  unfold FX9_bury at h
  refine x_aload_n dX9_bury_0 rfl 1 rfl ?_
  refine x_iload_n dX9_bury_1 rfl 2 rfl ?_
  refine kX9_isSaint dX9_bury_2 5 rfl hk_l0 kw2_233 (Nat.le_of_ble_eq_true rfl) (Nat.le_of_ble_eq_true rfl) h (fun r4 h => ?_)
  refine x_if_ne_b dX9_bury_5 9 8 rfl rfl (fun hc => ?_) (fun hc => ?_)
  · have h := h.1 hc
    refine x_aload_n dX9_bury_9 rfl 10 rfl ?_
    refine x_iload_n dX9_bury_10 rfl 11 rfl ?_
    refine kX9_pillarOf dX9_bury_11 14 rfl hk_l0 kw3_9 (Nat.le_of_ble_eq_true rfl) (Nat.le_of_ble_eq_true rfl) h (fun r5 h => ?_)
    refine x_istore_n dX9_bury_14 (Nat.le_of_ble_eq_true rfl) [(0, .ref l0), (1, .int l1), (2, .int r5)] rfl 15 rfl ?_
    refine x_iload_n dX9_bury_15 rfl 16 rfl ?_
    refine x_iconst dX9_bury_16 kc_m1 17 rfl ?_
    refine x_icmp_eq dX9_bury_17 27 20 rfl rfl (fun hc => ?_) (fun hc => ?_)
    · have h := h.1 hc
      refine x_weak [(0, .ref l0), (1, .int l1)] [0, 1] rfl ?_
      exact nX9_bury_27 hk_l0 h
    · have h := h.2 hc
      refine x_aload_n dX9_bury_20 rfl 21 rfl ?_
      refine gf9_2 dX9_bury_21 24 rfl hk_l0 kw1_50 ?_
      refine x_iload_n dX9_bury_24 rfl 25 rfl ?_
      refine x_iconst dX9_bury_25 kc_m1 26 rfl ?_
      obtain ⟨hin, h⟩ := h
      refine x_iastore dX9_bury_26 (ly9_2 hk_l0) hin 27 rfl (x_mem (fun M6 hM6 => ?_))
      have h := h M6 hM6
      refine x_weak [(0, .ref l0), (1, .int l1)] [0, 1] rfl ?_
      exact nX9_bury_27 hk_l0 h
  · have h := h.2 hc
    exact x_vret dX9_bury_8 h
theorem cX9_bury_ {Q : Mem → Prop} {l0 : Nat} {l1 : Int32} {M : Mem} (hk_l0 : SHk l0 = 9) (h : FX9_bury Q l0 l1 M) : xM yX9_bury cX9_bury 3 none 2 [.ref l0, .int l1] M (xQv Q) := xM_of (by decide +kernel) (Nat.le_of_ble_eq_true rfl) (eX9_bury hk_l0 h)
theorem kX9_bury {own : String} {cc : ByteArray} {nL : Nat} {rt : Option FieldType} {d pc ix : Nat} {L : List (Nat × Value)} {st : List Value} {M : Mem} {Rt : xGt → Array Value → State → Outcome → State → Prop} {Q : Mem → Prop} {l0 : Nat} {l1 : Int32} (hd : decode cc pc = .ok (.invokevirtual ix, 3)) (q : Nat) (hq : pc + 3 = q) (hk_l0 : SHk l0 = 9) (w1 : Cond.methodLink own ix yX9_bury ∈ xTs) (hr : 2 < d) (hst : (st.map fun v => v.category).sum ≤ 8) (h : FX9_bury Q l0 l1 M) (k : ∀ (N : Mem), Q N → xX own cc nL rt d q L st N Rt) : xX own cc nL rt d pc L (.int l1 :: .ref l0 :: st) M Rt :=
  x_callV_v (n := 1) (As := [.int l1]) hd q hq hk_l0 (by decide) rfl rfl w1 kw3_161 kw3_162 kw1_3 kw3_163 (by decide +kernel) rfl hr (by decide) hst _ rfl (cX9_bury_ hk_l0 h) k
def FX9_draw (Q : Int32 → Mem → Prop) (l0 : Nat) (l1 : Int32) (M : Mem) : Prop :=
  ∀ M1 : Mem, M1 = xu M l0 17 ((1664525 * (M l0 17)) + 1013904223) → ((0 < l1 → (¬ (l1 : Int32) = 0) ∧ Q (((((M1 l0 17) : Int32).toUInt32 >>> ((8 : Int32).toUInt32 &&& Int32.toUInt32 31)).toInt32) - ((((M1 l0 17) : Int32).toUInt32 >>> ((8 : Int32).toUInt32 &&& Int32.toUInt32 31)).toInt32) / l1 * l1) M1) ∧ (¬ 0 < l1 → Q 0 M1))
theorem eX9_draw {Q : Int32 → Mem → Prop} {l0 : Nat} {l1 : Int32} {M : Mem} (hk_l0 : SHk l0 = 9) (h : FX9_draw Q l0 l1 M) : xX RX9 cX9_draw 2 (some .int) 1 0 [(0, .ref l0), (1, .int l1)] [] M (xQi Q) := by
  unfold FX9_draw at h
  refine x_aload_n dX9_draw_0 rfl 1 rfl ?_
  refine x_ldc dX9_draw_1 kw3_158 3 rfl ?_
  refine x_aload_n dX9_draw_3 rfl 4 rfl ?_
  refine gf9_17 dX9_draw_4 7 rfl hk_l0 kw1_94 ?_
  refine x_imul dX9_draw_7 8 rfl ?_
  refine x_ldc dX9_draw_8 kw3_159 10 rfl ?_
  refine x_iadd dX9_draw_10 11 rfl ?_
  refine pf9_17 dX9_draw_11 14 rfl hk_l0 kw1_94 (x_mem (fun M1 hM1 => ?_))
  have h := h M1 hM1
  refine x_iload_n dX9_draw_14 rfl 15 rfl ?_
  refine x_if_gt dX9_draw_15 22 18 rfl rfl (fun hc => ?_) (fun hc => ?_)
  · have h := h.1 hc
    refine x_aload_n dX9_draw_22 rfl 23 rfl ?_
    refine gf9_17 dX9_draw_23 26 rfl hk_l0 kw1_94 ?_
    refine x_bipush dX9_draw_26 kb_8 28 rfl ?_
    refine x_iushr dX9_draw_28 29 rfl ?_
    refine x_iload_n dX9_draw_29 rfl 30 rfl ?_
    obtain ⟨hne, h⟩ := h
    refine x_irem dX9_draw_30 hne 31 rfl ?_
    exact x_iret dX9_draw_31 h
  · have h := h.2 hc
    refine x_iconst dX9_draw_18 kc_0 19 rfl ?_
    refine x_goto dX9_draw_19 31 rfl ?_
    exact x_iret dX9_draw_31 h
theorem cX9_draw_ {Q : Int32 → Mem → Prop} {l0 : Nat} {l1 : Int32} {M : Mem} (hk_l0 : SHk l0 = 9) (h : FX9_draw Q l0 l1 M) : xM yX9_draw cX9_draw 2 (some .int) 1 [.ref l0, .int l1] M (xQi Q) := xM_of (by decide +kernel) (Nat.le_of_ble_eq_true rfl) (eX9_draw hk_l0 h)
theorem kX9_draw {own : String} {cc : ByteArray} {nL : Nat} {rt : Option FieldType} {d pc ix : Nat} {L : List (Nat × Value)} {st : List Value} {M : Mem} {Rt : xGt → Array Value → State → Outcome → State → Prop} {Q : Int32 → Mem → Prop} {l0 : Nat} {l1 : Int32} (hd : decode cc pc = .ok (.invokevirtual ix, 3)) (q : Nat) (hq : pc + 3 = q) (hk_l0 : SHk l0 = 9) (w1 : Cond.methodLink own ix yX9_draw ∈ xTs) (hr : 1 < d) (hst : (st.map fun v => v.category).sum ≤ 8) (h : FX9_draw Q l0 l1 M) (k : ∀ (r : Int32) (N : Mem), Q r N → xX own cc nL rt d q L (.int r :: st) N Rt) : xX own cc nL rt d pc L (.int l1 :: .ref l0 :: st) M Rt :=
  x_callV_i (n := 1) (As := [.int l1]) hd q hq hk_l0 (by decide) rfl rfl w1 kw3_155 kw3_156 kw1_3 kw3_157 (by decide +kernel) rfl hr (by decide) hst _ rfl (cX9_draw_ hk_l0 h) k
def FX9_isDead (Q : Bool → Prop) (l0 : Nat) (l1 : Int32) (M : Mem) : Prop :=
  (((((M l0 12) >>> (l1 &&& 31)) &&& 1) = 0 → Q false) ∧ (¬ (((M l0 12) >>> (l1 &&& 31)) &&& 1) = 0 → Q true))
theorem eX9_isDead {Q : Bool → Prop} {l0 : Nat} {l1 : Int32} {M : Mem} (hk_l0 : SHk l0 = 9) (h : FX9_isDead Q l0 l1 M) : xX RX9 cX9_isDead 2 (some .boolean) 1 0 [(0, .ref l0), (1, .int l1)] [] M (xQb (xP M Q)) := by
  unfold FX9_isDead at h
  refine x_aload_n dX9_isDead_0 rfl 1 rfl ?_
  refine gf9_12 dX9_isDead_1 4 rfl hk_l0 kw1_76 ?_
  refine x_iload_n dX9_isDead_4 rfl 5 rfl ?_
  refine x_ishr dX9_isDead_5 6 rfl ?_
  refine x_iconst dX9_isDead_6 kc_1 7 rfl ?_
  refine x_iand dX9_isDead_7 8 rfl ?_
  refine x_if_eq dX9_isDead_8 15 11 rfl rfl (fun hc => ?_) (fun hc => ?_)
  · have h := h.1 hc
    refine x_iconst dX9_isDead_15 kc_0 16 rfl ?_
    exact x_zret (z := false) dX9_isDead_16 ⟨rfl, h⟩
  · have h := h.2 hc
    refine x_iconst dX9_isDead_11 kc_1 12 rfl ?_
    refine x_goto dX9_isDead_12 16 rfl ?_
    exact x_zret (z := true) dX9_isDead_16 ⟨rfl, h⟩
theorem cX9_isDead_ {Q : Bool → Prop} {l0 : Nat} {l1 : Int32} {M : Mem} (hk_l0 : SHk l0 = 9) (h : FX9_isDead Q l0 l1 M) : xM yX9_isDead cX9_isDead 2 (some .boolean) 1 [.ref l0, .int l1] M (xQb (xP M Q)) := xM_of (by decide +kernel) (Nat.le_of_ble_eq_true rfl) (eX9_isDead hk_l0 h)
theorem kX9_isDead {own : String} {cc : ByteArray} {nL : Nat} {rt : Option FieldType} {d pc ix : Nat} {L : List (Nat × Value)} {st : List Value} {M : Mem} {Rt : xGt → Array Value → State → Outcome → State → Prop} {Q : Bool → Prop} {l0 : Nat} {l1 : Int32} (hd : decode cc pc = .ok (.invokevirtual ix, 3)) (q : Nat) (hq : pc + 3 = q) (hk_l0 : SHk l0 = 9) (w1 : Cond.methodLink own ix yX9_isDead ∈ xTs) (hr : 1 < d) (hst : (st.map fun v => v.category).sum ≤ 8) (h : FX9_isDead Q l0 l1 M) (k : ∀ (r : Bool), Q r → xX own cc nL rt d q L (.int (bI r) :: st) M Rt) : xX own cc nL rt d pc L (.int l1 :: .ref l0 :: st) M Rt :=
  x_callV_b (n := 1) (As := [.int l1]) hd q hq hk_l0 (by decide) rfl rfl w1 kw3_72 kw3_73 kw1_3 kw3_74 (by decide +kernel) rfl hr (by decide) hst _ rfl (cX9_isDead_ hk_l0 h) (fun r N hN => by obtain ⟨rfl, hN⟩ := hN; exact k r hN)
def FX9_note (Q : Mem → Prop) (l0 : Nat) (l1 : Int32) (l2 : Int32) (l3 : Int32) (M : Mem) : Prop :=
  (((M l0 18) < 0 → Q M) ∧ (¬ (M l0 18) < 0 → (((((M l0 18) * 4) + 3) < (Int32.ofNat (SHn (l0 + 9))) → vp_in ((M l0 18) * 4) (SHn (l0 + 9)) ∧ ∀ M1 : Mem, M1 = xu M (l0 + 9) (ix ((M l0 18) * 4)) (M l0 15) → vp_in (((M l0 18) * 4) + 1) (SHn (l0 + 9)) ∧ ∀ M2 : Mem, M2 = xu M1 (l0 + 9) (ix (((M l0 18) * 4) + 1)) l1 → vp_in (((M l0 18) * 4) + 2) (SHn (l0 + 9)) ∧ ∀ M3 : Mem, M3 = xu M2 (l0 + 9) (ix (((M l0 18) * 4) + 2)) l2 → vp_in (((M l0 18) * 4) + 3) (SHn (l0 + 9)) ∧ ∀ M4 : Mem, M4 = xu M3 (l0 + 9) (ix (((M l0 18) * 4) + 3)) l3 → ∀ M5 : Mem, M5 = xu M4 l0 18 ((M4 l0 18) + 1) → Q M5) ∧ (¬ (((M l0 18) * 4) + 3) < (Int32.ofNat (SHn (l0 + 9))) → Q M))))
theorem eX9_note {Q : Mem → Prop} {l0 : Nat} {l1 : Int32} {l2 : Int32} {l3 : Int32} {M : Mem} (hk_l0 : SHk l0 = 9) (h : FX9_note Q l0 l1 l2 l3 M) : xX RX9 cX9_note 5 none 1 0 [(0, .ref l0), (1, .int l1), (2, .int l2), (3, .int l3)] [] M (xQv Q) := by
  unfold FX9_note at h
  refine x_aload_n dX9_note_0 rfl 1 rfl ?_
  refine gf9_18 dX9_note_1 4 rfl hk_l0 kw1_95 ?_
  refine x_iconst dX9_note_4 kc_4 5 rfl ?_
  refine x_imul dX9_note_5 6 rfl ?_
  refine x_istore dX9_note_6 (Nat.le_of_ble_eq_true rfl) [(0, .ref l0), (1, .int l1), (2, .int l2), (3, .int l3), (4, .int ((M l0 18) * 4))] rfl 8 rfl ?_
  refine x_aload_n dX9_note_8 rfl 9 rfl ?_
  refine gf9_18 dX9_note_9 12 rfl hk_l0 kw1_95 ?_
  refine x_if_lt dX9_note_12 27 15 rfl rfl (fun hc => ?_) (fun hc => ?_)
  · have h := h.1 hc
    exact x_vret dX9_note_27 h
  · have h := h.2 hc
    refine x_iload dX9_note_15 rfl 17 rfl ?_
    refine x_iconst dX9_note_17 kc_3 18 rfl ?_
    refine x_iadd dX9_note_18 19 rfl ?_
    refine x_aload_n dX9_note_19 rfl 20 rfl ?_
    refine gf9_0 dX9_note_20 23 rfl hk_l0 kw1_45 ?_
    refine x_alen (n := Int32.ofNat (SHn (l0 + 9))) dX9_note_23 ⟨ly9_0 hk_l0, rfl⟩ rfl 24 rfl ?_
    refine x_icmp_lt dX9_note_24 28 27 rfl rfl (fun hc => ?_) (fun hc => ?_)
    · have h := h.1 hc
      refine x_aload_n dX9_note_28 rfl 29 rfl ?_
      refine gf9_0 dX9_note_29 32 rfl hk_l0 kw1_45 ?_
      refine x_iload dX9_note_32 rfl 34 rfl ?_
      refine x_aload_n dX9_note_34 rfl 35 rfl ?_
      refine gf9_15 dX9_note_35 38 rfl hk_l0 kw1_85 ?_
      obtain ⟨hin, h⟩ := h
      refine x_iastore dX9_note_38 ⟨ly9_0 hk_l0, rfl⟩ hin 39 rfl (x_mem (fun M1 hM1 => ?_))
      have h := h M1 hM1
      refine x_aload_n dX9_note_39 rfl 40 rfl ?_
      refine gf9_0 dX9_note_40 43 rfl hk_l0 kw1_45 ?_
      refine x_iload dX9_note_43 rfl 45 rfl ?_
      refine x_iconst dX9_note_45 kc_1 46 rfl ?_
      refine x_iadd dX9_note_46 47 rfl ?_
      refine x_iload_n dX9_note_47 rfl 48 rfl ?_
      obtain ⟨hin, h⟩ := h
      refine x_iastore dX9_note_48 ⟨ly9_0 hk_l0, rfl⟩ hin 49 rfl (x_mem (fun M2 hM2 => ?_))
      have h := h M2 hM2
      refine x_aload_n dX9_note_49 rfl 50 rfl ?_
      refine gf9_0 dX9_note_50 53 rfl hk_l0 kw1_45 ?_
      refine x_iload dX9_note_53 rfl 55 rfl ?_
      refine x_iconst dX9_note_55 kc_2 56 rfl ?_
      refine x_iadd dX9_note_56 57 rfl ?_
      refine x_iload_n dX9_note_57 rfl 58 rfl ?_
      obtain ⟨hin, h⟩ := h
      refine x_iastore dX9_note_58 ⟨ly9_0 hk_l0, rfl⟩ hin 59 rfl (x_mem (fun M3 hM3 => ?_))
      have h := h M3 hM3
      refine x_aload_n dX9_note_59 rfl 60 rfl ?_
      refine gf9_0 dX9_note_60 63 rfl hk_l0 kw1_45 ?_
      refine x_iload dX9_note_63 rfl 65 rfl ?_
      refine x_iconst dX9_note_65 kc_3 66 rfl ?_
      refine x_iadd dX9_note_66 67 rfl ?_
      refine x_iload_n dX9_note_67 rfl 68 rfl ?_
      obtain ⟨hin, h⟩ := h
      refine x_iastore dX9_note_68 ⟨ly9_0 hk_l0, rfl⟩ hin 69 rfl (x_mem (fun M4 hM4 => ?_))
      have h := h M4 hM4
      refine x_aload_n dX9_note_69 rfl 70 rfl ?_
      refine x_dup dX9_note_70 rfl 71 rfl ?_
      refine gf9_18 dX9_note_71 74 rfl hk_l0 kw1_95 ?_
      refine x_iconst dX9_note_74 kc_1 75 rfl ?_
      refine x_iadd dX9_note_75 76 rfl ?_
      refine pf9_18 dX9_note_76 79 rfl hk_l0 kw1_95 (x_mem (fun M5 hM5 => ?_))
      have h := h M5 hM5
      exact x_vret dX9_note_79 h
    · have h := h.2 hc
      exact x_vret dX9_note_27 h
theorem cX9_note_ {Q : Mem → Prop} {l0 : Nat} {l1 : Int32} {l2 : Int32} {l3 : Int32} {M : Mem} (hk_l0 : SHk l0 = 9) (h : FX9_note Q l0 l1 l2 l3 M) : xM yX9_note cX9_note 5 none 1 [.ref l0, .int l1, .int l2, .int l3] M (xQv Q) := xM_of (by decide +kernel) (Nat.le_of_ble_eq_true rfl) (eX9_note hk_l0 h)
theorem kX9_note {own : String} {cc : ByteArray} {nL : Nat} {rt : Option FieldType} {d pc ix : Nat} {L : List (Nat × Value)} {st : List Value} {M : Mem} {Rt : xGt → Array Value → State → Outcome → State → Prop} {Q : Mem → Prop} {l0 : Nat} {l1 : Int32} {l2 : Int32} {l3 : Int32} (hd : decode cc pc = .ok (.invokevirtual ix, 3)) (q : Nat) (hq : pc + 3 = q) (hk_l0 : SHk l0 = 9) (w1 : Cond.methodLink own ix yX9_note ∈ xTs) (hr : 1 < d) (hst : (st.map fun v => v.category).sum ≤ 8) (h : FX9_note Q l0 l1 l2 l3 M) (k : ∀ (N : Mem), Q N → xX own cc nL rt d q L st N Rt) : xX own cc nL rt d pc L (.int l3 :: .int l2 :: .int l1 :: .ref l0 :: st) M Rt :=
  x_callV_v (n := 3) (As := [.int l1, .int l2, .int l3]) hd q hq hk_l0 (by decide) rfl rfl w1 kw2_206 kw2_207 kw1_3 kw2_208 (by decide +kernel) rfl hr (by decide) hst _ rfl (cX9_note_ hk_l0 h) k
def NX0_letDie_102 (Q : Int32 → Mem → Prop) (B5 : Int32 → Int32 → Mem → Prop) (l0 : Nat) (l1 : Nat) (l2 : Int32) (l3 : Int32) (l4 : Int32) (s0 : Int32) (M : Mem) : Prop :=
  ((s0 = 0 → B5 l3 (l4 + 1) M) ∧ (¬ s0 = 0 → vp_in l4 14 ∧ FX9_note (fun (M1 : Mem) => FX9_bury (fun (M2 : Mem) => B5 (l3 + 1) (l4 + 1) M2) l1 l4 M1) l1 1 l4 (M (l1 + 4) (ix l4)) M))
theorem nX0_letDie_102 {Q : Int32 → Mem → Prop} {B5 : Int32 → Int32 → Mem → Prop} {l0 : Nat} {l1 : Nat} {l2 : Int32} {l3 : Int32} {l4 : Int32} {s0 : Int32} {M : Mem} (hB5 : ∀ (l3 : Int32) (l4 : Int32) (M : Mem), B5 l3 l4 M → xX RX0 cX0_letDie 7 (some .int) 5 5 [(0, .ref l0), (1, .ref l1), (2, .int l2), (3, .int l3), (4, .int l4)] [] M (xQi Q)) (hk_l0 : SHk l0 = 0) (hk_l1 : SHk l1 = 9) (h : NX0_letDie_102 Q B5 l0 l1 l2 l3 l4 s0 M) : xX RX0 cX0_letDie 7 (some .int) 5 102 [(0, .ref l0), (1, .ref l1), (2, .int l2), (3, .int l3), (4, .int l4)] [.int s0] M (xQi Q) := by
  unfold NX0_letDie_102 at h
  refine x_istore dX0_letDie_102 (Nat.le_of_ble_eq_true rfl) [(0, .ref l0), (1, .ref l1), (2, .int l2), (3, .int l3), (4, .int l4), (6, .int s0)] rfl 104 rfl ?_
  refine x_iload dX0_letDie_104 rfl 106 rfl ?_
  refine x_if_eq dX0_letDie_106 132 109 rfl rfl (fun hc => ?_) (fun hc => ?_)
  · have h := h.1 hc
    refine x_iinc dX0_letDie_132 rfl (congrArg (l4 + ·) kc_1) (Nat.le_of_ble_eq_true rfl) [(0, .ref l0), (1, .ref l1), (2, .int l2), (3, .int l3), (4, .int (l4 + 1)), (6, .int s0)] rfl 135 rfl ?_
    refine x_goto dX0_letDie_135 5 rfl ?_
    refine x_weak [(0, .ref l0), (1, .ref l1), (2, .int l2), (3, .int l3), (4, .int (l4 + 1))] [0, 1, 2, 3, 4] rfl ?_
    exact hB5 _ _ _ h
  · have h := h.2 hc
    refine x_aload_n dX0_letDie_109 rfl 110 rfl ?_
    refine x_iconst dX0_letDie_110 kc_1 111 rfl ?_
    refine x_iload dX0_letDie_111 rfl 113 rfl ?_
    refine x_aload_n dX0_letDie_113 rfl 114 rfl ?_
    refine gf9_4 dX0_letDie_114 117 rfl hk_l1 kw1_56 ?_
    refine x_iload dX0_letDie_117 rfl 119 rfl ?_
    obtain ⟨hin, h⟩ := h
    refine x_iaload dX0_letDie_119 (ly9_4 hk_l1) hin 120 rfl ?_
    refine kX9_note dX0_letDie_120 123 rfl hk_l1 kw3_142 (Nat.le_of_ble_eq_true rfl) (Nat.le_of_ble_eq_true rfl) h (fun M1 h => ?_)
    refine x_aload_n dX0_letDie_123 rfl 124 rfl ?_
    refine x_iload dX0_letDie_124 rfl 126 rfl ?_
    refine kX9_bury dX0_letDie_126 129 rfl hk_l1 kw3_160 (Nat.le_of_ble_eq_true rfl) (Nat.le_of_ble_eq_true rfl) h (fun M2 h => ?_)
    refine x_iinc dX0_letDie_129 rfl (congrArg (l3 + ·) kc_1) (Nat.le_of_ble_eq_true rfl) [(0, .ref l0), (1, .ref l1), (2, .int l2), (3, .int (l3 + 1)), (4, .int l4), (6, .int s0)] rfl 132 rfl ?_
    refine x_iinc dX0_letDie_132 rfl (congrArg (l4 + ·) kc_1) (Nat.le_of_ble_eq_true rfl) [(0, .ref l0), (1, .ref l1), (2, .int l2), (3, .int (l3 + 1)), (4, .int (l4 + 1)), (6, .int s0)] rfl 135 rfl ?_
    refine x_goto dX0_letDie_135 5 rfl ?_
    refine x_weak [(0, .ref l0), (1, .ref l1), (2, .int l2), (3, .int (l3 + 1)), (4, .int (l4 + 1))] [0, 1, 2, 3, 4] rfl ?_
    exact hB5 _ _ _ h
def NX0_letDie_101 (Q : Int32 → Mem → Prop) (B5 : Int32 → Int32 → Mem → Prop) (l0 : Nat) (l1 : Nat) (l2 : Int32) (l3 : Int32) (l4 : Int32) (M : Mem) : Prop :=
  NX0_letDie_102 Q B5 l0 l1 l2 l3 l4 0 M
theorem nX0_letDie_101 {Q : Int32 → Mem → Prop} {B5 : Int32 → Int32 → Mem → Prop} {l0 : Nat} {l1 : Nat} {l2 : Int32} {l3 : Int32} {l4 : Int32} {M : Mem} (hB5 : ∀ (l3 : Int32) (l4 : Int32) (M : Mem), B5 l3 l4 M → xX RX0 cX0_letDie 7 (some .int) 5 5 [(0, .ref l0), (1, .ref l1), (2, .int l2), (3, .int l3), (4, .int l4)] [] M (xQi Q)) (hk_l0 : SHk l0 = 0) (hk_l1 : SHk l1 = 9) (h : NX0_letDie_101 Q B5 l0 l1 l2 l3 l4 M) : xX RX0 cX0_letDie 7 (some .int) 5 101 [(0, .ref l0), (1, .ref l1), (2, .int l2), (3, .int l3), (4, .int l4)] [] M (xQi Q) := by
  unfold NX0_letDie_101 at h
  refine x_iconst dX0_letDie_101 kc_0 102 rfl ?_
  exact nX0_letDie_102 hB5 hk_l0 hk_l1 h
def lbX0_letDie_5 (Q : Int32 → Mem → Prop) (l0 : Nat) (l1 : Nat) (l2 : Int32) (B5 : Int32 → Int32 → Mem → Prop) (l3 : Int32) (l4 : Int32) (M : Mem) : Prop :=
  (((M l1 11) ≤ l4 → Q l3 M) ∧ (¬ (M l1 11) ≤ l4 → FX9_isDead (fun (r3 : Bool) => ((r3 = false → vp_in l4 14 ∧ FJ9_min_7cf53 (fun (r4 : Int32) => vp_in l4 14 ∧ ∀ M5 : Mem, M5 = xu M (l1 + 4) (ix l4) r4 → FX2_tells (fun (r7 : Int32) (M6 : Mem) => ((l2 = 0 → ((r7 ≤ 0 → NX0_letDie_101 Q B5 l0 l1 l2 l3 l4 M6) ∧ (¬ r7 ≤ 0 → FX9_draw (fun (r9 : Int32) (M8 : Mem) => ((r7 ≤ r9 → NX0_letDie_101 Q B5 l0 l1 l2 l3 l4 M8) ∧ (¬ r7 ≤ r9 → NX0_letDie_102 Q B5 l0 l1 l2 l3 l4 1 M8))) l1 1000 M6))) ∧ (¬ l2 = 0 → ((r7 < 500 → NX0_letDie_102 Q B5 l0 l1 l2 l3 l4 0 M6) ∧ (¬ r7 < 500 → NX0_letDie_102 Q B5 l0 l1 l2 l3 l4 1 M6))))) (l0 + 11) 1 l1 l4 M5) 120 ((M (l1 + 4) (ix l4)) + 1) M) ∧ (r3 = true → B5 l3 (l4 + 1) M))) l1 l4 M))
def NX0_letDie_5 (Q : Int32 → Mem → Prop) (l0 : Nat) (l1 : Nat) (l2 : Int32) (l3 : Int32) (l4 : Int32) (M : Mem) : Prop := xlp (fun (B : Int32 × Int32 × Mem → Prop) a => lbX0_letDie_5 Q l0 l1 l2 (fun l3 l4 M => B (l3, l4, M)) a.1 a.2.1 a.2.2) (l3, l4, M)
theorem nX0_letDie_5 {Q : Int32 → Mem → Prop} {l0 : Nat} {l1 : Nat} {l2 : Int32} {l3 : Int32} {l4 : Int32} {M : Mem} (hk_l0 : SHk l0 = 0) (hk_l1 : SHk l1 = 9) (h : NX0_letDie_5 Q l0 l1 l2 l3 l4 M) : xX RX0 cX0_letDie 7 (some .int) 5 5 [(0, .ref l0), (1, .ref l1), (2, .int l2), (3, .int l3), (4, .int l4)] [] M (xQi Q) := by
  obtain ⟨n, h⟩ := h
  have hB5 : ∀ (n : Nat) (l3 : Int32) (l4 : Int32) (M : Mem), xlpn (fun (B : Int32 × Int32 × Mem → Prop) a => lbX0_letDie_5 Q l0 l1 l2 (fun l3 l4 M => B (l3, l4, M)) a.1 a.2.1 a.2.2) n (l3, l4, M) → xX RX0 cX0_letDie 7 (some .int) 5 5 [(0, .ref l0), (1, .ref l1), (2, .int l2), (3, .int l3), (4, .int l4)] [] M (xQi Q) := by
    intro n
    induction n with
    | zero => intro l3 l4 M h; exact False.elim h
    | succ n ih =>
      intro l3 l4 M h
      have hB5 := ih
      have h : lbX0_letDie_5 Q l0 l1 l2 (fun l3 l4 M => xlpn (fun (B : Int32 × Int32 × Mem → Prop) a => lbX0_letDie_5 Q l0 l1 l2 (fun l3 l4 M => B (l3, l4, M)) a.1 a.2.1 a.2.2) n (l3, l4, M)) l3 l4 M := h
      unfold lbX0_letDie_5 at h
      refine x_iload dX0_letDie_5 rfl 7 rfl ?_
      refine x_aload_n dX0_letDie_7 rfl 8 rfl ?_
      refine gf9_11 dX0_letDie_8 11 rfl hk_l1 kw1_75 ?_
      refine x_icmp_ge dX0_letDie_11 138 14 rfl rfl (fun hc => ?_) (fun hc => ?_)
      · have h := h.1 hc
        refine x_iload_n dX0_letDie_138 rfl 139 rfl ?_
        exact x_iret dX0_letDie_139 h
      · have h := h.2 hc
        refine x_aload_n dX0_letDie_14 rfl 15 rfl ?_
        refine x_iload dX0_letDie_15 rfl 17 rfl ?_
        refine kX9_isDead dX0_letDie_17 20 rfl hk_l1 kw3_152 (Nat.le_of_ble_eq_true rfl) (Nat.le_of_ble_eq_true rfl) h (fun r3 h => ?_)
        refine x_if_eq_b dX0_letDie_20 26 23 rfl rfl (fun hc => ?_) (fun hc => ?_)
        · have h := h.1 hc
          refine x_aload_n dX0_letDie_26 rfl 27 rfl ?_
          refine gf9_4 dX0_letDie_27 30 rfl hk_l1 kw1_56 ?_
          refine x_iload dX0_letDie_30 rfl 32 rfl ?_
          refine x_bipush dX0_letDie_32 kb_120 34 rfl ?_
          refine x_aload_n dX0_letDie_34 rfl 35 rfl ?_
          refine gf9_4 dX0_letDie_35 38 rfl hk_l1 kw1_56 ?_
          refine x_iload dX0_letDie_38 rfl 40 rfl ?_
          obtain ⟨hin, h⟩ := h
          refine x_iaload dX0_letDie_40 (ly9_4 hk_l1) hin 41 rfl ?_
          refine x_iconst dX0_letDie_41 kc_1 42 rfl ?_
          refine x_iadd dX0_letDie_42 43 rfl ?_
          refine kJ9_min_7cf53 dX0_letDie_43 46 rfl kw3_153 (Nat.le_of_ble_eq_true rfl) (Nat.le_of_ble_eq_true rfl) h (fun r4 h => ?_)
          obtain ⟨hin, h⟩ := h
          refine x_iastore dX0_letDie_46 (ly9_4 hk_l1) hin 47 rfl (x_mem (fun M5 hM5 => ?_))
          have h := h M5 hM5
          refine x_aload_n dX0_letDie_47 rfl 48 rfl ?_
          refine gf0_1 dX0_letDie_48 51 rfl hk_l0 kw2_11 ?_
          refine x_iconst dX0_letDie_51 kc_1 52 rfl ?_
          refine x_aload_n dX0_letDie_52 rfl 53 rfl ?_
          refine x_iload dX0_letDie_53 rfl 55 rfl ?_
          refine kX2_tells dX0_letDie_55 58 rfl (ly0_1 hk_l0).1 hk_l1 kw3_87 (Nat.le_of_ble_eq_true rfl) (Nat.le_of_ble_eq_true rfl) h (fun r7 M6 h => ?_)
          refine x_istore dX0_letDie_58 (Nat.le_of_ble_eq_true rfl) [(0, .ref l0), (1, .ref l1), (2, .int l2), (3, .int l3), (4, .int l4), (5, .int r7)] rfl 60 rfl ?_
          refine x_iload_n dX0_letDie_60 rfl 61 rfl ?_
          refine x_if_eq dX0_letDie_61 80 64 rfl rfl (fun hc => ?_) (fun hc => ?_)
          · have h := h.1 hc
            refine x_iload dX0_letDie_80 rfl 82 rfl ?_
            refine x_if_le dX0_letDie_82 101 85 rfl rfl (fun hc => ?_) (fun hc => ?_)
            · have h := h.1 hc
              refine x_weak [(0, .ref l0), (1, .ref l1), (2, .int l2), (3, .int l3), (4, .int l4)] [0, 1, 2, 3, 4] rfl ?_
              exact nX0_letDie_101 hB5 hk_l0 hk_l1 h
            · have h := h.2 hc
              refine x_aload_n dX0_letDie_85 rfl 86 rfl ?_
              refine x_sipush dX0_letDie_86 kh_1000 89 rfl ?_
              refine kX9_draw dX0_letDie_89 92 rfl hk_l1 kw3_154 (Nat.le_of_ble_eq_true rfl) (Nat.le_of_ble_eq_true rfl) h (fun r9 M8 h => ?_)
              refine x_iload dX0_letDie_92 rfl 94 rfl ?_
              refine x_icmp_ge dX0_letDie_94 101 97 rfl rfl (fun hc => ?_) (fun hc => ?_)
              · have h := h.1 hc
                refine x_weak [(0, .ref l0), (1, .ref l1), (2, .int l2), (3, .int l3), (4, .int l4)] [0, 1, 2, 3, 4] rfl ?_
                exact nX0_letDie_101 hB5 hk_l0 hk_l1 h
              · have h := h.2 hc
                refine x_iconst dX0_letDie_97 kc_1 98 rfl ?_
                refine x_goto dX0_letDie_98 102 rfl ?_
                refine x_weak [(0, .ref l0), (1, .ref l1), (2, .int l2), (3, .int l3), (4, .int l4)] [0, 1, 2, 3, 4] rfl ?_
                exact nX0_letDie_102 hB5 hk_l0 hk_l1 h
          · have h := h.2 hc
            refine x_iload dX0_letDie_64 rfl 66 rfl ?_
            refine x_sipush dX0_letDie_66 kh_500 69 rfl ?_
            refine x_icmp_lt dX0_letDie_69 76 72 rfl rfl (fun hc => ?_) (fun hc => ?_)
            · have h := h.1 hc
              refine x_iconst dX0_letDie_76 kc_0 77 rfl ?_
              refine x_goto dX0_letDie_77 102 rfl ?_
              refine x_weak [(0, .ref l0), (1, .ref l1), (2, .int l2), (3, .int l3), (4, .int l4)] [0, 1, 2, 3, 4] rfl ?_
              exact nX0_letDie_102 hB5 hk_l0 hk_l1 h
            · have h := h.2 hc
              refine x_iconst dX0_letDie_72 kc_1 73 rfl ?_
              refine x_goto dX0_letDie_73 102 rfl ?_
              refine x_weak [(0, .ref l0), (1, .ref l1), (2, .int l2), (3, .int l3), (4, .int l4)] [0, 1, 2, 3, 4] rfl ?_
              exact nX0_letDie_102 hB5 hk_l0 hk_l1 h
        · have h := h.2 hc
          refine x_goto dX0_letDie_23 132 rfl ?_
          refine x_iinc dX0_letDie_132 rfl (congrArg (l4 + ·) kc_1) (Nat.le_of_ble_eq_true rfl) [(0, .ref l0), (1, .ref l1), (2, .int l2), (3, .int l3), (4, .int (l4 + 1))] rfl 135 rfl ?_
          refine x_goto dX0_letDie_135 5 rfl ?_
          exact hB5 _ _ _ h
  exact hB5 n l3 l4 M h
def FX0_letDie (Q : Int32 → Mem → Prop) (l0 : Nat) (l1 : Nat) (l2 : Int32) (M : Mem) : Prop :=
  NX0_letDie_5 Q l0 l1 l2 0 0 M
theorem eX0_letDie {Q : Int32 → Mem → Prop} {l0 : Nat} {l1 : Nat} {l2 : Int32} {M : Mem} (hk_l0 : SHk l0 = 0) (hk_l1 : SHk l1 = 9) (h : FX0_letDie Q l0 l1 l2 M) : xX RX0 cX0_letDie 7 (some .int) 5 0 [(0, .ref l0), (1, .ref l1), (2, .int l2)] [] M (xQi Q) := by
  unfold FX0_letDie at h
  refine x_iconst dX0_letDie_0 kc_0 1 rfl ?_
  refine x_istore_n dX0_letDie_1 (Nat.le_of_ble_eq_true rfl) [(0, .ref l0), (1, .ref l1), (2, .int l2), (3, .int 0)] rfl 2 rfl ?_
  refine x_iconst dX0_letDie_2 kc_0 3 rfl ?_
  refine x_istore dX0_letDie_3 (Nat.le_of_ble_eq_true rfl) [(0, .ref l0), (1, .ref l1), (2, .int l2), (3, .int 0), (4, .int 0)] rfl 5 rfl ?_
  exact nX0_letDie_5 hk_l0 hk_l1 h
theorem cX0_letDie_ {Q : Int32 → Mem → Prop} {l0 : Nat} {l1 : Nat} {l2 : Int32} {M : Mem} (hk_l0 : SHk l0 = 0) (hk_l1 : SHk l1 = 9) (h : FX0_letDie Q l0 l1 l2 M) : xM yX0_letDie cX0_letDie 7 (some .int) 5 [.ref l0, .ref l1, .int l2] M (xQi Q) := xM_of (by decide +kernel) (Nat.le_of_ble_eq_true rfl) (eX0_letDie hk_l0 hk_l1 h)
theorem kX0_letDie {own : String} {cc : ByteArray} {nL : Nat} {rt : Option FieldType} {d pc ix : Nat} {L : List (Nat × Value)} {st : List Value} {M : Mem} {Rt : xGt → Array Value → State → Outcome → State → Prop} {Q : Int32 → Mem → Prop} {l0 : Nat} {l1 : Nat} {l2 : Int32} (hd : decode cc pc = .ok (.invokevirtual ix, 3)) (q : Nat) (hq : pc + 3 = q) (hk_l0 : SHk l0 = 0) (hk_l1 : SHk l1 = 9) (w1 : Cond.methodLink own ix yX0_letDie ∈ xTs) (hr : 5 < d) (hst : (st.map fun v => v.category).sum ≤ 8) (h : FX0_letDie Q l0 l1 l2 M) (k : ∀ (r : Int32) (N : Mem), Q r N → xX own cc nL rt d q L (.int r :: st) N Rt) : xX own cc nL rt d pc L (.int l2 :: .ref l1 :: .ref l0 :: st) M Rt :=
  x_callV_i (n := 2) (As := [.ref l1, .int l2]) hd q hq hk_l0 (by decide) rfl rfl w1 kw3_150 ks1_9 kw1_2 kw3_151 (by decide +kernel) rfl hr (by decide) hst _ rfl (cX0_letDie_ hk_l0 hk_l1 h) k
def FX0_adviceAt (Q : Int32 → Mem → Prop) (l0 : Nat) (l1 : Nat) (l2 : Int32) (l3 : Int32) (M : Mem) : Prop :=
  FX9_sitterOn (fun (r1 : Int32) => ((¬ r1 = (-1) → FX2_tells (fun (r3 : Int32) (M2 : Mem) => FJ9_floorDiv_7cf53 (fun (r4 : Int32) => FX11_held (fun (r5 : Int32) => Q r5 M2) (l3 + r4) (-99) 99 M2) r3 9 M2) (l0 + 11) 2 l1 r1 M) ∧ (r1 = (-1) → Q l3 M))) l1 l2 M
theorem eX0_adviceAt {Q : Int32 → Mem → Prop} {l0 : Nat} {l1 : Nat} {l2 : Int32} {l3 : Int32} {M : Mem} (hk_l0 : SHk l0 = 0) (hk_l1 : SHk l1 = 9) (h : FX0_adviceAt Q l0 l1 l2 l3 M) : xX RX0 cX0_adviceAt 6 (some .int) 5 0 [(0, .ref l0), (1, .ref l1), (2, .int l2), (3, .int l3)] [] M (xQi Q) := by
  unfold FX0_adviceAt at h
  refine x_aload_n dX0_adviceAt_0 rfl 1 rfl ?_
  refine x_iload_n dX0_adviceAt_1 rfl 2 rfl ?_
  refine kX9_sitterOn dX0_adviceAt_2 5 rfl hk_l1 kw3_83 (Nat.le_of_ble_eq_true rfl) (Nat.le_of_ble_eq_true rfl) h (fun r1 h => ?_)
  refine x_istore dX0_adviceAt_5 (Nat.le_of_ble_eq_true rfl) [(0, .ref l0), (1, .ref l1), (2, .int l2), (3, .int l3), (4, .int r1)] rfl 7 rfl ?_
  refine x_iload dX0_adviceAt_7 rfl 9 rfl ?_
  refine x_iconst dX0_adviceAt_9 kc_m1 10 rfl ?_
  refine x_icmp_ne dX0_adviceAt_10 15 13 rfl rfl (fun hc => ?_) (fun hc => ?_)
  · have h := h.1 hc
    refine x_aload_n dX0_adviceAt_15 rfl 16 rfl ?_
    refine gf0_1 dX0_adviceAt_16 19 rfl hk_l0 kw2_11 ?_
    refine x_iconst dX0_adviceAt_19 kc_2 20 rfl ?_
    refine x_aload_n dX0_adviceAt_20 rfl 21 rfl ?_
    refine x_iload dX0_adviceAt_21 rfl 23 rfl ?_
    refine kX2_tells dX0_adviceAt_23 26 rfl (ly0_1 hk_l0).1 hk_l1 kw3_87 (Nat.le_of_ble_eq_true rfl) (Nat.le_of_ble_eq_true rfl) h (fun r3 M2 h => ?_)
    refine x_bipush dX0_adviceAt_26 kb_9 28 rfl ?_
    refine kJ9_floorDiv_7cf53 dX0_adviceAt_28 31 rfl kw3_140 (Nat.le_of_ble_eq_true rfl) (Nat.le_of_ble_eq_true rfl) h (fun r4 h => ?_)
    refine x_istore dX0_adviceAt_31 (Nat.le_of_ble_eq_true rfl) [(0, .ref l0), (1, .ref l1), (2, .int l2), (3, .int l3), (4, .int r1), (5, .int r4)] rfl 33 rfl ?_
    refine x_iload_n dX0_adviceAt_33 rfl 34 rfl ?_
    refine x_iload dX0_adviceAt_34 rfl 36 rfl ?_
    refine x_iadd dX0_adviceAt_36 37 rfl ?_
    refine x_bipush dX0_adviceAt_37 kb_m99 39 rfl ?_
    refine x_bipush dX0_adviceAt_39 kb_99 41 rfl ?_
    refine kX11_heldn dX0_adviceAt_41 44 rfl kn3_141 (Nat.le_of_ble_eq_true rfl) (Nat.le_of_ble_eq_true rfl) h (fun r5 h => ?_)
    exact x_iret dX0_adviceAt_44 h
  · have h := h.2 hc
    refine x_iload_n dX0_adviceAt_13 rfl 14 rfl ?_
    exact x_iret dX0_adviceAt_14 h
theorem cX0_adviceAt_ {Q : Int32 → Mem → Prop} {l0 : Nat} {l1 : Nat} {l2 : Int32} {l3 : Int32} {M : Mem} (hk_l0 : SHk l0 = 0) (hk_l1 : SHk l1 = 9) (h : FX0_adviceAt Q l0 l1 l2 l3 M) : xM yX0_adviceAt cX0_adviceAt 6 (some .int) 5 [.ref l0, .ref l1, .int l2, .int l3] M (xQi Q) := xM_of (by decide +kernel) (Nat.le_of_ble_eq_true rfl) (eX0_adviceAt hk_l0 hk_l1 h)
theorem kX0_adviceAt {own : String} {cc : ByteArray} {nL : Nat} {rt : Option FieldType} {d pc ix : Nat} {L : List (Nat × Value)} {st : List Value} {M : Mem} {Rt : xGt → Array Value → State → Outcome → State → Prop} {Q : Int32 → Mem → Prop} {l0 : Nat} {l1 : Nat} {l2 : Int32} {l3 : Int32} (hd : decode cc pc = .ok (.invokevirtual ix, 3)) (q : Nat) (hq : pc + 3 = q) (hk_l0 : SHk l0 = 0) (hk_l1 : SHk l1 = 9) (w1 : Cond.methodLink own ix yX0_adviceAt ∈ xTs) (hr : 5 < d) (hst : (st.map fun v => v.category).sum ≤ 8) (h : FX0_adviceAt Q l0 l1 l2 l3 M) (k : ∀ (r : Int32) (N : Mem), Q r N → xX own cc nL rt d q L (.int r :: st) N Rt) : xX own cc nL rt d pc L (.int l3 :: .int l2 :: .ref l1 :: .ref l0 :: st) M Rt :=
  x_callV_i (n := 3) (As := [.ref l1, .int l2, .int l3]) hd q hq hk_l0 (by decide) rfl rfl w1 kw3_137 kw3_138 kw1_2 kw3_139 (by decide +kernel) rfl hr (by decide) hst _ rfl (cX0_adviceAt_ hk_l0 hk_l1 h) k
def lbX0_lowerAdvice_17 (Q : Mem → Prop) (l0 : Nat) (l1 : Nat) (B17 : Int32 → Mem → Prop) (l2 : Int32) (M : Mem) : Prop :=
  (((M l1 10) ≤ (l2 + 1) → Q M) ∧ (¬ (M l1 10) ≤ (l2 + 1) → vp_in (l2 + 1) 10 ∧ ∀ y1 : Int32, y1 = M (l1 + 3) (ix (l2 + 1)) → ((y1 = (-100) → B17 (l2 + 1) M) ∧ (¬ y1 = (-100) → FX0_adviceAt (fun (r3 : Int32) (M2 : Mem) => vp_in l2 10 ∧ ∀ M4 : Mem, M4 = xu M2 (l1 + 3) (ix l2) r3 → vp_in (l2 + 1) 10 ∧ ∀ M5 : Mem, M5 = xu M4 (l1 + 3) (ix (l2 + 1)) (-100) → vp_in l2 10 ∧ FX9_note (fun (M6 : Mem) => B17 (l2 + 1) M6) l1 4 l2 (M5 (l1 + 3) (ix l2)) M5) l0 l1 l2 y1 M))))
def NX0_lowerAdvice_17 (Q : Mem → Prop) (l0 : Nat) (l1 : Nat) (l2 : Int32) (M : Mem) : Prop := xlp (fun (B : Int32 × Mem → Prop) a => lbX0_lowerAdvice_17 Q l0 l1 (fun l2 M => B (l2, M)) a.1 a.2) (l2, M)
theorem nX0_lowerAdvice_17 {Q : Mem → Prop} {l0 : Nat} {l1 : Nat} {l2 : Int32} {M : Mem} (hk_l0 : SHk l0 = 0) (hk_l1 : SHk l1 = 9) (h : NX0_lowerAdvice_17 Q l0 l1 l2 M) : xX RX0 cX0_lowerAdvice 4 none 6 17 [(0, .ref l0), (1, .ref l1), (2, .int l2)] [] M (xQv Q) := by
  obtain ⟨n, h⟩ := h
  have hB17 : ∀ (n : Nat) (l2 : Int32) (M : Mem), xlpn (fun (B : Int32 × Mem → Prop) a => lbX0_lowerAdvice_17 Q l0 l1 (fun l2 M => B (l2, M)) a.1 a.2) n (l2, M) → xX RX0 cX0_lowerAdvice 4 none 6 17 [(0, .ref l0), (1, .ref l1), (2, .int l2)] [] M (xQv Q) := by
    intro n
    induction n with
    | zero => intro l2 M h; exact False.elim h
    | succ n ih =>
      intro l2 M h
      have hB17 := ih
      have h : lbX0_lowerAdvice_17 Q l0 l1 (fun l2 M => xlpn (fun (B : Int32 × Mem → Prop) a => lbX0_lowerAdvice_17 Q l0 l1 (fun l2 M => B (l2, M)) a.1 a.2) n (l2, M)) l2 M := h
      unfold lbX0_lowerAdvice_17 at h
      refine x_iload_n dX0_lowerAdvice_17 rfl 18 rfl ?_
      refine x_iconst dX0_lowerAdvice_18 kc_1 19 rfl ?_
      refine x_iadd dX0_lowerAdvice_19 20 rfl ?_
      refine x_aload_n dX0_lowerAdvice_20 rfl 21 rfl ?_
      refine gf9_10 dX0_lowerAdvice_21 24 rfl hk_l1 kw1_71 ?_
      refine x_icmp_ge dX0_lowerAdvice_24 83 27 rfl rfl (fun hc => ?_) (fun hc => ?_)
      · have h := h.1 hc
        exact x_vret dX0_lowerAdvice_83 h
      · have h := h.2 hc
        refine x_aload_n dX0_lowerAdvice_27 rfl 28 rfl ?_
        refine gf9_3 dX0_lowerAdvice_28 31 rfl hk_l1 kw1_53 ?_
        refine x_iload_n dX0_lowerAdvice_31 rfl 32 rfl ?_
        refine x_iconst dX0_lowerAdvice_32 kc_1 33 rfl ?_
        refine x_iadd dX0_lowerAdvice_33 34 rfl ?_
        obtain ⟨hin, h⟩ := h
        refine x_iaload dX0_lowerAdvice_34 (ly9_3 hk_l1) hin 35 rfl ?_
        refine x_top (fun y1 hy1 => ?_)
        have h := h y1 hy1
        refine x_istore_n dX0_lowerAdvice_35 (Nat.le_of_ble_eq_true rfl) [(0, .ref l0), (1, .ref l1), (2, .int l2), (3, .int y1)] rfl 36 rfl ?_
        refine x_iload_n dX0_lowerAdvice_36 rfl 37 rfl ?_
        refine x_bipush dX0_lowerAdvice_37 kb_m100 39 rfl ?_
        refine x_icmp_eq dX0_lowerAdvice_39 77 42 rfl rfl (fun hc => ?_) (fun hc => ?_)
        · have h := h.1 hc
          refine x_iinc dX0_lowerAdvice_77 rfl (congrArg (l2 + ·) kc_1) (Nat.le_of_ble_eq_true rfl) [(0, .ref l0), (1, .ref l1), (2, .int (l2 + 1)), (3, .int y1)] rfl 80 rfl ?_
          refine x_goto dX0_lowerAdvice_80 17 rfl ?_
          refine x_weak [(0, .ref l0), (1, .ref l1), (2, .int (l2 + 1))] [0, 1, 2] rfl ?_
          exact hB17 _ _ h
        · have h := h.2 hc
          refine x_aload_n dX0_lowerAdvice_42 rfl 43 rfl ?_
          refine gf9_3 dX0_lowerAdvice_43 46 rfl hk_l1 kw1_53 ?_
          refine x_iload_n dX0_lowerAdvice_46 rfl 47 rfl ?_
          refine x_aload_n dX0_lowerAdvice_47 rfl 48 rfl ?_
          refine x_aload_n dX0_lowerAdvice_48 rfl 49 rfl ?_
          refine x_iload_n dX0_lowerAdvice_49 rfl 50 rfl ?_
          refine x_iload_n dX0_lowerAdvice_50 rfl 51 rfl ?_
          refine kX0_adviceAt dX0_lowerAdvice_51 54 rfl hk_l0 hk_l1 kw3_136 (Nat.le_of_ble_eq_true rfl) (Nat.le_of_ble_eq_true rfl) h (fun r3 M2 h => ?_)
          obtain ⟨hin, h⟩ := h
          refine x_iastore dX0_lowerAdvice_54 (ly9_3 hk_l1) hin 55 rfl (x_mem (fun M4 hM4 => ?_))
          have h := h M4 hM4
          refine x_aload_n dX0_lowerAdvice_55 rfl 56 rfl ?_
          refine gf9_3 dX0_lowerAdvice_56 59 rfl hk_l1 kw1_53 ?_
          refine x_iload_n dX0_lowerAdvice_59 rfl 60 rfl ?_
          refine x_iconst dX0_lowerAdvice_60 kc_1 61 rfl ?_
          refine x_iadd dX0_lowerAdvice_61 62 rfl ?_
          refine x_bipush dX0_lowerAdvice_62 kb_m100 64 rfl ?_
          obtain ⟨hin, h⟩ := h
          refine x_iastore dX0_lowerAdvice_64 (ly9_3 hk_l1) hin 65 rfl (x_mem (fun M5 hM5 => ?_))
          have h := h M5 hM5
          refine x_aload_n dX0_lowerAdvice_65 rfl 66 rfl ?_
          refine x_iconst dX0_lowerAdvice_66 kc_4 67 rfl ?_
          refine x_iload_n dX0_lowerAdvice_67 rfl 68 rfl ?_
          refine x_aload_n dX0_lowerAdvice_68 rfl 69 rfl ?_
          refine gf9_3 dX0_lowerAdvice_69 72 rfl hk_l1 kw1_53 ?_
          refine x_iload_n dX0_lowerAdvice_72 rfl 73 rfl ?_
          obtain ⟨hin, h⟩ := h
          refine x_iaload dX0_lowerAdvice_73 (ly9_3 hk_l1) hin 74 rfl ?_
          refine kX9_note dX0_lowerAdvice_74 77 rfl hk_l1 kw3_142 (Nat.le_of_ble_eq_true rfl) (Nat.le_of_ble_eq_true rfl) h (fun M6 h => ?_)
          refine x_iinc dX0_lowerAdvice_77 rfl (congrArg (l2 + ·) kc_1) (Nat.le_of_ble_eq_true rfl) [(0, .ref l0), (1, .ref l1), (2, .int (l2 + 1)), (3, .int y1)] rfl 80 rfl ?_
          refine x_goto dX0_lowerAdvice_80 17 rfl ?_
          refine x_weak [(0, .ref l0), (1, .ref l1), (2, .int (l2 + 1))] [0, 1, 2] rfl ?_
          exact hB17 _ _ h
  exact hB17 n l2 M h
def FX0_lowerAdvice (Q : Mem → Prop) (l0 : Nat) (l1 : Nat) (M : Mem) : Prop :=
  (((M l1 10) ≤ 0 → NX0_lowerAdvice_17 Q l0 l1 0 M) ∧ (¬ (M l1 10) ≤ 0 → ∀ M7 : Mem, M7 = xu M (l1 + 3) (0) (-100) → NX0_lowerAdvice_17 Q l0 l1 0 M7))
theorem eX0_lowerAdvice {Q : Mem → Prop} {l0 : Nat} {l1 : Nat} {M : Mem} (hk_l0 : SHk l0 = 0) (hk_l1 : SHk l1 = 9) (h : FX0_lowerAdvice Q l0 l1 M) : xX RX0 cX0_lowerAdvice 4 none 6 0 [(0, .ref l0), (1, .ref l1)] [] M (xQv Q) := by
  unfold FX0_lowerAdvice at h
  refine x_aload_n dX0_lowerAdvice_0 rfl 1 rfl ?_
  refine gf9_10 dX0_lowerAdvice_1 4 rfl hk_l1 kw1_71 ?_
  refine x_if_le dX0_lowerAdvice_4 15 7 rfl rfl (fun hc => ?_) (fun hc => ?_)
  · have h := h.1 hc
    refine x_iconst dX0_lowerAdvice_15 kc_0 16 rfl ?_
    refine x_istore_n dX0_lowerAdvice_16 (Nat.le_of_ble_eq_true rfl) [(0, .ref l0), (1, .ref l1), (2, .int 0)] rfl 17 rfl ?_
    exact nX0_lowerAdvice_17 hk_l0 hk_l1 h
  · have h := h.2 hc
    refine x_aload_n dX0_lowerAdvice_7 rfl 8 rfl ?_
    refine gf9_3 dX0_lowerAdvice_8 11 rfl hk_l1 kw1_53 ?_
    refine x_iconst dX0_lowerAdvice_11 kc_0 12 rfl ?_
    refine x_bipush dX0_lowerAdvice_12 kb_m100 14 rfl ?_
    refine x_iastore dX0_lowerAdvice_14 (ly9_3 hk_l1) (by unfold vp_in; decide) 15 rfl (x_mem (fun M7 hM7 => ?_))
    have h := h M7 hM7
    refine x_iconst dX0_lowerAdvice_15 kc_0 16 rfl ?_
    refine x_istore_n dX0_lowerAdvice_16 (Nat.le_of_ble_eq_true rfl) [(0, .ref l0), (1, .ref l1), (2, .int 0)] rfl 17 rfl ?_
    exact nX0_lowerAdvice_17 hk_l0 hk_l1 h
theorem cX0_lowerAdvice_ {Q : Mem → Prop} {l0 : Nat} {l1 : Nat} {M : Mem} (hk_l0 : SHk l0 = 0) (hk_l1 : SHk l1 = 9) (h : FX0_lowerAdvice Q l0 l1 M) : xM yX0_lowerAdvice cX0_lowerAdvice 4 none 6 [.ref l0, .ref l1] M (xQv Q) := xM_of (by decide +kernel) (Nat.le_of_ble_eq_true rfl) (eX0_lowerAdvice hk_l0 hk_l1 h)
theorem kX0_lowerAdvice {own : String} {cc : ByteArray} {nL : Nat} {rt : Option FieldType} {d pc ix : Nat} {L : List (Nat × Value)} {st : List Value} {M : Mem} {Rt : xGt → Array Value → State → Outcome → State → Prop} {Q : Mem → Prop} {l0 : Nat} {l1 : Nat} (hd : decode cc pc = .ok (.invokevirtual ix, 3)) (q : Nat) (hq : pc + 3 = q) (hk_l0 : SHk l0 = 0) (hk_l1 : SHk l1 = 9) (w1 : Cond.methodLink own ix yX0_lowerAdvice ∈ xTs) (hr : 6 < d) (hst : (st.map fun v => v.category).sum ≤ 8) (h : FX0_lowerAdvice Q l0 l1 M) (k : ∀ (N : Mem), Q N → xX own cc nL rt d q L st N Rt) : xX own cc nL rt d pc L (.ref l1 :: .ref l0 :: st) M Rt :=
  x_callV_v (n := 1) (As := [.ref l1]) hd q hq hk_l0 (by decide) rfl rfl w1 kw3_134 ks1_7 kw1_2 kw3_135 (by decide +kernel) rfl hr (by decide) hst _ rfl (cX0_lowerAdvice_ hk_l0 hk_l1 h) k
def NX9_eat_78 (Q : Mem → Prop) (l0 : Nat) (l1 : Int32) (l3 : Int32) (M : Mem) : Prop :=
  ((l3 ≤ 0 → Q M) ∧ (¬ l3 ≤ 0 → FX9_note (fun (M1 : Mem) => Q M1) l0 0 l1 l3 M))
theorem nX9_eat_78 {Q : Mem → Prop} {l0 : Nat} {l1 : Int32} {l3 : Int32} {M : Mem} (hk_l0 : SHk l0 = 9) (h : NX9_eat_78 Q l0 l1 l3 M) : xX RX9 cX9_eat 4 none 2 78 [(0, .ref l0), (1, .int l1), (3, .int l3)] [] M (xQv Q) := by
  unfold NX9_eat_78 at h
  refine x_iload_n dX9_eat_78 rfl 79 rfl ?_
  refine x_if_le dX9_eat_79 89 82 rfl rfl (fun hc => ?_) (fun hc => ?_)
  · have h := h.1 hc
    exact x_vret dX9_eat_89 h
  · have h := h.2 hc
    refine x_aload_n dX9_eat_82 rfl 83 rfl ?_
    refine x_iconst dX9_eat_83 kc_0 84 rfl ?_
    refine x_iload_n dX9_eat_84 rfl 85 rfl ?_
    refine x_iload_n dX9_eat_85 rfl 86 rfl ?_
    refine kX9_note dX9_eat_86 89 rfl hk_l0 kw2_205 (Nat.le_of_ble_eq_true rfl) (Nat.le_of_ble_eq_true rfl) h (fun M1 h => ?_)
    exact x_vret dX9_eat_89 h
def FX9_eat (Q : Mem → Prop) (l0 : Nat) (l1 : Int32) (l2 : Int32) (M : Mem) : Prop :=
  FX9_isSaint (fun (r2 : Bool) => ((r2 = true → FJ9_min_7cf53 (fun (r3 : Int32) => ∀ M4 : Mem, M4 = xu M l0 13 ((M l0 13) - r3) → ((¬ r3 = l2 → vp_in l1 14 ∧ FJ9_min_7cf53 (fun (r5 : Int32) => vp_in l1 14 ∧ ∀ M6 : Mem, M6 = xu M4 (l0 + 7) (ix l1) r5 → NX9_eat_78 Q l0 l1 r3 M6) 99 ((M4 (l0 + 7) (ix l1)) + ((l2 - r3) * 5)) M4) ∧ (r3 = l2 → vp_in l1 14 ∧ FJ9_max_7cf53 (fun (r7 : Int32) => vp_in l1 14 ∧ ∀ M8 : Mem, M8 = xu M4 (l0 + 7) (ix l1) r7 → NX9_eat_78 Q l0 l1 r3 M8) 0 ((M4 (l0 + 7) (ix l1)) - 10) M4))) l2 (M l0 13) M) ∧ (r2 = false → Q M))) l0 l1 M
theorem eX9_eat {Q : Mem → Prop} {l0 : Nat} {l1 : Int32} {l2 : Int32} {M : Mem} (hk_l0 : SHk l0 = 9) (h : FX9_eat Q l0 l1 l2 M) : xX RX9 cX9_eat 4 none 2 0 [(0, .ref l0), (1, .int l1), (2, .int l2)] [] M (xQv Q) := by
  unfold FX9_eat at h
  refine x_aload_n dX9_eat_0 rfl 1 rfl ?_
  refine x_iload_n dX9_eat_1 rfl 2 rfl ?_
  refine kX9_isSaint dX9_eat_2 5 rfl hk_l0 kw2_233 (Nat.le_of_ble_eq_true rfl) (Nat.le_of_ble_eq_true rfl) h (fun r2 h => ?_)
  refine x_if_ne_b dX9_eat_5 9 8 rfl rfl (fun hc => ?_) (fun hc => ?_)
  · have h := h.1 hc
    refine x_iload_n dX9_eat_9 rfl 10 rfl ?_
    refine x_aload_n dX9_eat_10 rfl 11 rfl ?_
    refine gf9_13 dX9_eat_11 14 rfl hk_l0 kw1_78 ?_
    refine kJ9_min_7cf53 dX9_eat_14 17 rfl kw3_29 (Nat.le_of_ble_eq_true rfl) (Nat.le_of_ble_eq_true rfl) h (fun r3 h => ?_)
    refine x_istore_n dX9_eat_17 (Nat.le_of_ble_eq_true rfl) [(0, .ref l0), (1, .int l1), (2, .int l2), (3, .int r3)] rfl 18 rfl ?_
    refine x_aload_n dX9_eat_18 rfl 19 rfl ?_
    refine x_dup dX9_eat_19 rfl 20 rfl ?_
    refine gf9_13 dX9_eat_20 23 rfl hk_l0 kw1_78 ?_
    refine x_iload_n dX9_eat_23 rfl 24 rfl ?_
    refine x_isub dX9_eat_24 25 rfl ?_
    refine pf9_13 dX9_eat_25 28 rfl hk_l0 kw1_78 (x_mem (fun M4 hM4 => ?_))
    have h := h M4 hM4
    refine x_iload_n dX9_eat_28 rfl 29 rfl ?_
    refine x_iload_n dX9_eat_29 rfl 30 rfl ?_
    refine x_icmp_ne dX9_eat_30 55 33 rfl rfl (fun hc => ?_) (fun hc => ?_)
    · have h := h.1 hc
      refine x_aload_n dX9_eat_55 rfl 56 rfl ?_
      refine gf9_7 dX9_eat_56 59 rfl hk_l0 kw1_63 ?_
      refine x_iload_n dX9_eat_59 rfl 60 rfl ?_
      refine x_bipush dX9_eat_60 kb_99 62 rfl ?_
      refine x_aload_n dX9_eat_62 rfl 63 rfl ?_
      refine gf9_7 dX9_eat_63 66 rfl hk_l0 kw1_63 ?_
      refine x_iload_n dX9_eat_66 rfl 67 rfl ?_
      obtain ⟨hin, h⟩ := h
      refine x_iaload dX9_eat_67 (ly9_7 hk_l0) hin 68 rfl ?_
      refine x_iload_n dX9_eat_68 rfl 69 rfl ?_
      refine x_iload_n dX9_eat_69 rfl 70 rfl ?_
      refine x_isub dX9_eat_70 71 rfl ?_
      refine x_iconst dX9_eat_71 kc_5 72 rfl ?_
      refine x_imul dX9_eat_72 73 rfl ?_
      refine x_iadd dX9_eat_73 74 rfl ?_
      refine kJ9_min_7cf53 dX9_eat_74 77 rfl kw3_29 (Nat.le_of_ble_eq_true rfl) (Nat.le_of_ble_eq_true rfl) h (fun r5 h => ?_)
      obtain ⟨hin, h⟩ := h
      refine x_iastore dX9_eat_77 (ly9_7 hk_l0) hin 78 rfl (x_mem (fun M6 hM6 => ?_))
      have h := h M6 hM6
      refine x_weak [(0, .ref l0), (1, .int l1), (3, .int r3)] [0, 1, 3] rfl ?_
      exact nX9_eat_78 hk_l0 h
    · have h := h.2 hc
      refine x_aload_n dX9_eat_33 rfl 34 rfl ?_
      refine gf9_7 dX9_eat_34 37 rfl hk_l0 kw1_63 ?_
      refine x_iload_n dX9_eat_37 rfl 38 rfl ?_
      refine x_iconst dX9_eat_38 kc_0 39 rfl ?_
      refine x_aload_n dX9_eat_39 rfl 40 rfl ?_
      refine gf9_7 dX9_eat_40 43 rfl hk_l0 kw1_63 ?_
      refine x_iload_n dX9_eat_43 rfl 44 rfl ?_
      obtain ⟨hin, h⟩ := h
      refine x_iaload dX9_eat_44 (ly9_7 hk_l0) hin 45 rfl ?_
      refine x_bipush dX9_eat_45 kb_10 47 rfl ?_
      refine x_isub dX9_eat_47 48 rfl ?_
      refine kJ9_max_7cf53 dX9_eat_48 51 rfl kw3_127 (Nat.le_of_ble_eq_true rfl) (Nat.le_of_ble_eq_true rfl) h (fun r7 h => ?_)
      obtain ⟨hin, h⟩ := h
      refine x_iastore dX9_eat_51 (ly9_7 hk_l0) hin 52 rfl (x_mem (fun M8 hM8 => ?_))
      have h := h M8 hM8
      refine x_goto dX9_eat_52 78 rfl ?_
      refine x_weak [(0, .ref l0), (1, .int l1), (3, .int r3)] [0, 1, 3] rfl ?_
      exact nX9_eat_78 hk_l0 h
  · have h := h.2 hc
    exact x_vret dX9_eat_8 h
theorem cX9_eat_ {Q : Mem → Prop} {l0 : Nat} {l1 : Int32} {l2 : Int32} {M : Mem} (hk_l0 : SHk l0 = 9) (h : FX9_eat Q l0 l1 l2 M) : xM yX9_eat cX9_eat 4 none 2 [.ref l0, .int l1, .int l2] M (xQv Q) := xM_of (by decide +kernel) (Nat.le_of_ble_eq_true rfl) (eX9_eat hk_l0 h)
theorem kX9_eat {own : String} {cc : ByteArray} {nL : Nat} {rt : Option FieldType} {d pc ix : Nat} {L : List (Nat × Value)} {st : List Value} {M : Mem} {Rt : xGt → Array Value → State → Outcome → State → Prop} {Q : Mem → Prop} {l0 : Nat} {l1 : Int32} {l2 : Int32} (hd : decode cc pc = .ok (.invokevirtual ix, 3)) (q : Nat) (hq : pc + 3 = q) (hk_l0 : SHk l0 = 9) (w1 : Cond.methodLink own ix yX9_eat ∈ xTs) (hr : 2 < d) (hst : (st.map fun v => v.category).sum ≤ 8) (h : FX9_eat Q l0 l1 l2 M) (k : ∀ (N : Mem), Q N → xX own cc nL rt d q L st N Rt) : xX own cc nL rt d pc L (.int l2 :: .int l1 :: .ref l0 :: st) M Rt :=
  x_callV_v (n := 2) (As := [.int l1, .int l2]) hd q hq hk_l0 (by decide) rfl rfl w1 kw3_124 kw3_125 kw1_3 kw3_126 (by decide +kernel) rfl hr (by decide) hst _ rfl (cX9_eat_ hk_l0 h) k
def lbX0_lowerBasket_7 (Q : Mem → Prop) (l0 : Nat) (l1 : Nat) (B7 : Int32 → Mem → Prop) (l2 : Int32) (M : Mem) : Prop :=
  ((l2 < 0 → ∀ M1 : Mem, M1 = xu M l1 16 ((M l1 16) + (M l1 13)) → ∀ M2 : Mem, M2 = xu M1 l1 13 0 → Q M2) ∧ (¬ l2 < 0 → FX9_sitterOn (fun (r3 : Int32) => ((r3 = (-1) → B7 (l2 + (-1)) M) ∧ (¬ r3 = (-1) → FX2_tells (fun (r5 : Int32) (M4 : Mem) => FX9_eat (fun (M6 : Mem) => B7 (l2 + (-1)) M6) l1 r3 r5 M4) (l0 + 11) 0 l1 r3 M))) l1 l2 M))
def NX0_lowerBasket_7 (Q : Mem → Prop) (l0 : Nat) (l1 : Nat) (l2 : Int32) (M : Mem) : Prop := xlp (fun (B : Int32 × Mem → Prop) a => lbX0_lowerBasket_7 Q l0 l1 (fun l2 M => B (l2, M)) a.1 a.2) (l2, M)
theorem nX0_lowerBasket_7 {Q : Mem → Prop} {l0 : Nat} {l1 : Nat} {l2 : Int32} {M : Mem} (hk_l0 : SHk l0 = 0) (hk_l1 : SHk l1 = 9) (h : NX0_lowerBasket_7 Q l0 l1 l2 M) : xX RX0 cX0_lowerBasket 4 none 5 7 [(0, .ref l0), (1, .ref l1), (2, .int l2)] [] M (xQv Q) := by
  obtain ⟨n, h⟩ := h
  have hB7 : ∀ (n : Nat) (l2 : Int32) (M : Mem), xlpn (fun (B : Int32 × Mem → Prop) a => lbX0_lowerBasket_7 Q l0 l1 (fun l2 M => B (l2, M)) a.1 a.2) n (l2, M) → xX RX0 cX0_lowerBasket 4 none 5 7 [(0, .ref l0), (1, .ref l1), (2, .int l2)] [] M (xQv Q) := by
    intro n
    induction n with
    | zero => intro l2 M h; exact False.elim h
    | succ n ih =>
      intro l2 M h
      have hB7 := ih
      have h : lbX0_lowerBasket_7 Q l0 l1 (fun l2 M => xlpn (fun (B : Int32 × Mem → Prop) a => lbX0_lowerBasket_7 Q l0 l1 (fun l2 M => B (l2, M)) a.1 a.2) n (l2, M)) l2 M := h
      unfold lbX0_lowerBasket_7 at h
      refine x_iload_n dX0_lowerBasket_7 rfl 8 rfl ?_
      refine x_if_lt dX0_lowerBasket_8 43 11 rfl rfl (fun hc => ?_) (fun hc => ?_)
      · have h := h.1 hc
        refine x_aload_n dX0_lowerBasket_43 rfl 44 rfl ?_
        refine x_dup dX0_lowerBasket_44 rfl 45 rfl ?_
        refine gf9_16 dX0_lowerBasket_45 48 rfl hk_l1 kw1_91 ?_
        refine x_aload_n dX0_lowerBasket_48 rfl 49 rfl ?_
        refine gf9_13 dX0_lowerBasket_49 52 rfl hk_l1 kw1_79 ?_
        refine x_iadd dX0_lowerBasket_52 53 rfl ?_
        refine pf9_16 dX0_lowerBasket_53 56 rfl hk_l1 kw1_91 (x_mem (fun M1 hM1 => ?_))
        have h := h M1 hM1
        refine x_aload_n dX0_lowerBasket_56 rfl 57 rfl ?_
        refine x_iconst dX0_lowerBasket_57 kc_0 58 rfl ?_
        refine pf9_13 dX0_lowerBasket_58 61 rfl hk_l1 kw1_79 (x_mem (fun M2 hM2 => ?_))
        have h := h M2 hM2
        exact x_vret dX0_lowerBasket_61 h
      · have h := h.2 hc
        refine x_aload_n dX0_lowerBasket_11 rfl 12 rfl ?_
        refine x_iload_n dX0_lowerBasket_12 rfl 13 rfl ?_
        refine kX9_sitterOn dX0_lowerBasket_13 16 rfl hk_l1 kw3_83 (Nat.le_of_ble_eq_true rfl) (Nat.le_of_ble_eq_true rfl) h (fun r3 h => ?_)
        refine x_istore_n dX0_lowerBasket_16 (Nat.le_of_ble_eq_true rfl) [(0, .ref l0), (1, .ref l1), (2, .int l2), (3, .int r3)] rfl 17 rfl ?_
        refine x_iload_n dX0_lowerBasket_17 rfl 18 rfl ?_
        refine x_iconst dX0_lowerBasket_18 kc_m1 19 rfl ?_
        refine x_icmp_eq dX0_lowerBasket_19 37 22 rfl rfl (fun hc => ?_) (fun hc => ?_)
        · have h := h.1 hc
          refine x_iinc dX0_lowerBasket_37 rfl (congrArg (l2 + ·) kc_m1) (Nat.le_of_ble_eq_true rfl) [(0, .ref l0), (1, .ref l1), (2, .int (l2 + (-1))), (3, .int r3)] rfl 40 rfl ?_
          refine x_goto dX0_lowerBasket_40 7 rfl ?_
          refine x_weak [(0, .ref l0), (1, .ref l1), (2, .int (l2 + (-1)))] [0, 1, 2] rfl ?_
          exact hB7 _ _ h
        · have h := h.2 hc
          refine x_aload_n dX0_lowerBasket_22 rfl 23 rfl ?_
          refine x_iload_n dX0_lowerBasket_23 rfl 24 rfl ?_
          refine x_aload_n dX0_lowerBasket_24 rfl 25 rfl ?_
          refine gf0_1 dX0_lowerBasket_25 28 rfl hk_l0 kw2_11 ?_
          refine x_iconst dX0_lowerBasket_28 kc_0 29 rfl ?_
          refine x_aload_n dX0_lowerBasket_29 rfl 30 rfl ?_
          refine x_iload_n dX0_lowerBasket_30 rfl 31 rfl ?_
          refine kX2_tells dX0_lowerBasket_31 34 rfl (ly0_1 hk_l0).1 hk_l1 kw3_87 (Nat.le_of_ble_eq_true rfl) (Nat.le_of_ble_eq_true rfl) h (fun r5 M4 h => ?_)
          refine kX9_eat dX0_lowerBasket_34 37 rfl hk_l1 kw3_123 (Nat.le_of_ble_eq_true rfl) (Nat.le_of_ble_eq_true rfl) h (fun M6 h => ?_)
          refine x_iinc dX0_lowerBasket_37 rfl (congrArg (l2 + ·) kc_m1) (Nat.le_of_ble_eq_true rfl) [(0, .ref l0), (1, .ref l1), (2, .int (l2 + (-1))), (3, .int r3)] rfl 40 rfl ?_
          refine x_goto dX0_lowerBasket_40 7 rfl ?_
          refine x_weak [(0, .ref l0), (1, .ref l1), (2, .int (l2 + (-1)))] [0, 1, 2] rfl ?_
          exact hB7 _ _ h
  exact hB7 n l2 M h
def FX0_lowerBasket (Q : Mem → Prop) (l0 : Nat) (l1 : Nat) (M : Mem) : Prop :=
  NX0_lowerBasket_7 Q l0 l1 ((M l1 10) - 1) M
theorem eX0_lowerBasket {Q : Mem → Prop} {l0 : Nat} {l1 : Nat} {M : Mem} (hk_l0 : SHk l0 = 0) (hk_l1 : SHk l1 = 9) (h : FX0_lowerBasket Q l0 l1 M) : xX RX0 cX0_lowerBasket 4 none 5 0 [(0, .ref l0), (1, .ref l1)] [] M (xQv Q) := by
  unfold FX0_lowerBasket at h
  refine x_aload_n dX0_lowerBasket_0 rfl 1 rfl ?_
  refine gf9_10 dX0_lowerBasket_1 4 rfl hk_l1 kw1_71 ?_
  refine x_iconst dX0_lowerBasket_4 kc_1 5 rfl ?_
  refine x_isub dX0_lowerBasket_5 6 rfl ?_
  refine x_istore_n dX0_lowerBasket_6 (Nat.le_of_ble_eq_true rfl) [(0, .ref l0), (1, .ref l1), (2, .int ((M l1 10) - 1))] rfl 7 rfl ?_
  exact nX0_lowerBasket_7 hk_l0 hk_l1 h
theorem cX0_lowerBasket_ {Q : Mem → Prop} {l0 : Nat} {l1 : Nat} {M : Mem} (hk_l0 : SHk l0 = 0) (hk_l1 : SHk l1 = 9) (h : FX0_lowerBasket Q l0 l1 M) : xM yX0_lowerBasket cX0_lowerBasket 4 none 5 [.ref l0, .ref l1] M (xQv Q) := xM_of (by decide +kernel) (Nat.le_of_ble_eq_true rfl) (eX0_lowerBasket hk_l0 hk_l1 h)
theorem kX0_lowerBasket {own : String} {cc : ByteArray} {nL : Nat} {rt : Option FieldType} {d pc ix : Nat} {L : List (Nat × Value)} {st : List Value} {M : Mem} {Rt : xGt → Array Value → State → Outcome → State → Prop} {Q : Mem → Prop} {l0 : Nat} {l1 : Nat} (hd : decode cc pc = .ok (.invokevirtual ix, 3)) (q : Nat) (hq : pc + 3 = q) (hk_l0 : SHk l0 = 0) (hk_l1 : SHk l1 = 9) (w1 : Cond.methodLink own ix yX0_lowerBasket ∈ xTs) (hr : 5 < d) (hst : (st.map fun v => v.category).sum ≤ 8) (h : FX0_lowerBasket Q l0 l1 M) (k : ∀ (N : Mem), Q N → xX own cc nL rt d q L st N Rt) : xX own cc nL rt d pc L (.ref l1 :: .ref l0 :: st) M Rt :=
  x_callV_v (n := 1) (As := [.ref l1]) hd q hq hk_l0 (by decide) rfl rfl w1 kw3_81 ks1_5 kw1_2 kw3_82 (by decide +kernel) rfl hr (by decide) hst _ rfl (cX0_lowerBasket_ hk_l0 hk_l1 h) k
def FX9_curse (Q : Mem → Prop) (l0 : Nat) (l1 : Int32) (M : Mem) : Prop :=
  FX9_isSaint (fun (r1 : Bool) => ((r1 = false → Q M) ∧ (r1 = true → FX9_isDead (fun (r2 : Bool) => ((r2 = true → Q M) ∧ (r2 = false → vp_in l1 14 ∧ ∀ M3 : Mem, M3 = xu M (l0 + 7) (ix l1) 99 → Q M3))) l0 l1 M))) l0 l1 M
theorem eX9_curse {Q : Mem → Prop} {l0 : Nat} {l1 : Int32} {M : Mem} (hk_l0 : SHk l0 = 9) (h : FX9_curse Q l0 l1 M) : xX RX9 cX9_curse 2 none 2 0 [(0, .ref l0), (1, .int l1)] [] M (xQv Q) := by
  unfold FX9_curse at h
  refine x_aload_n dX9_curse_0 rfl 1 rfl ?_
  refine x_iload_n dX9_curse_1 rfl 2 rfl ?_
  refine kX9_isSaint dX9_curse_2 5 rfl hk_l0 kw2_233 (Nat.le_of_ble_eq_true rfl) (Nat.le_of_ble_eq_true rfl) h (fun r1 h => ?_)
  refine x_if_eq_b dX9_curse_5 24 8 rfl rfl (fun hc => ?_) (fun hc => ?_)
  · have h := h.1 hc
    exact x_vret dX9_curse_24 h
  · have h := h.2 hc
    refine x_aload_n dX9_curse_8 rfl 9 rfl ?_
    refine x_iload_n dX9_curse_9 rfl 10 rfl ?_
    refine kX9_isDead dX9_curse_10 13 rfl hk_l0 kw3_71 (Nat.le_of_ble_eq_true rfl) (Nat.le_of_ble_eq_true rfl) h (fun r2 h => ?_)
    refine x_if_ne_b dX9_curse_13 24 16 rfl rfl (fun hc => ?_) (fun hc => ?_)
    · have h := h.1 hc
      exact x_vret dX9_curse_24 h
    · have h := h.2 hc
      refine x_aload_n dX9_curse_16 rfl 17 rfl ?_
      refine gf9_7 dX9_curse_17 20 rfl hk_l0 kw1_63 ?_
      refine x_iload_n dX9_curse_20 rfl 21 rfl ?_
      refine x_bipush dX9_curse_21 kb_99 23 rfl ?_
      obtain ⟨hin, h⟩ := h
      refine x_iastore dX9_curse_23 (ly9_7 hk_l0) hin 24 rfl (x_mem (fun M3 hM3 => ?_))
      have h := h M3 hM3
      exact x_vret dX9_curse_24 h
theorem cX9_curse_ {Q : Mem → Prop} {l0 : Nat} {l1 : Int32} {M : Mem} (hk_l0 : SHk l0 = 9) (h : FX9_curse Q l0 l1 M) : xM yX9_curse cX9_curse 2 none 2 [.ref l0, .int l1] M (xQv Q) := xM_of (by decide +kernel) (Nat.le_of_ble_eq_true rfl) (eX9_curse hk_l0 h)
theorem kX9_curse {own : String} {cc : ByteArray} {nL : Nat} {rt : Option FieldType} {d pc ix : Nat} {L : List (Nat × Value)} {st : List Value} {M : Mem} {Rt : xGt → Array Value → State → Outcome → State → Prop} {Q : Mem → Prop} {l0 : Nat} {l1 : Int32} (hd : decode cc pc = .ok (.invokevirtual ix, 3)) (q : Nat) (hq : pc + 3 = q) (hk_l0 : SHk l0 = 9) (w1 : Cond.methodLink own ix yX9_curse ∈ xTs) (hr : 2 < d) (hst : (st.map fun v => v.category).sum ≤ 8) (h : FX9_curse Q l0 l1 M) (k : ∀ (N : Mem), Q N → xX own cc nL rt d q L st N Rt) : xX own cc nL rt d pc L (.int l1 :: .ref l0 :: st) M Rt :=
  x_callV_v (n := 1) (As := [.int l1]) hd q hq hk_l0 (by decide) rfl rfl w1 kw3_68 kw3_69 kw1_3 kw3_70 (by decide +kernel) rfl hr (by decide) hst _ rfl (cX9_curse_ hk_l0 h) k
def lbX9_nextBelow_4 (Q : Int32 → Mem → Prop) (l0 : Nat) (M : Mem) (B4 : Int32 → Prop) (l2 : Int32) : Prop :=
  ((l2 < 0 → ((¬ (M l0 9) = 0 → FX9_leaveGround (fun (M1 : Mem) => Q (M (l0 + 8) 0) M1) l0 0 M) ∧ ((M l0 9) = 0 → Q (-1) M))) ∧ (¬ l2 < 0 → vp_in l2 10 ∧ (((M (l0 + 2) (ix l2)) = (-1) → B4 (l2 + (-1))) ∧ (¬ (M (l0 + 2) (ix l2)) = (-1) → vp_in l2 10 ∧ ∀ M2 : Mem, M2 = xu M (l0 + 2) (ix l2) (-1) → Q (M (l0 + 2) (ix l2)) M2))))
def NX9_nextBelow_4 (Q : Int32 → Mem → Prop) (l0 : Nat) (l2 : Int32) (M : Mem) : Prop := xlp (fun (B : Int32 → Prop) a => lbX9_nextBelow_4 Q l0 M (fun l2 => B (l2)) a) (l2)
theorem nX9_nextBelow_4 {Q : Int32 → Mem → Prop} {l0 : Nat} {l2 : Int32} {M : Mem} (hk_l0 : SHk l0 = 9) (h : NX9_nextBelow_4 Q l0 l2 M) : xX RX9 cX9_nextBelow 4 (some .int) 2 4 [(0, .ref l0), (2, .int l2)] [] M (xQi Q) := by
  obtain ⟨n, h⟩ := h
  have hB4 : ∀ (n : Nat) (l2 : Int32), xlpn (fun (B : Int32 → Prop) a => lbX9_nextBelow_4 Q l0 M (fun l2 => B (l2)) a) n (l2) → xX RX9 cX9_nextBelow 4 (some .int) 2 4 [(0, .ref l0), (2, .int l2)] [] M (xQi Q) := by
    intro n
    induction n with
    | zero => intro l2 h; exact False.elim h
    | succ n ih =>
      intro l2 h
      have hB4 := ih
      have h : lbX9_nextBelow_4 Q l0 M (fun l2 => xlpn (fun (B : Int32 → Prop) a => lbX9_nextBelow_4 Q l0 M (fun l2 => B (l2)) a) n (l2)) l2 := h
      unfold lbX9_nextBelow_4 at h
      refine x_iload_n dX9_nextBelow_4 rfl 5 rfl ?_
      refine x_if_lt dX9_nextBelow_5 35 8 rfl rfl (fun hc => ?_) (fun hc => ?_)
      · have h := h.1 hc
        refine x_aload_n dX9_nextBelow_35 rfl 36 rfl ?_
        refine gf9_9 dX9_nextBelow_36 39 rfl hk_l0 kw1_66 ?_
        refine x_if_ne dX9_nextBelow_39 44 42 rfl rfl (fun hc => ?_) (fun hc => ?_)
        · have h := h.1 hc
          refine x_aload_n dX9_nextBelow_44 rfl 45 rfl ?_
          refine gf9_8 dX9_nextBelow_45 48 rfl hk_l0 kw1_65 ?_
          refine x_iconst dX9_nextBelow_48 kc_0 49 rfl ?_
          refine x_iaload dX9_nextBelow_49 (ly9_8 hk_l0) (by unfold vp_in; decide) 50 rfl ?_
          refine x_istore_n dX9_nextBelow_50 (Nat.le_of_ble_eq_true rfl) [(0, .ref l0), (2, .int (M (l0 + 8) 0))] rfl 51 rfl ?_
          refine x_aload_n dX9_nextBelow_51 rfl 52 rfl ?_
          refine x_iconst dX9_nextBelow_52 kc_0 53 rfl ?_
          refine kX9_leaveGround dX9_nextBelow_53 56 rfl hk_l0 kw2_201 (Nat.le_of_ble_eq_true rfl) (Nat.le_of_ble_eq_true rfl) h (fun M1 h => ?_)
          refine x_iload_n dX9_nextBelow_56 rfl 57 rfl ?_
          exact x_iret dX9_nextBelow_57 h
        · have h := h.2 hc
          refine x_iconst dX9_nextBelow_42 kc_m1 43 rfl ?_
          exact x_iret dX9_nextBelow_43 h
      · have h := h.2 hc
        refine x_aload_n dX9_nextBelow_8 rfl 9 rfl ?_
        refine gf9_2 dX9_nextBelow_9 12 rfl hk_l0 kw1_50 ?_
        refine x_iload_n dX9_nextBelow_12 rfl 13 rfl ?_
        obtain ⟨hin, h⟩ := h
        refine x_iaload dX9_nextBelow_13 (ly9_2 hk_l0) hin 14 rfl ?_
        refine x_istore_n dX9_nextBelow_14 (Nat.le_of_ble_eq_true rfl) [(0, .ref l0), (2, .int l2), (3, .int (M (l0 + 2) (ix l2)))] rfl 15 rfl ?_
        refine x_iload_n dX9_nextBelow_15 rfl 16 rfl ?_
        refine x_iconst dX9_nextBelow_16 kc_m1 17 rfl ?_
        refine x_icmp_eq dX9_nextBelow_17 29 20 rfl rfl (fun hc => ?_) (fun hc => ?_)
        · have h := h.1 hc
          refine x_iinc dX9_nextBelow_29 rfl (congrArg (l2 + ·) kc_m1) (Nat.le_of_ble_eq_true rfl) [(0, .ref l0), (2, .int (l2 + (-1))), (3, .int (M (l0 + 2) (ix l2)))] rfl 32 rfl ?_
          refine x_goto dX9_nextBelow_32 4 rfl ?_
          refine x_weak [(0, .ref l0), (2, .int (l2 + (-1)))] [0, 1] rfl ?_
          exact hB4 _ h
        · have h := h.2 hc
          refine x_aload_n dX9_nextBelow_20 rfl 21 rfl ?_
          refine gf9_2 dX9_nextBelow_21 24 rfl hk_l0 kw1_50 ?_
          refine x_iload_n dX9_nextBelow_24 rfl 25 rfl ?_
          refine x_iconst dX9_nextBelow_25 kc_m1 26 rfl ?_
          obtain ⟨hin, h⟩ := h
          refine x_iastore dX9_nextBelow_26 (ly9_2 hk_l0) hin 27 rfl (x_mem (fun M2 hM2 => ?_))
          have h := h M2 hM2
          refine x_iload_n dX9_nextBelow_27 rfl 28 rfl ?_
          exact x_iret dX9_nextBelow_28 h
  exact hB4 n l2 h
def FX9_nextBelow (Q : Int32 → Mem → Prop) (l0 : Nat) (l1 : Int32) (M : Mem) : Prop :=
  NX9_nextBelow_4 Q l0 (l1 - 1) M
theorem eX9_nextBelow {Q : Int32 → Mem → Prop} {l0 : Nat} {l1 : Int32} {M : Mem} (hk_l0 : SHk l0 = 9) (h : FX9_nextBelow Q l0 l1 M) : xX RX9 cX9_nextBelow 4 (some .int) 2 0 [(0, .ref l0), (1, .int l1)] [] M (xQi Q) := by
  unfold FX9_nextBelow at h
  refine x_iload_n dX9_nextBelow_0 rfl 1 rfl ?_
  refine x_iconst dX9_nextBelow_1 kc_1 2 rfl ?_
  refine x_isub dX9_nextBelow_2 3 rfl ?_
  refine x_istore_n dX9_nextBelow_3 (Nat.le_of_ble_eq_true rfl) [(0, .ref l0), (1, .int l1), (2, .int (l1 - 1))] rfl 4 rfl ?_
  refine x_weak [(0, .ref l0), (2, .int (l1 - 1))] [0, 2] rfl ?_
  exact nX9_nextBelow_4 hk_l0 h
theorem cX9_nextBelow_ {Q : Int32 → Mem → Prop} {l0 : Nat} {l1 : Int32} {M : Mem} (hk_l0 : SHk l0 = 9) (h : FX9_nextBelow Q l0 l1 M) : xM yX9_nextBelow cX9_nextBelow 4 (some .int) 2 [.ref l0, .int l1] M (xQi Q) := xM_of (by decide +kernel) (Nat.le_of_ble_eq_true rfl) (eX9_nextBelow hk_l0 h)
theorem kX9_nextBelow {own : String} {cc : ByteArray} {nL : Nat} {rt : Option FieldType} {d pc ix : Nat} {L : List (Nat × Value)} {st : List Value} {M : Mem} {Rt : xGt → Array Value → State → Outcome → State → Prop} {Q : Int32 → Mem → Prop} {l0 : Nat} {l1 : Int32} (hd : decode cc pc = .ok (.invokevirtual ix, 3)) (q : Nat) (hq : pc + 3 = q) (hk_l0 : SHk l0 = 9) (w1 : Cond.methodLink own ix yX9_nextBelow ∈ xTs) (hr : 2 < d) (hst : (st.map fun v => v.category).sum ≤ 8) (h : FX9_nextBelow Q l0 l1 M) (k : ∀ (r : Int32) (N : Mem), Q r N → xX own cc nL rt d q L (.int r :: st) N Rt) : xX own cc nL rt d pc L (.int l1 :: .ref l0 :: st) M Rt :=
  x_callV_i (n := 1) (As := [.int l1]) hd q hq hk_l0 (by decide) rfl rfl w1 kw2_199 ks1_0 kw1_3 kw2_200 (by decide +kernel) rfl hr (by decide) hst _ rfl (cX9_nextBelow_ hk_l0 h) k
def lbX9_climb_7 (Q : Mem → Prop) (l0 : Nat) (B7 : Int32 → Mem → Prop) (l1 : Int32) (M : Mem) : Prop :=
  ((l1 < 0 → Q M) ∧ (¬ l1 < 0 → vp_in l1 10 ∧ ((¬ (M (l0 + 2) (ix l1)) = (-1) → B7 (l1 + (-1)) M) ∧ ((M (l0 + 2) (ix l1)) = (-1) → FX9_nextBelow (fun (r2 : Int32) (M1 : Mem) => ((¬ r2 = (-1) → vp_in l1 10 ∧ ∀ M3 : Mem, M3 = xu M1 (l0 + 2) (ix l1) r2 → FX9_note (fun (M4 : Mem) => B7 (l1 + (-1)) M4) l0 2 r2 l1 M3) ∧ (r2 = (-1) → Q M1))) l0 l1 M))))
def NX9_climb_7 (Q : Mem → Prop) (l0 : Nat) (l1 : Int32) (M : Mem) : Prop := xlp (fun (B : Int32 × Mem → Prop) a => lbX9_climb_7 Q l0 (fun l1 M => B (l1, M)) a.1 a.2) (l1, M)
theorem nX9_climb_7 {Q : Mem → Prop} {l0 : Nat} {l1 : Int32} {M : Mem} (hk_l0 : SHk l0 = 9) (h : NX9_climb_7 Q l0 l1 M) : xX RX9 cX9_climb 3 none 3 7 [(0, .ref l0), (1, .int l1)] [] M (xQv Q) := by
  obtain ⟨n, h⟩ := h
  have hB7 : ∀ (n : Nat) (l1 : Int32) (M : Mem), xlpn (fun (B : Int32 × Mem → Prop) a => lbX9_climb_7 Q l0 (fun l1 M => B (l1, M)) a.1 a.2) n (l1, M) → xX RX9 cX9_climb 3 none 3 7 [(0, .ref l0), (1, .int l1)] [] M (xQv Q) := by
    intro n
    induction n with
    | zero => intro l1 M h; exact False.elim h
    | succ n ih =>
      intro l1 M h
      have hB7 := ih
      have h : lbX9_climb_7 Q l0 (fun l1 M => xlpn (fun (B : Int32 × Mem → Prop) a => lbX9_climb_7 Q l0 (fun l1 M => B (l1, M)) a.1 a.2) n (l1, M)) l1 M := h
      unfold lbX9_climb_7 at h
      refine x_iload_n dX9_climb_7 rfl 8 rfl ?_
      refine x_if_lt dX9_climb_8 53 11 rfl rfl (fun hc => ?_) (fun hc => ?_)
      · have h := h.1 hc
        exact x_vret dX9_climb_53 h
      · have h := h.2 hc
        refine x_aload_n dX9_climb_11 rfl 12 rfl ?_
        refine gf9_2 dX9_climb_12 15 rfl hk_l0 kw1_50 ?_
        refine x_iload_n dX9_climb_15 rfl 16 rfl ?_
        obtain ⟨hin, h⟩ := h
        refine x_iaload dX9_climb_16 (ly9_2 hk_l0) hin 17 rfl ?_
        refine x_iconst dX9_climb_17 kc_m1 18 rfl ?_
        refine x_icmp_ne dX9_climb_18 47 21 rfl rfl (fun hc => ?_) (fun hc => ?_)
        · have h := h.1 hc
          refine x_iinc dX9_climb_47 rfl (congrArg (l1 + ·) kc_m1) (Nat.le_of_ble_eq_true rfl) [(0, .ref l0), (1, .int (l1 + (-1)))] rfl 50 rfl ?_
          refine x_goto dX9_climb_50 7 rfl ?_
          exact hB7 _ _ h
        · have h := h.2 hc
          refine x_aload_n dX9_climb_21 rfl 22 rfl ?_
          refine x_iload_n dX9_climb_22 rfl 23 rfl ?_
          refine kX9_nextBelow dX9_climb_23 26 rfl hk_l0 kw2_197 (Nat.le_of_ble_eq_true rfl) (Nat.le_of_ble_eq_true rfl) h (fun r2 M1 h => ?_)
          refine x_istore_n dX9_climb_26 (Nat.le_of_ble_eq_true rfl) [(0, .ref l0), (1, .int l1), (2, .int r2)] rfl 27 rfl ?_
          refine x_iload_n dX9_climb_27 rfl 28 rfl ?_
          refine x_iconst dX9_climb_28 kc_m1 29 rfl ?_
          refine x_icmp_ne dX9_climb_29 33 32 rfl rfl (fun hc => ?_) (fun hc => ?_)
          · have h := h.1 hc
            refine x_aload_n dX9_climb_33 rfl 34 rfl ?_
            refine gf9_2 dX9_climb_34 37 rfl hk_l0 kw1_50 ?_
            refine x_iload_n dX9_climb_37 rfl 38 rfl ?_
            refine x_iload_n dX9_climb_38 rfl 39 rfl ?_
            obtain ⟨hin, h⟩ := h
            refine x_iastore dX9_climb_39 (ly9_2 hk_l0) hin 40 rfl (x_mem (fun M3 hM3 => ?_))
            have h := h M3 hM3
            refine x_aload_n dX9_climb_40 rfl 41 rfl ?_
            refine x_iconst dX9_climb_41 kc_2 42 rfl ?_
            refine x_iload_n dX9_climb_42 rfl 43 rfl ?_
            refine x_iload_n dX9_climb_43 rfl 44 rfl ?_
            refine kX9_note dX9_climb_44 47 rfl hk_l0 kw2_205 (Nat.le_of_ble_eq_true rfl) (Nat.le_of_ble_eq_true rfl) h (fun M4 h => ?_)
            refine x_iinc dX9_climb_47 rfl (congrArg (l1 + ·) kc_m1) (Nat.le_of_ble_eq_true rfl) [(0, .ref l0), (1, .int (l1 + (-1))), (2, .int r2)] rfl 50 rfl ?_
            refine x_goto dX9_climb_50 7 rfl ?_
            refine x_weak [(0, .ref l0), (1, .int (l1 + (-1)))] [0, 1] rfl ?_
            exact hB7 _ _ h
          · have h := h.2 hc
            exact x_vret dX9_climb_32 h
  exact hB7 n l1 M h
def FX9_climb (Q : Mem → Prop) (l0 : Nat) (M : Mem) : Prop :=
  NX9_climb_7 Q l0 ((M l0 10) - 1) M
theorem eX9_climb {Q : Mem → Prop} {l0 : Nat} {M : Mem} (hk_l0 : SHk l0 = 9) (h : FX9_climb Q l0 M) : xX RX9 cX9_climb 3 none 3 0 [(0, .ref l0)] [] M (xQv Q) := by
  unfold FX9_climb at h
  refine x_aload_n dX9_climb_0 rfl 1 rfl ?_
  refine gf9_10 dX9_climb_1 4 rfl hk_l0 kw1_68 ?_
  refine x_iconst dX9_climb_4 kc_1 5 rfl ?_
  refine x_isub dX9_climb_5 6 rfl ?_
  refine x_istore_n dX9_climb_6 (Nat.le_of_ble_eq_true rfl) [(0, .ref l0), (1, .int ((M l0 10) - 1))] rfl 7 rfl ?_
  exact nX9_climb_7 hk_l0 h
theorem cX9_climb_ {Q : Mem → Prop} {l0 : Nat} {M : Mem} (hk_l0 : SHk l0 = 9) (h : FX9_climb Q l0 M) : xM yX9_climb cX9_climb 3 none 3 [.ref l0] M (xQv Q) := xM_of (by decide +kernel) (Nat.le_of_ble_eq_true rfl) (eX9_climb hk_l0 h)
theorem kX9_climb {own : String} {cc : ByteArray} {nL : Nat} {rt : Option FieldType} {d pc ix : Nat} {L : List (Nat × Value)} {st : List Value} {M : Mem} {Rt : xGt → Array Value → State → Outcome → State → Prop} {Q : Mem → Prop} {l0 : Nat} (hd : decode cc pc = .ok (.invokevirtual ix, 3)) (q : Nat) (hq : pc + 3 = q) (hk_l0 : SHk l0 = 9) (w1 : Cond.methodLink own ix yX9_climb ∈ xTs) (hr : 3 < d) (hst : (st.map fun v => v.category).sum ≤ 8) (h : FX9_climb Q l0 M) (k : ∀ (N : Mem), Q N → xX own cc nL rt d q L st N Rt) : xX own cc nL rt d pc L (.ref l0 :: st) M Rt :=
  x_callV_v (n := 0) (As := []) hd q hq hk_l0 (by decide) rfl rfl w1 kw2_194 kw2_195 kw1_3 kw2_196 (by decide +kernel) rfl hr (by decide) hst _ rfl (cX9_climb_ hk_l0 h) k
def FX9_joinGround (Q : Mem → Prop) (l0 : Nat) (l1 : Int32) (M : Mem) : Prop :=
  ((14 ≤ (M l0 9) → Q M) ∧ (¬ 14 ≤ (M l0 9) → vp_in (M l0 9) 14 ∧ ∀ M1 : Mem, M1 = xu M (l0 + 8) (ix (M l0 9)) l1 → ∀ M2 : Mem, M2 = xu M1 l0 9 ((M1 l0 9) + 1) → Q M2))
theorem eX9_joinGround {Q : Mem → Prop} {l0 : Nat} {l1 : Int32} {M : Mem} (hk_l0 : SHk l0 = 9) (h : FX9_joinGround Q l0 l1 M) : xX RX9 cX9_joinGround 2 none 1 0 [(0, .ref l0), (1, .int l1)] [] M (xQv Q) := by
  unfold FX9_joinGround at h
  refine x_aload_n dX9_joinGround_0 rfl 1 rfl ?_
  refine gf9_9 dX9_joinGround_1 4 rfl hk_l0 kw1_66 ?_
  refine x_bipush dX9_joinGround_4 kb_14 6 rfl ?_
  refine x_icmp_ge dX9_joinGround_6 29 9 rfl rfl (fun hc => ?_) (fun hc => ?_)
  · have h := h.1 hc
    exact x_vret dX9_joinGround_29 h
  · have h := h.2 hc
    refine x_aload_n dX9_joinGround_9 rfl 10 rfl ?_
    refine gf9_8 dX9_joinGround_10 13 rfl hk_l0 kw1_65 ?_
    refine x_aload_n dX9_joinGround_13 rfl 14 rfl ?_
    refine gf9_9 dX9_joinGround_14 17 rfl hk_l0 kw1_66 ?_
    refine x_iload_n dX9_joinGround_17 rfl 18 rfl ?_
    obtain ⟨hin, h⟩ := h
    refine x_iastore dX9_joinGround_18 (ly9_8 hk_l0) hin 19 rfl (x_mem (fun M1 hM1 => ?_))
    have h := h M1 hM1
    refine x_aload_n dX9_joinGround_19 rfl 20 rfl ?_
    refine x_dup dX9_joinGround_20 rfl 21 rfl ?_
    refine gf9_9 dX9_joinGround_21 24 rfl hk_l0 kw1_66 ?_
    refine x_iconst dX9_joinGround_24 kc_1 25 rfl ?_
    refine x_iadd dX9_joinGround_25 26 rfl ?_
    refine pf9_9 dX9_joinGround_26 29 rfl hk_l0 kw1_66 (x_mem (fun M2 hM2 => ?_))
    have h := h M2 hM2
    exact x_vret dX9_joinGround_29 h
theorem cX9_joinGround_ {Q : Mem → Prop} {l0 : Nat} {l1 : Int32} {M : Mem} (hk_l0 : SHk l0 = 9) (h : FX9_joinGround Q l0 l1 M) : xM yX9_joinGround cX9_joinGround 2 none 1 [.ref l0, .int l1] M (xQv Q) := xM_of (by decide +kernel) (Nat.le_of_ble_eq_true rfl) (eX9_joinGround hk_l0 h)
theorem kX9_joinGround {own : String} {cc : ByteArray} {nL : Nat} {rt : Option FieldType} {d pc ix : Nat} {L : List (Nat × Value)} {st : List Value} {M : Mem} {Rt : xGt → Array Value → State → Outcome → State → Prop} {Q : Mem → Prop} {l0 : Nat} {l1 : Int32} (hd : decode cc pc = .ok (.invokevirtual ix, 3)) (q : Nat) (hq : pc + 3 = q) (hk_l0 : SHk l0 = 9) (w1 : Cond.methodLink own ix yX9_joinGround ∈ xTs) (hr : 1 < d) (hst : (st.map fun v => v.category).sum ≤ 8) (h : FX9_joinGround Q l0 l1 M) (k : ∀ (N : Mem), Q N → xX own cc nL rt d q L st N Rt) : xX own cc nL rt d pc L (.int l1 :: .ref l0 :: st) M Rt :=
  x_callV_v (n := 1) (As := [.int l1]) hd q hq hk_l0 (by decide) rfl rfl w1 kw2_222 ks1_2 kw1_3 kw2_223 (by decide +kernel) rfl hr (by decide) hst _ rfl (cX9_joinGround_ hk_l0 h) k
def FX9_goDown (Q : Mem → Prop) (l0 : Nat) (l1 : Int32) (M : Mem) : Prop :=
  FX9_pillarOf (fun (r1 : Int32) => ((r1 = (-1) → Q M) ∧ (¬ r1 = (-1) → FX9_note (fun (M2 : Mem) => vp_in r1 10 ∧ ∀ M3 : Mem, M3 = xu M2 (l0 + 2) (ix r1) (-1) → FX9_joinGround (fun (M4 : Mem) => FX9_climb (fun (M5 : Mem) => Q M5) l0 M4) l0 l1 M3) l0 3 l1 r1 M))) l0 l1 M
theorem eX9_goDown {Q : Mem → Prop} {l0 : Nat} {l1 : Int32} {M : Mem} (hk_l0 : SHk l0 = 9) (h : FX9_goDown Q l0 l1 M) : xX RX9 cX9_goDown 3 none 4 0 [(0, .ref l0), (1, .int l1)] [] M (xQv Q) := by
  unfold FX9_goDown at h
  refine x_aload_n dX9_goDown_0 rfl 1 rfl ?_
  refine x_iload_n dX9_goDown_1 rfl 2 rfl ?_
  refine kX9_pillarOf dX9_goDown_2 5 rfl hk_l0 kw3_9 (Nat.le_of_ble_eq_true rfl) (Nat.le_of_ble_eq_true rfl) h (fun r1 h => ?_)
  refine x_istore_n dX9_goDown_5 (Nat.le_of_ble_eq_true rfl) [(0, .ref l0), (1, .int l1), (2, .int r1)] rfl 6 rfl ?_
  refine x_iload_n dX9_goDown_6 rfl 7 rfl ?_
  refine x_iconst dX9_goDown_7 kc_m1 8 rfl ?_
  refine x_icmp_eq dX9_goDown_8 34 11 rfl rfl (fun hc => ?_) (fun hc => ?_)
  · have h := h.1 hc
    exact x_vret dX9_goDown_34 h
  · have h := h.2 hc
    refine x_aload_n dX9_goDown_11 rfl 12 rfl ?_
    refine x_iconst dX9_goDown_12 kc_3 13 rfl ?_
    refine x_iload_n dX9_goDown_13 rfl 14 rfl ?_
    refine x_iload_n dX9_goDown_14 rfl 15 rfl ?_
    refine kX9_note dX9_goDown_15 18 rfl hk_l0 kw2_205 (Nat.le_of_ble_eq_true rfl) (Nat.le_of_ble_eq_true rfl) h (fun M2 h => ?_)
    refine x_aload_n dX9_goDown_18 rfl 19 rfl ?_
    refine gf9_2 dX9_goDown_19 22 rfl hk_l0 kw1_50 ?_
    refine x_iload_n dX9_goDown_22 rfl 23 rfl ?_
    refine x_iconst dX9_goDown_23 kc_m1 24 rfl ?_
    obtain ⟨hin, h⟩ := h
    refine x_iastore dX9_goDown_24 (ly9_2 hk_l0) hin 25 rfl (x_mem (fun M3 hM3 => ?_))
    have h := h M3 hM3
    refine x_aload_n dX9_goDown_25 rfl 26 rfl ?_
    refine x_iload_n dX9_goDown_26 rfl 27 rfl ?_
    refine kX9_joinGround dX9_goDown_27 30 rfl hk_l0 kw2_220 (Nat.le_of_ble_eq_true rfl) (Nat.le_of_ble_eq_true rfl) h (fun M4 h => ?_)
    refine x_aload_n dX9_goDown_30 rfl 31 rfl ?_
    refine kX9_climb dX9_goDown_31 34 rfl hk_l0 kw2_193 (Nat.le_of_ble_eq_true rfl) (Nat.le_of_ble_eq_true rfl) h (fun M5 h => ?_)
    exact x_vret dX9_goDown_34 h
theorem cX9_goDown_ {Q : Mem → Prop} {l0 : Nat} {l1 : Int32} {M : Mem} (hk_l0 : SHk l0 = 9) (h : FX9_goDown Q l0 l1 M) : xM yX9_goDown cX9_goDown 3 none 4 [.ref l0, .int l1] M (xQv Q) := xM_of (by decide +kernel) (Nat.le_of_ble_eq_true rfl) (eX9_goDown hk_l0 h)
theorem kX9_goDown {own : String} {cc : ByteArray} {nL : Nat} {rt : Option FieldType} {d pc ix : Nat} {L : List (Nat × Value)} {st : List Value} {M : Mem} {Rt : xGt → Array Value → State → Outcome → State → Prop} {Q : Mem → Prop} {l0 : Nat} {l1 : Int32} (hd : decode cc pc = .ok (.invokevirtual ix, 3)) (q : Nat) (hq : pc + 3 = q) (hk_l0 : SHk l0 = 9) (w1 : Cond.methodLink own ix yX9_goDown ∈ xTs) (hr : 4 < d) (hst : (st.map fun v => v.category).sum ≤ 8) (h : FX9_goDown Q l0 l1 M) (k : ∀ (N : Mem), Q N → xX own cc nL rt d q L st N Rt) : xX own cc nL rt d pc L (.int l1 :: .ref l0 :: st) M Rt :=
  x_callV_v (n := 1) (As := [.int l1]) hd q hq hk_l0 (by decide) rfl rfl w1 kw3_41 kw3_42 kw1_3 kw3_43 (by decide +kernel) rfl hr (by decide) hst _ rfl (cX9_goDown_ hk_l0 h) k
def FX9_raise (Q : Mem → Prop) (l0 : Nat) (l1 : Int32) (l2 : Int32) (M : Mem) : Prop :=
  FX9_isPillar (fun (r1 : Bool) => ((r1 = false → Q M) ∧ (r1 = true → vp_in l1 10 ∧ ∀ M2 : Mem, M2 = xu M (l0 + 1) (ix l1) l2 → Q M2))) l0 l1 M
theorem eX9_raise {Q : Mem → Prop} {l0 : Nat} {l1 : Int32} {l2 : Int32} {M : Mem} (hk_l0 : SHk l0 = 9) (h : FX9_raise Q l0 l1 l2 M) : xX RX9 cX9_raise 3 none 2 0 [(0, .ref l0), (1, .int l1), (2, .int l2)] [] M (xQv Q) := by
  unfold FX9_raise at h
  refine x_aload_n dX9_raise_0 rfl 1 rfl ?_
  refine x_iload_n dX9_raise_1 rfl 2 rfl ?_
  refine kX9_isPillar dX9_raise_2 5 rfl hk_l0 kw3_13 (Nat.le_of_ble_eq_true rfl) (Nat.le_of_ble_eq_true rfl) h (fun r1 h => ?_)
  refine x_if_eq_b dX9_raise_5 15 8 rfl rfl (fun hc => ?_) (fun hc => ?_)
  · have h := h.1 hc
    exact x_vret dX9_raise_15 h
  · have h := h.2 hc
    refine x_aload_n dX9_raise_8 rfl 9 rfl ?_
    refine gf9_1 dX9_raise_9 12 rfl hk_l0 kw1_46 ?_
    refine x_iload_n dX9_raise_12 rfl 13 rfl ?_
    refine x_iload_n dX9_raise_13 rfl 14 rfl ?_
    obtain ⟨hin, h⟩ := h
    refine x_iastore dX9_raise_14 (ly9_1 hk_l0) hin 15 rfl (x_mem (fun M2 hM2 => ?_))
    have h := h M2 hM2
    exact x_vret dX9_raise_15 h
theorem cX9_raise_ {Q : Mem → Prop} {l0 : Nat} {l1 : Int32} {l2 : Int32} {M : Mem} (hk_l0 : SHk l0 = 9) (h : FX9_raise Q l0 l1 l2 M) : xM yX9_raise cX9_raise 3 none 2 [.ref l0, .int l1, .int l2] M (xQv Q) := xM_of (by decide +kernel) (Nat.le_of_ble_eq_true rfl) (eX9_raise hk_l0 h)
theorem kX9_raise {own : String} {cc : ByteArray} {nL : Nat} {rt : Option FieldType} {d pc ix : Nat} {L : List (Nat × Value)} {st : List Value} {M : Mem} {Rt : xGt → Array Value → State → Outcome → State → Prop} {Q : Mem → Prop} {l0 : Nat} {l1 : Int32} {l2 : Int32} (hd : decode cc pc = .ok (.invokevirtual ix, 3)) (q : Nat) (hq : pc + 3 = q) (hk_l0 : SHk l0 = 9) (w1 : Cond.methodLink own ix yX9_raise ∈ xTs) (hr : 2 < d) (hst : (st.map fun v => v.category).sum ≤ 8) (h : FX9_raise Q l0 l1 l2 M) (k : ∀ (N : Mem), Q N → xX own cc nL rt d q L st N Rt) : xX own cc nL rt d pc L (.int l2 :: .int l1 :: .ref l0 :: st) M Rt :=
  x_callV_v (n := 2) (As := [.int l1, .int l2]) hd q hq hk_l0 (by decide) rfl rfl w1 kw3_45 kw3_46 kw1_3 kw3_47 (by decide +kernel) rfl hr (by decide) hst _ rfl (cX9_raise_ hk_l0 h) k
def lbX9_highest_7 (Q : Int32 → Prop) (l0 : Nat) (M : Mem) (B7 : Int32 → Prop) (l1 : Int32) : Prop :=
  ((l1 < 0 → Q (-1)) ∧ (¬ l1 < 0 → vp_in l1 10 ∧ (((M (l0 + 2) (ix l1)) = (-1) → B7 (l1 + (-1))) ∧ (¬ (M (l0 + 2) (ix l1)) = (-1) → Q l1))))
def NX9_highest_7 (Q : Int32 → Prop) (l0 : Nat) (l1 : Int32) (M : Mem) : Prop := xlp (fun (B : Int32 → Prop) a => lbX9_highest_7 Q l0 M (fun l1 => B (l1)) a) (l1)
theorem nX9_highest_7 {Q : Int32 → Prop} {l0 : Nat} {l1 : Int32} {M : Mem} (hk_l0 : SHk l0 = 9) (h : NX9_highest_7 Q l0 l1 M) : xX RX9 cX9_highest 2 (some .int) 1 7 [(0, .ref l0), (1, .int l1)] [] M (xQi (xP M Q)) := by
  obtain ⟨n, h⟩ := h
  have hB7 : ∀ (n : Nat) (l1 : Int32), xlpn (fun (B : Int32 → Prop) a => lbX9_highest_7 Q l0 M (fun l1 => B (l1)) a) n (l1) → xX RX9 cX9_highest 2 (some .int) 1 7 [(0, .ref l0), (1, .int l1)] [] M (xQi (xP M Q)) := by
    intro n
    induction n with
    | zero => intro l1 h; exact False.elim h
    | succ n ih =>
      intro l1 h
      have hB7 := ih
      have h : lbX9_highest_7 Q l0 M (fun l1 => xlpn (fun (B : Int32 → Prop) a => lbX9_highest_7 Q l0 M (fun l1 => B (l1)) a) n (l1)) l1 := h
      unfold lbX9_highest_7 at h
      refine x_iload_n dX9_highest_7 rfl 8 rfl ?_
      refine x_if_lt dX9_highest_8 29 11 rfl rfl (fun hc => ?_) (fun hc => ?_)
      · have h := h.1 hc
        refine x_iconst dX9_highest_29 kc_m1 30 rfl ?_
        exact x_iret dX9_highest_30 ⟨rfl, h⟩
      · have h := h.2 hc
        refine x_aload_n dX9_highest_11 rfl 12 rfl ?_
        refine gf9_2 dX9_highest_12 15 rfl hk_l0 kw1_50 ?_
        refine x_iload_n dX9_highest_15 rfl 16 rfl ?_
        obtain ⟨hin, h⟩ := h
        refine x_iaload dX9_highest_16 (ly9_2 hk_l0) hin 17 rfl ?_
        refine x_iconst dX9_highest_17 kc_m1 18 rfl ?_
        refine x_icmp_eq dX9_highest_18 23 21 rfl rfl (fun hc => ?_) (fun hc => ?_)
        · have h := h.1 hc
          refine x_iinc dX9_highest_23 rfl (congrArg (l1 + ·) kc_m1) (Nat.le_of_ble_eq_true rfl) [(0, .ref l0), (1, .int (l1 + (-1)))] rfl 26 rfl ?_
          refine x_goto dX9_highest_26 7 rfl ?_
          exact hB7 _ h
        · have h := h.2 hc
          refine x_iload_n dX9_highest_21 rfl 22 rfl ?_
          exact x_iret dX9_highest_22 ⟨rfl, h⟩
  exact hB7 n l1 h
def FX9_highest (Q : Int32 → Prop) (l0 : Nat) (M : Mem) : Prop :=
  NX9_highest_7 Q l0 ((M l0 10) - 1) M
theorem eX9_highest {Q : Int32 → Prop} {l0 : Nat} {M : Mem} (hk_l0 : SHk l0 = 9) (h : FX9_highest Q l0 M) : xX RX9 cX9_highest 2 (some .int) 1 0 [(0, .ref l0)] [] M (xQi (xP M Q)) := by
  unfold FX9_highest at h
  refine x_aload_n dX9_highest_0 rfl 1 rfl ?_
  refine gf9_10 dX9_highest_1 4 rfl hk_l0 kw1_68 ?_
  refine x_iconst dX9_highest_4 kc_1 5 rfl ?_
  refine x_isub dX9_highest_5 6 rfl ?_
  refine x_istore_n dX9_highest_6 (Nat.le_of_ble_eq_true rfl) [(0, .ref l0), (1, .int ((M l0 10) - 1))] rfl 7 rfl ?_
  exact nX9_highest_7 hk_l0 h
theorem cX9_highest_ {Q : Int32 → Prop} {l0 : Nat} {M : Mem} (hk_l0 : SHk l0 = 9) (h : FX9_highest Q l0 M) : xM yX9_highest cX9_highest 2 (some .int) 1 [.ref l0] M (xQi (xP M Q)) := xM_of (by decide +kernel) (Nat.le_of_ble_eq_true rfl) (eX9_highest hk_l0 h)
theorem kX9_highest {own : String} {cc : ByteArray} {nL : Nat} {rt : Option FieldType} {d pc ix : Nat} {L : List (Nat × Value)} {st : List Value} {M : Mem} {Rt : xGt → Array Value → State → Outcome → State → Prop} {Q : Int32 → Prop} {l0 : Nat} (hd : decode cc pc = .ok (.invokevirtual ix, 3)) (q : Nat) (hq : pc + 3 = q) (hk_l0 : SHk l0 = 9) (w1 : Cond.methodLink own ix yX9_highest ∈ xTs) (hr : 1 < d) (hst : (st.map fun v => v.category).sum ≤ 8) (h : FX9_highest Q l0 M) (k : ∀ (r : Int32), Q r → xX own cc nL rt d q L (.int r :: st) M Rt) : xX own cc nL rt d pc L (.ref l0 :: st) M Rt :=
  x_callV_i (n := 0) (As := []) hd q hq hk_l0 (by decide) rfl rfl w1 kw3_6 kw3_7 kw1_3 kw3_8 (by decide +kernel) rfl hr (by decide) hst _ rfl (cX9_highest_ hk_l0 h) (fun r N hN => by obtain ⟨rfl, hN⟩ := hN; exact k r hN)
def FX9_say (Q : Mem → Prop) (l0 : Nat) (l1 : Int32) (M : Mem) : Prop :=
  FX9_highest (fun (r1 : Int32) => ((r1 = (-1) → Q M) ∧ (¬ r1 = (-1) → vp_in r1 10 ∧ ∀ M2 : Mem, M2 = xu M (l0 + 3) (ix r1) l1 → Q M2))) l0 M
theorem eX9_say {Q : Mem → Prop} {l0 : Nat} {l1 : Int32} {M : Mem} (hk_l0 : SHk l0 = 9) (h : FX9_say Q l0 l1 M) : xX RX9 cX9_say 3 none 2 0 [(0, .ref l0), (1, .int l1)] [] M (xQv Q) := by
  unfold FX9_say at h
  refine x_aload_n dX9_say_0 rfl 1 rfl ?_
  refine kX9_highest dX9_say_1 4 rfl hk_l0 kw3_5 (Nat.le_of_ble_eq_true rfl) (Nat.le_of_ble_eq_true rfl) h (fun r1 h => ?_)
  refine x_istore_n dX9_say_4 (Nat.le_of_ble_eq_true rfl) [(0, .ref l0), (1, .int l1), (2, .int r1)] rfl 5 rfl ?_
  refine x_iload_n dX9_say_5 rfl 6 rfl ?_
  refine x_iconst dX9_say_6 kc_m1 7 rfl ?_
  refine x_icmp_eq dX9_say_7 17 10 rfl rfl (fun hc => ?_) (fun hc => ?_)
  · have h := h.1 hc
    exact x_vret dX9_say_17 h
  · have h := h.2 hc
    refine x_aload_n dX9_say_10 rfl 11 rfl ?_
    refine gf9_3 dX9_say_11 14 rfl hk_l0 kw1_52 ?_
    refine x_iload_n dX9_say_14 rfl 15 rfl ?_
    refine x_iload_n dX9_say_15 rfl 16 rfl ?_
    obtain ⟨hin, h⟩ := h
    refine x_iastore dX9_say_16 (ly9_3 hk_l0) hin 17 rfl (x_mem (fun M2 hM2 => ?_))
    have h := h M2 hM2
    exact x_vret dX9_say_17 h
theorem cX9_say_ {Q : Mem → Prop} {l0 : Nat} {l1 : Int32} {M : Mem} (hk_l0 : SHk l0 = 9) (h : FX9_say Q l0 l1 M) : xM yX9_say cX9_say 3 none 2 [.ref l0, .int l1] M (xQv Q) := xM_of (by decide +kernel) (Nat.le_of_ble_eq_true rfl) (eX9_say hk_l0 h)
theorem kX9_say {own : String} {cc : ByteArray} {nL : Nat} {rt : Option FieldType} {d pc ix : Nat} {L : List (Nat × Value)} {st : List Value} {M : Mem} {Rt : xGt → Array Value → State → Outcome → State → Prop} {Q : Mem → Prop} {l0 : Nat} {l1 : Int32} (hd : decode cc pc = .ok (.invokevirtual ix, 3)) (q : Nat) (hq : pc + 3 = q) (hk_l0 : SHk l0 = 9) (w1 : Cond.methodLink own ix yX9_say ∈ xTs) (hr : 2 < d) (hst : (st.map fun v => v.category).sum ≤ 8) (h : FX9_say Q l0 l1 M) (k : ∀ (N : Mem), Q N → xX own cc nL rt d q L st N Rt) : xX own cc nL rt d pc L (.int l1 :: .ref l0 :: st) M Rt :=
  x_callV_v (n := 1) (As := [.int l1]) hd q hq hk_l0 (by decide) rfl rfl w1 kw3_37 kw3_38 kw1_3 kw3_39 (by decide +kernel) rfl hr (by decide) hst _ rfl (cX9_say_ hk_l0 h) k
def FX4_carryOutLine (Q : Mem → Prop) (l0 : Nat) (l1 : Int32) (l2 : Nat) (M : Mem) : Prop :=
  ((l1 < 0 → Q M) ∧ (¬ l1 < 0 → ((l1 < 16 → vp_in l1 16 ∧ (((M (l0 + 2) (ix l1)) = 1 → vp_in l1 16 ∧ ∀ M1 : Mem, M1 = xu M l2 13 (M (l0 + 4) (ix l1)) → Q M1) ∧ ((M (l0 + 2) (ix l1)) = 2 → vp_in l1 16 ∧ FX9_say (fun (M2 : Mem) => Q M2) l2 (M (l0 + 4) (ix l1)) M) ∧ ((M (l0 + 2) (ix l1)) = 3 → vp_in l1 16 ∧ FX9_goDown (fun (M3 : Mem) => Q M3) l2 (M (l0 + 3) (ix l1)) M) ∧ ((M (l0 + 2) (ix l1)) = 4 → vp_in l1 16 ∧ vp_in l1 16 ∧ FX9_raise (fun (M4 : Mem) => Q M4) l2 (M (l0 + 3) (ix l1)) (M (l0 + 4) (ix l1)) M) ∧ (¬ (M (l0 + 2) (ix l1)) = 1 → ¬ (M (l0 + 2) (ix l1)) = 2 → ¬ (M (l0 + 2) (ix l1)) = 3 → ¬ (M (l0 + 2) (ix l1)) = 4 → vp_in l1 16 ∧ FX9_curse (fun (M5 : Mem) => Q M5) l2 (M (l0 + 3) (ix l1)) M))) ∧ (¬ l1 < 16 → Q M))))
theorem eX4_carryOutLine {Q : Mem → Prop} {l0 : Nat} {l1 : Int32} {l2 : Nat} {M : Mem} (hk_l0 : SHk l0 = 4) (hk_l2 : SHk l2 = 9) (h : FX4_carryOutLine Q l0 l1 l2 M) : xX RX4 cX4_carryOutLine 3 none 5 0 [(0, .ref l0), (1, .int l1), (2, .ref l2)] [] M (xQv Q) := by
  unfold FX4_carryOutLine at h
  refine x_iload_n dX4_carryOutLine_0 rfl 1 rfl ?_
  refine x_if_lt dX4_carryOutLine_1 10 4 rfl rfl (fun hc => ?_) (fun hc => ?_)
  · have h := h.1 hc
    exact x_vret dX4_carryOutLine_10 h
  · have h := h.2 hc
    refine x_iload_n dX4_carryOutLine_4 rfl 5 rfl ?_
    refine x_bipush dX4_carryOutLine_5 kb_16 7 rfl ?_
    refine x_icmp_lt dX4_carryOutLine_7 11 10 rfl rfl (fun hc => ?_) (fun hc => ?_)
    · have h := h.1 hc
      refine x_aload_n dX4_carryOutLine_11 rfl 12 rfl ?_
      refine gf4_1 dX4_carryOutLine_12 15 rfl hk_l0 kw1_194 ?_
      refine x_iload_n dX4_carryOutLine_15 rfl 16 rfl ?_
      obtain ⟨hin, h⟩ := h
      refine x_iaload dX4_carryOutLine_16 (ly4_1 hk_l0) hin 17 rfl ?_
      by_cases hc0 : (M (l0 + 2) (ix l1)) = 1
      · refine x_tab_at dX4_carryOutLine_17 hc0 (by decide) (by decide) rfl (tg := 48) rfl ?_
        have h := h.1 hc0
        refine x_aload_n dX4_carryOutLine_48 rfl 49 rfl ?_
        refine x_aload_n dX4_carryOutLine_49 rfl 50 rfl ?_
        refine gf4_3 dX4_carryOutLine_50 53 rfl hk_l0 kw1_196 ?_
        refine x_iload_n dX4_carryOutLine_53 rfl 54 rfl ?_
        obtain ⟨hin, h⟩ := h
        refine x_iaload dX4_carryOutLine_54 (ly4_3 hk_l0) hin 55 rfl ?_
        refine pf9_13 dX4_carryOutLine_55 58 rfl hk_l2 kw1_80 (x_mem (fun M1 hM1 => ?_))
        have h := h M1 hM1
        refine x_goto dX4_carryOutLine_58 116 rfl ?_
        exact x_vret dX4_carryOutLine_116 h
      by_cases hc1 : (M (l0 + 2) (ix l1)) = 2
      · refine x_tab_at dX4_carryOutLine_17 hc1 (by decide) (by decide) rfl (tg := 61) rfl ?_
        have h := h.2.1 hc1
        refine x_aload_n dX4_carryOutLine_61 rfl 62 rfl ?_
        refine x_aload_n dX4_carryOutLine_62 rfl 63 rfl ?_
        refine gf4_3 dX4_carryOutLine_63 66 rfl hk_l0 kw1_196 ?_
        refine x_iload_n dX4_carryOutLine_66 rfl 67 rfl ?_
        obtain ⟨hin, h⟩ := h
        refine x_iaload dX4_carryOutLine_67 (ly4_3 hk_l0) hin 68 rfl ?_
        refine kX9_say dX4_carryOutLine_68 71 rfl hk_l2 kw3_64 (Nat.le_of_ble_eq_true rfl) (Nat.le_of_ble_eq_true rfl) h (fun M2 h => ?_)
        refine x_goto dX4_carryOutLine_71 116 rfl ?_
        exact x_vret dX4_carryOutLine_116 h
      by_cases hc2 : (M (l0 + 2) (ix l1)) = 3
      · refine x_tab_at dX4_carryOutLine_17 hc2 (by decide) (by decide) rfl (tg := 74) rfl ?_
        have h := h.2.2.1 hc2
        refine x_aload_n dX4_carryOutLine_74 rfl 75 rfl ?_
        refine x_aload_n dX4_carryOutLine_75 rfl 76 rfl ?_
        refine gf4_2 dX4_carryOutLine_76 79 rfl hk_l0 kw1_195 ?_
        refine x_iload_n dX4_carryOutLine_79 rfl 80 rfl ?_
        obtain ⟨hin, h⟩ := h
        refine x_iaload dX4_carryOutLine_80 (ly4_2 hk_l0) hin 81 rfl ?_
        refine kX9_goDown dX4_carryOutLine_81 84 rfl hk_l2 kw3_65 (Nat.le_of_ble_eq_true rfl) (Nat.le_of_ble_eq_true rfl) h (fun M3 h => ?_)
        refine x_goto dX4_carryOutLine_84 116 rfl ?_
        exact x_vret dX4_carryOutLine_116 h
      by_cases hc3 : (M (l0 + 2) (ix l1)) = 4
      · refine x_tab_at dX4_carryOutLine_17 hc3 (by decide) (by decide) rfl (tg := 87) rfl ?_
        have h := h.2.2.2.1 hc3
        refine x_aload_n dX4_carryOutLine_87 rfl 88 rfl ?_
        refine x_aload_n dX4_carryOutLine_88 rfl 89 rfl ?_
        refine gf4_2 dX4_carryOutLine_89 92 rfl hk_l0 kw1_195 ?_
        refine x_iload_n dX4_carryOutLine_92 rfl 93 rfl ?_
        obtain ⟨hin, h⟩ := h
        refine x_iaload dX4_carryOutLine_93 (ly4_2 hk_l0) hin 94 rfl ?_
        refine x_aload_n dX4_carryOutLine_94 rfl 95 rfl ?_
        refine gf4_3 dX4_carryOutLine_95 98 rfl hk_l0 kw1_196 ?_
        refine x_iload_n dX4_carryOutLine_98 rfl 99 rfl ?_
        obtain ⟨hin, h⟩ := h
        refine x_iaload dX4_carryOutLine_99 (ly4_3 hk_l0) hin 100 rfl ?_
        refine kX9_raise dX4_carryOutLine_100 103 rfl hk_l2 kw3_66 (Nat.le_of_ble_eq_true rfl) (Nat.le_of_ble_eq_true rfl) h (fun M4 h => ?_)
        refine x_goto dX4_carryOutLine_103 116 rfl ?_
        exact x_vret dX4_carryOutLine_116 h
      have h := h.2.2.2.2 hc0 hc1 hc2 hc3
      refine x_tab_out dX4_carryOutLine_17 (by have a0 := lv_neT hc0 (a := 1) (by decide); have a1 := lv_neT hc1 (a := 2) (by decide); have a2 := lv_neT hc2 (a := 3) (by decide); have a3 := lv_neT hc3 (a := 4) (by decide); show ((M (l0 + 2) (ix l1)) : Int32).toInt < 1 ∨ 4 < ((M (l0 + 2) (ix l1)) : Int32).toInt; omega) (tg := 106) rfl ?_
      refine x_aload_n dX4_carryOutLine_106 rfl 107 rfl ?_
      refine x_aload_n dX4_carryOutLine_107 rfl 108 rfl ?_
      refine gf4_2 dX4_carryOutLine_108 111 rfl hk_l0 kw1_195 ?_
      refine x_iload_n dX4_carryOutLine_111 rfl 112 rfl ?_
      obtain ⟨hin, h⟩ := h
      refine x_iaload dX4_carryOutLine_112 (ly4_2 hk_l0) hin 113 rfl ?_
      refine kX9_curse dX4_carryOutLine_113 116 rfl hk_l2 kw3_67 (Nat.le_of_ble_eq_true rfl) (Nat.le_of_ble_eq_true rfl) h (fun M5 h => ?_)
      exact x_vret dX4_carryOutLine_116 h
    · have h := h.2 hc
      exact x_vret dX4_carryOutLine_10 h
theorem cX4_carryOutLine_ {Q : Mem → Prop} {l0 : Nat} {l1 : Int32} {l2 : Nat} {M : Mem} (hk_l0 : SHk l0 = 4) (hk_l2 : SHk l2 = 9) (h : FX4_carryOutLine Q l0 l1 l2 M) : xM yX4_carryOutLine cX4_carryOutLine 3 none 5 [.ref l0, .int l1, .ref l2] M (xQv Q) := xM_of (by decide +kernel) (Nat.le_of_ble_eq_true rfl) (eX4_carryOutLine hk_l0 hk_l2 h)
theorem kX4_carryOutLine {own : String} {cc : ByteArray} {nL : Nat} {rt : Option FieldType} {d pc ix : Nat} {L : List (Nat × Value)} {st : List Value} {M : Mem} {Rt : xGt → Array Value → State → Outcome → State → Prop} {Q : Mem → Prop} {l0 : Nat} {l1 : Int32} {l2 : Nat} (hd : decode cc pc = .ok (.invokevirtual ix, 3)) (q : Nat) (hq : pc + 3 = q) (hk_l0 : SHk l0 = 4) (hk_l2 : SHk l2 = 9) (w1 : Cond.methodLink own ix yX4_carryOutLine ∈ xTs) (hr : 5 < d) (hst : (st.map fun v => v.category).sum ≤ 8) (h : FX4_carryOutLine Q l0 l1 l2 M) (k : ∀ (N : Mem), Q N → xX own cc nL rt d q L st N Rt) : xX own cc nL rt d pc L (.ref l2 :: .int l1 :: .ref l0 :: st) M Rt :=
  x_callV_v (n := 2) (As := [.int l1, .ref l2]) hd q hq hk_l0 (by decide) rfl rfl w1 kw3_62 ks1_4 kw1_7 kw3_63 (by decide +kernel) rfl hr (by decide) hst _ rfl (cX4_carryOutLine_ hk_l0 hk_l2 h) k
def lbX4_carryOut_7 (Q : Mem → Prop) (l0 : Nat) (l1 : Nat) (l2 : Int32) (B7 : Int32 → Mem → Prop) (l3 : Int32) (M : Mem) : Prop :=
  (((M l0 4) ≤ l3 → Q M) ∧ (¬ (M l0 4) ≤ l3 → vp_in l3 16 ∧ ((¬ (M (l0 + 1) (ix l3)) = l2 → B7 (l3 + 1) M) ∧ ((M (l0 + 1) (ix l3)) = l2 → FX4_carryOutLine (fun (M1 : Mem) => B7 (l3 + 1) M1) l0 l3 l1 M))))
def NX4_carryOut_7 (Q : Mem → Prop) (l0 : Nat) (l1 : Nat) (l2 : Int32) (l3 : Int32) (M : Mem) : Prop := xlp (fun (B : Int32 × Mem → Prop) a => lbX4_carryOut_7 Q l0 l1 l2 (fun l3 M => B (l3, M)) a.1 a.2) (l3, M)
theorem nX4_carryOut_7 {Q : Mem → Prop} {l0 : Nat} {l1 : Nat} {l2 : Int32} {l3 : Int32} {M : Mem} (hk_l0 : SHk l0 = 4) (hk_l1 : SHk l1 = 9) (h : NX4_carryOut_7 Q l0 l1 l2 l3 M) : xX RX4 cX4_carryOut 4 none 6 7 [(0, .ref l0), (1, .ref l1), (2, .int l2), (3, .int l3)] [] M (xQv Q) := by
  obtain ⟨n, h⟩ := h
  have hB7 : ∀ (n : Nat) (l3 : Int32) (M : Mem), xlpn (fun (B : Int32 × Mem → Prop) a => lbX4_carryOut_7 Q l0 l1 l2 (fun l3 M => B (l3, M)) a.1 a.2) n (l3, M) → xX RX4 cX4_carryOut 4 none 6 7 [(0, .ref l0), (1, .ref l1), (2, .int l2), (3, .int l3)] [] M (xQv Q) := by
    intro n
    induction n with
    | zero => intro l3 M h; exact False.elim h
    | succ n ih =>
      intro l3 M h
      have hB7 := ih
      have h : lbX4_carryOut_7 Q l0 l1 l2 (fun l3 M => xlpn (fun (B : Int32 × Mem → Prop) a => lbX4_carryOut_7 Q l0 l1 l2 (fun l3 M => B (l3, M)) a.1 a.2) n (l3, M)) l3 M := h
      unfold lbX4_carryOut_7 at h
      refine x_iload_n dX4_carryOut_7 rfl 8 rfl ?_
      refine x_aload_n dX4_carryOut_8 rfl 9 rfl ?_
      refine gf4_4 dX4_carryOut_9 12 rfl hk_l0 kw1_197 ?_
      refine x_icmp_ge dX4_carryOut_12 37 15 rfl rfl (fun hc => ?_) (fun hc => ?_)
      · have h := h.1 hc
        exact x_vret dX4_carryOut_37 h
      · have h := h.2 hc
        refine x_aload_n dX4_carryOut_15 rfl 16 rfl ?_
        refine gf4_0 dX4_carryOut_16 19 rfl hk_l0 kw1_193 ?_
        refine x_iload_n dX4_carryOut_19 rfl 20 rfl ?_
        obtain ⟨hin, h⟩ := h
        refine x_iaload dX4_carryOut_20 (ly4_0 hk_l0) hin 21 rfl ?_
        refine x_iload_n dX4_carryOut_21 rfl 22 rfl ?_
        refine x_icmp_ne dX4_carryOut_22 31 25 rfl rfl (fun hc => ?_) (fun hc => ?_)
        · have h := h.1 hc
          refine x_iinc dX4_carryOut_31 rfl (congrArg (l3 + ·) kc_1) (Nat.le_of_ble_eq_true rfl) [(0, .ref l0), (1, .ref l1), (2, .int l2), (3, .int (l3 + 1))] rfl 34 rfl ?_
          refine x_goto dX4_carryOut_34 7 rfl ?_
          exact hB7 _ _ h
        · have h := h.2 hc
          refine x_aload_n dX4_carryOut_25 rfl 26 rfl ?_
          refine x_iload_n dX4_carryOut_26 rfl 27 rfl ?_
          refine x_aload_n dX4_carryOut_27 rfl 28 rfl ?_
          refine kX4_carryOutLine dX4_carryOut_28 31 rfl hk_l0 hk_l1 kw3_60 (Nat.le_of_ble_eq_true rfl) (Nat.le_of_ble_eq_true rfl) h (fun M1 h => ?_)
          refine x_iinc dX4_carryOut_31 rfl (congrArg (l3 + ·) kc_1) (Nat.le_of_ble_eq_true rfl) [(0, .ref l0), (1, .ref l1), (2, .int l2), (3, .int (l3 + 1))] rfl 34 rfl ?_
          refine x_goto dX4_carryOut_34 7 rfl ?_
          exact hB7 _ _ h
  exact hB7 n l3 M h
def FX4_carryOut (Q : Mem → Prop) (l0 : Nat) (l1 : Nat) (M : Mem) : Prop :=
  NX4_carryOut_7 Q l0 l1 (M l1 15) 0 M
theorem eX4_carryOut {Q : Mem → Prop} {l0 : Nat} {l1 : Nat} {M : Mem} (hk_l0 : SHk l0 = 4) (hk_l1 : SHk l1 = 9) (h : FX4_carryOut Q l0 l1 M) : xX RX4 cX4_carryOut 4 none 6 0 [(0, .ref l0), (1, .ref l1)] [] M (xQv Q) := by
  unfold FX4_carryOut at h
  refine x_aload_n dX4_carryOut_0 rfl 1 rfl ?_
  refine gf9_15 dX4_carryOut_1 4 rfl hk_l1 kw1_86 ?_
  refine x_istore_n dX4_carryOut_4 (Nat.le_of_ble_eq_true rfl) [(0, .ref l0), (1, .ref l1), (2, .int (M l1 15))] rfl 5 rfl ?_
  refine x_iconst dX4_carryOut_5 kc_0 6 rfl ?_
  refine x_istore_n dX4_carryOut_6 (Nat.le_of_ble_eq_true rfl) [(0, .ref l0), (1, .ref l1), (2, .int (M l1 15)), (3, .int 0)] rfl 7 rfl ?_
  exact nX4_carryOut_7 hk_l0 hk_l1 h
theorem cX4_carryOut_ {Q : Mem → Prop} {l0 : Nat} {l1 : Nat} {M : Mem} (hk_l0 : SHk l0 = 4) (hk_l1 : SHk l1 = 9) (h : FX4_carryOut Q l0 l1 M) : xM yX4_carryOut cX4_carryOut 4 none 6 [.ref l0, .ref l1] M (xQv Q) := xM_of (by decide +kernel) (Nat.le_of_ble_eq_true rfl) (eX4_carryOut hk_l0 hk_l1 h)
theorem kX4_carryOut {own : String} {cc : ByteArray} {nL : Nat} {rt : Option FieldType} {d pc ix : Nat} {L : List (Nat × Value)} {st : List Value} {M : Mem} {Rt : xGt → Array Value → State → Outcome → State → Prop} {Q : Mem → Prop} {l0 : Nat} {l1 : Nat} (hd : decode cc pc = .ok (.invokevirtual ix, 3)) (q : Nat) (hq : pc + 3 = q) (hk_l0 : SHk l0 = 4) (hk_l1 : SHk l1 = 9) (w1 : Cond.methodLink own ix yX4_carryOut ∈ xTs) (hr : 6 < d) (hst : (st.map fun v => v.category).sum ≤ 8) (h : FX4_carryOut Q l0 l1 M) (k : ∀ (N : Mem), Q N → xX own cc nL rt d q L st N Rt) : xX own cc nL rt d pc L (.ref l1 :: .ref l0 :: st) M Rt :=
  x_callV_v (n := 1) (As := [.ref l1]) hd q hq hk_l0 (by decide) rfl rfl w1 kw3_57 kw3_58 kw1_7 kw3_59 (by decide +kernel) rfl hr (by decide) hst _ rfl (cX4_carryOut_ hk_l0 hk_l1 h) k
def lbX6_weatherOn_7 (Q : Int32 → Prop) (l0 : Nat) (l1 : Int32) (M : Mem) (B7 : Int32 → Prop) (l2 : Int32) : Prop :=
  ((l2 < 0 → Q (-1)) ∧ (¬ l2 < 0 → vp_in l2 16 ∧ ((¬ (M (l0 + 1) (ix l2)) = l1 → B7 (l2 + (-1))) ∧ ((M (l0 + 1) (ix l2)) = l1 → vp_in l2 16 ∧ Q (M (l0 + 2) (ix l2))))))
def NX6_weatherOn_7 (Q : Int32 → Prop) (l0 : Nat) (l1 : Int32) (l2 : Int32) (M : Mem) : Prop := xlp (fun (B : Int32 → Prop) a => lbX6_weatherOn_7 Q l0 l1 M (fun l2 => B (l2)) a) (l2)
theorem nX6_weatherOn_7 {Q : Int32 → Prop} {l0 : Nat} {l1 : Int32} {l2 : Int32} {M : Mem} (hk_l0 : SHk l0 = 6) (h : NX6_weatherOn_7 Q l0 l1 l2 M) : xX RX6 cX6_weatherOn 3 (some .int) 1 7 [(0, .ref l0), (1, .int l1), (2, .int l2)] [] M (xQi (xP M Q)) := by
  obtain ⟨n, h⟩ := h
  have hB7 : ∀ (n : Nat) (l2 : Int32), xlpn (fun (B : Int32 → Prop) a => lbX6_weatherOn_7 Q l0 l1 M (fun l2 => B (l2)) a) n (l2) → xX RX6 cX6_weatherOn 3 (some .int) 1 7 [(0, .ref l0), (1, .int l1), (2, .int l2)] [] M (xQi (xP M Q)) := by
    intro n
    induction n with
    | zero => intro l2 h; exact False.elim h
    | succ n ih =>
      intro l2 h
      have hB7 := ih
      have h : lbX6_weatherOn_7 Q l0 l1 M (fun l2 => xlpn (fun (B : Int32 → Prop) a => lbX6_weatherOn_7 Q l0 l1 M (fun l2 => B (l2)) a) n (l2)) l2 := h
      unfold lbX6_weatherOn_7 at h
      refine x_iload_n dX6_weatherOn_7 rfl 8 rfl ?_
      refine x_if_lt dX6_weatherOn_8 34 11 rfl rfl (fun hc => ?_) (fun hc => ?_)
      · have h := h.1 hc
        refine x_iconst dX6_weatherOn_34 kc_m1 35 rfl ?_
        exact x_iret dX6_weatherOn_35 ⟨rfl, h⟩
      · have h := h.2 hc
        refine x_aload_n dX6_weatherOn_11 rfl 12 rfl ?_
        refine gf6_0 dX6_weatherOn_12 15 rfl hk_l0 kw1_175 ?_
        refine x_iload_n dX6_weatherOn_15 rfl 16 rfl ?_
        obtain ⟨hin, h⟩ := h
        refine x_iaload dX6_weatherOn_16 (ly6_0 hk_l0) hin 17 rfl ?_
        refine x_iload_n dX6_weatherOn_17 rfl 18 rfl ?_
        refine x_icmp_ne dX6_weatherOn_18 28 21 rfl rfl (fun hc => ?_) (fun hc => ?_)
        · have h := h.1 hc
          refine x_iinc dX6_weatherOn_28 rfl (congrArg (l2 + ·) kc_m1) (Nat.le_of_ble_eq_true rfl) [(0, .ref l0), (1, .int l1), (2, .int (l2 + (-1)))] rfl 31 rfl ?_
          refine x_goto dX6_weatherOn_31 7 rfl ?_
          exact hB7 _ h
        · have h := h.2 hc
          refine x_aload_n dX6_weatherOn_21 rfl 22 rfl ?_
          refine gf6_1 dX6_weatherOn_22 25 rfl hk_l0 kw1_176 ?_
          refine x_iload_n dX6_weatherOn_25 rfl 26 rfl ?_
          obtain ⟨hin, h⟩ := h
          refine x_iaload dX6_weatherOn_26 (ly6_1 hk_l0) hin 27 rfl ?_
          exact x_iret dX6_weatherOn_27 ⟨rfl, h⟩
  exact hB7 n l2 h
def FX6_weatherOn (Q : Int32 → Prop) (l0 : Nat) (l1 : Int32) (M : Mem) : Prop :=
  NX6_weatherOn_7 Q l0 l1 ((M l0 2) - 1) M
theorem eX6_weatherOn {Q : Int32 → Prop} {l0 : Nat} {l1 : Int32} {M : Mem} (hk_l0 : SHk l0 = 6) (h : FX6_weatherOn Q l0 l1 M) : xX RX6 cX6_weatherOn 3 (some .int) 1 0 [(0, .ref l0), (1, .int l1)] [] M (xQi (xP M Q)) := by
  unfold FX6_weatherOn at h
  refine x_aload_n dX6_weatherOn_0 rfl 1 rfl ?_
  refine gf6_2 dX6_weatherOn_1 4 rfl hk_l0 kw1_177 ?_
  refine x_iconst dX6_weatherOn_4 kc_1 5 rfl ?_
  refine x_isub dX6_weatherOn_5 6 rfl ?_
  refine x_istore_n dX6_weatherOn_6 (Nat.le_of_ble_eq_true rfl) [(0, .ref l0), (1, .int l1), (2, .int ((M l0 2) - 1))] rfl 7 rfl ?_
  exact nX6_weatherOn_7 hk_l0 h
theorem cX6_weatherOn_ {Q : Int32 → Prop} {l0 : Nat} {l1 : Int32} {M : Mem} (hk_l0 : SHk l0 = 6) (h : FX6_weatherOn Q l0 l1 M) : xM yX6_weatherOn cX6_weatherOn 3 (some .int) 1 [.ref l0, .int l1] M (xQi (xP M Q)) := xM_of (by decide +kernel) (Nat.le_of_ble_eq_true rfl) (eX6_weatherOn hk_l0 h)
theorem kX6_weatherOn {own : String} {cc : ByteArray} {nL : Nat} {rt : Option FieldType} {d pc ix : Nat} {L : List (Nat × Value)} {st : List Value} {M : Mem} {Rt : xGt → Array Value → State → Outcome → State → Prop} {Q : Int32 → Prop} {l0 : Nat} {l1 : Int32} (hd : decode cc pc = .ok (.invokevirtual ix, 3)) (q : Nat) (hq : pc + 3 = q) (hk_l0 : SHk l0 = 6) (w1 : Cond.methodLink own ix yX6_weatherOn ∈ xTs) (hr : 1 < d) (hst : (st.map fun v => v.category).sum ≤ 8) (h : FX6_weatherOn Q l0 l1 M) (k : ∀ (r : Int32), Q r → xX own cc nL rt d q L (.int r :: st) M Rt) : xX own cc nL rt d pc L (.int l1 :: .ref l0 :: st) M Rt :=
  x_callV_i (n := 1) (As := [.int l1]) hd q hq hk_l0 (by decide) rfl rfl w1 kw3_76 kw3_77 kw1_6 kw3_78 (by decide +kernel) rfl hr (by decide) hst _ rfl (cX6_weatherOn_ hk_l0 h) (fun r N hN => by obtain ⟨rfl, hN⟩ := hN; exact k r hN)
def lbX9_hungerOnGround_2 (Q : Mem → Prop) (l0 : Nat) (B2 : Int32 → Mem → Prop) (l1 : Int32) (M : Mem) : Prop :=
  (((M l0 9) ≤ l1 → Q M) ∧ (¬ (M l0 9) ≤ l1 → vp_in l1 14 ∧ FX9_isSaint (fun (r1 : Bool) => ((r1 = false → B2 (l1 + 1) M) ∧ (r1 = true → vp_in (M (l0 + 8) (ix l1)) 14 ∧ FJ9_min_7cf53 (fun (r2 : Int32) => vp_in (M (l0 + 8) (ix l1)) 14 ∧ ∀ M3 : Mem, M3 = xu M (l0 + 7) (ix (M (l0 + 8) (ix l1))) r2 → B2 (l1 + 1) M3) 99 ((M (l0 + 7) (ix (M (l0 + 8) (ix l1)))) + 1) M))) l0 (M (l0 + 8) (ix l1)) M))
def NX9_hungerOnGround_2 (Q : Mem → Prop) (l0 : Nat) (l1 : Int32) (M : Mem) : Prop := xlp (fun (B : Int32 × Mem → Prop) a => lbX9_hungerOnGround_2 Q l0 (fun l1 M => B (l1, M)) a.1 a.2) (l1, M)
theorem nX9_hungerOnGround_2 {Q : Mem → Prop} {l0 : Nat} {l1 : Int32} {M : Mem} (hk_l0 : SHk l0 = 9) (h : NX9_hungerOnGround_2 Q l0 l1 M) : xX RX9 cX9_hungerOnGround 3 none 2 2 [(0, .ref l0), (1, .int l1)] [] M (xQv Q) := by
  obtain ⟨n, h⟩ := h
  have hB2 : ∀ (n : Nat) (l1 : Int32) (M : Mem), xlpn (fun (B : Int32 × Mem → Prop) a => lbX9_hungerOnGround_2 Q l0 (fun l1 M => B (l1, M)) a.1 a.2) n (l1, M) → xX RX9 cX9_hungerOnGround 3 none 2 2 [(0, .ref l0), (1, .int l1)] [] M (xQv Q) := by
    intro n
    induction n with
    | zero => intro l1 M h; exact False.elim h
    | succ n ih =>
      intro l1 M h
      have hB2 := ih
      have h : lbX9_hungerOnGround_2 Q l0 (fun l1 M => xlpn (fun (B : Int32 × Mem → Prop) a => lbX9_hungerOnGround_2 Q l0 (fun l1 M => B (l1, M)) a.1 a.2) n (l1, M)) l1 M := h
      unfold lbX9_hungerOnGround_2 at h
      refine x_iload_n dX9_hungerOnGround_2 rfl 3 rfl ?_
      refine x_aload_n dX9_hungerOnGround_3 rfl 4 rfl ?_
      refine gf9_9 dX9_hungerOnGround_4 7 rfl hk_l0 kw1_66 ?_
      refine x_icmp_ge dX9_hungerOnGround_7 50 10 rfl rfl (fun hc => ?_) (fun hc => ?_)
      · have h := h.1 hc
        exact x_vret dX9_hungerOnGround_50 h
      · have h := h.2 hc
        refine x_aload_n dX9_hungerOnGround_10 rfl 11 rfl ?_
        refine gf9_8 dX9_hungerOnGround_11 14 rfl hk_l0 kw1_65 ?_
        refine x_iload_n dX9_hungerOnGround_14 rfl 15 rfl ?_
        obtain ⟨hin, h⟩ := h
        refine x_iaload dX9_hungerOnGround_15 (ly9_8 hk_l0) hin 16 rfl ?_
        refine x_istore_n dX9_hungerOnGround_16 (Nat.le_of_ble_eq_true rfl) [(0, .ref l0), (1, .int l1), (2, .int (M (l0 + 8) (ix l1)))] rfl 17 rfl ?_
        refine x_aload_n dX9_hungerOnGround_17 rfl 18 rfl ?_
        refine x_iload_n dX9_hungerOnGround_18 rfl 19 rfl ?_
        refine kX9_isSaint dX9_hungerOnGround_19 22 rfl hk_l0 kw2_233 (Nat.le_of_ble_eq_true rfl) (Nat.le_of_ble_eq_true rfl) h (fun r1 h => ?_)
        refine x_if_eq_b dX9_hungerOnGround_22 44 25 rfl rfl (fun hc => ?_) (fun hc => ?_)
        · have h := h.1 hc
          refine x_iinc dX9_hungerOnGround_44 rfl (congrArg (l1 + ·) kc_1) (Nat.le_of_ble_eq_true rfl) [(0, .ref l0), (1, .int (l1 + 1)), (2, .int (M (l0 + 8) (ix l1)))] rfl 47 rfl ?_
          refine x_goto dX9_hungerOnGround_47 2 rfl ?_
          refine x_weak [(0, .ref l0), (1, .int (l1 + 1))] [0, 1] rfl ?_
          exact hB2 _ _ h
        · have h := h.2 hc
          refine x_aload_n dX9_hungerOnGround_25 rfl 26 rfl ?_
          refine gf9_7 dX9_hungerOnGround_26 29 rfl hk_l0 kw1_63 ?_
          refine x_iload_n dX9_hungerOnGround_29 rfl 30 rfl ?_
          refine x_bipush dX9_hungerOnGround_30 kb_99 32 rfl ?_
          refine x_aload_n dX9_hungerOnGround_32 rfl 33 rfl ?_
          refine gf9_7 dX9_hungerOnGround_33 36 rfl hk_l0 kw1_63 ?_
          refine x_iload_n dX9_hungerOnGround_36 rfl 37 rfl ?_
          obtain ⟨hin, h⟩ := h
          refine x_iaload dX9_hungerOnGround_37 (ly9_7 hk_l0) hin 38 rfl ?_
          refine x_iconst dX9_hungerOnGround_38 kc_1 39 rfl ?_
          refine x_iadd dX9_hungerOnGround_39 40 rfl ?_
          refine kJ9_min_7cf53 dX9_hungerOnGround_40 43 rfl kw3_29 (Nat.le_of_ble_eq_true rfl) (Nat.le_of_ble_eq_true rfl) h (fun r2 h => ?_)
          obtain ⟨hin, h⟩ := h
          refine x_iastore dX9_hungerOnGround_43 (ly9_7 hk_l0) hin 44 rfl (x_mem (fun M3 hM3 => ?_))
          have h := h M3 hM3
          refine x_iinc dX9_hungerOnGround_44 rfl (congrArg (l1 + ·) kc_1) (Nat.le_of_ble_eq_true rfl) [(0, .ref l0), (1, .int (l1 + 1)), (2, .int (M (l0 + 8) (ix l1)))] rfl 47 rfl ?_
          refine x_goto dX9_hungerOnGround_47 2 rfl ?_
          refine x_weak [(0, .ref l0), (1, .int (l1 + 1))] [0, 1] rfl ?_
          exact hB2 _ _ h
  exact hB2 n l1 M h
def FX9_hungerOnGround (Q : Mem → Prop) (l0 : Nat) (M : Mem) : Prop :=
  NX9_hungerOnGround_2 Q l0 0 M
theorem eX9_hungerOnGround {Q : Mem → Prop} {l0 : Nat} {M : Mem} (hk_l0 : SHk l0 = 9) (h : FX9_hungerOnGround Q l0 M) : xX RX9 cX9_hungerOnGround 3 none 2 0 [(0, .ref l0)] [] M (xQv Q) := by
  unfold FX9_hungerOnGround at h
  refine x_iconst dX9_hungerOnGround_0 kc_0 1 rfl ?_
  refine x_istore_n dX9_hungerOnGround_1 (Nat.le_of_ble_eq_true rfl) [(0, .ref l0), (1, .int 0)] rfl 2 rfl ?_
  exact nX9_hungerOnGround_2 hk_l0 h
theorem cX9_hungerOnGround_ {Q : Mem → Prop} {l0 : Nat} {M : Mem} (hk_l0 : SHk l0 = 9) (h : FX9_hungerOnGround Q l0 M) : xM yX9_hungerOnGround cX9_hungerOnGround 3 none 2 [.ref l0] M (xQv Q) := xM_of (by decide +kernel) (Nat.le_of_ble_eq_true rfl) (eX9_hungerOnGround hk_l0 h)
theorem kX9_hungerOnGround {own : String} {cc : ByteArray} {nL : Nat} {rt : Option FieldType} {d pc ix : Nat} {L : List (Nat × Value)} {st : List Value} {M : Mem} {Rt : xGt → Array Value → State → Outcome → State → Prop} {Q : Mem → Prop} {l0 : Nat} (hd : decode cc pc = .ok (.invokevirtual ix, 3)) (q : Nat) (hq : pc + 3 = q) (hk_l0 : SHk l0 = 9) (w1 : Cond.methodLink own ix yX9_hungerOnGround ∈ xTs) (hr : 2 < d) (hst : (st.map fun v => v.category).sum ≤ 8) (h : FX9_hungerOnGround Q l0 M) (k : ∀ (N : Mem), Q N → xX own cc nL rt d q L st N Rt) : xX own cc nL rt d pc L (.ref l0 :: st) M Rt :=
  x_callV_v (n := 0) (As := []) hd q hq hk_l0 (by decide) rfl rfl w1 kw3_129 kw3_130 kw1_3 kw3_131 (by decide +kernel) rfl hr (by decide) hst _ rfl (cX9_hungerOnGround_ hk_l0 h) k
