def NX12_readTenets_31 (Q : Int32 → Mem → Prop) (s0 : Nat) (s1 : Int32) (M : Mem) : Prop :=
  FX12_errs (fun (r2 : Int32) (M1 : Mem) => Q r2 M1) s0 s1 M
theorem nX12_readTenets_31 {Q : Int32 → Mem → Prop} {s0 : Nat} {s1 : Int32} {M : Mem} (hk_s0 : SHk s0 = 12) (h : NX12_readTenets_31 Q s0 s1 M) : xX RX12 cX12_readTenets 2 (some .int) 7 31 [] [.int s1, .ref s0] M (xQi Q) := by
  unfold NX12_readTenets_31 at h
  refine kX12_errs dX12_readTenets_31 34 rfl hk_s0 kw6_178 (Nat.le_of_ble_eq_true rfl) (Nat.le_of_ble_eq_true rfl) h (fun r2 M1 h => ?_)
  exact x_iret dX12_readTenets_34 h
def lbX12_readTenets_2 (Q : Int32 → Mem → Prop) (l0 : Nat) (B2 : Int32 → Mem → Prop) (l1 : Int32) (M : Mem) : Prop :=
  ((¬ (M l0 14) = 3 → ((¬ (M l0 14) = 0 → FX12_errs (fun (r4 : Int32) (M3 : Mem) => Q r4 M3) l0 1 M) ∧ ((M l0 14) = 0 → Q l1 M))) ∧ ((M l0 14) = 3 → ((¬ l1 = 16 → FX12_readTenet (fun (r6 : Int32) (M5 : Mem) => ((¬ r6 = (-1) → B2 (l1 + 1) M5) ∧ (r6 = (-1) → Q (-1) M5))) l0 (32 + (2 * l1)) M) ∧ (l1 = 16 → (((M l0 15) ≤ 15 → NX12_readTenets_31 Q l0 3 M) ∧ (¬ (M l0 15) ≤ 15 → NX12_readTenets_31 Q l0 2 M))))))
def NX12_readTenets_2 (Q : Int32 → Mem → Prop) (l0 : Nat) (l1 : Int32) (M : Mem) : Prop := xlp (fun (B : Int32 × Mem → Prop) a => lbX12_readTenets_2 Q l0 (fun l1 M => B (l1, M)) a.1 a.2) (l1, M)
theorem nX12_readTenets_2 {Q : Int32 → Mem → Prop} {l0 : Nat} {l1 : Int32} {M : Mem} (hk_l0 : SHk l0 = 12) (h : NX12_readTenets_2 Q l0 l1 M) : xX RX12 cX12_readTenets 2 (some .int) 7 2 [(0, .ref l0), (1, .int l1)] [] M (xQi Q) := by
  obtain ⟨n, h⟩ := h
  have hB2 : ∀ (n : Nat) (l1 : Int32) (M : Mem), xlpn (fun (B : Int32 × Mem → Prop) a => lbX12_readTenets_2 Q l0 (fun l1 M => B (l1, M)) a.1 a.2) n (l1, M) → xX RX12 cX12_readTenets 2 (some .int) 7 2 [(0, .ref l0), (1, .int l1)] [] M (xQi Q) := by
    intro n
    induction n with
    | zero => intro l1 M h; exact False.elim h
    | succ n ih =>
      intro l1 M h
      have hB2 := ih
      have h : lbX12_readTenets_2 Q l0 (fun l1 M => xlpn (fun (B : Int32 × Mem → Prop) a => lbX12_readTenets_2 Q l0 (fun l1 M => B (l1, M)) a.1 a.2) n (l1, M)) l1 M := h
      unfold lbX12_readTenets_2 at h
      refine x_aload_n dX12_readTenets_2 rfl 3 rfl ?_
      refine gf12_14 dX12_readTenets_3 6 rfl hk_l0 kw5_173 ?_
      refine x_iconst dX12_readTenets_6 kc_3 7 rfl ?_
      refine x_icmp_ne dX12_readTenets_7 58 10 rfl rfl (fun hc => ?_) (fun hc => ?_)
      · have h := h.1 hc
        refine x_aload_n dX12_readTenets_58 rfl 59 rfl ?_
        refine gf12_14 dX12_readTenets_59 62 rfl hk_l0 kw5_173 ?_
        refine x_if_ne dX12_readTenets_62 69 65 rfl rfl (fun hc => ?_) (fun hc => ?_)
        · have h := h.1 hc
          refine x_aload_n dX12_readTenets_69 rfl 70 rfl ?_
          refine x_iconst dX12_readTenets_70 kc_1 71 rfl ?_
          refine kX12_errs dX12_readTenets_71 74 rfl hk_l0 kw6_178 (Nat.le_of_ble_eq_true rfl) (Nat.le_of_ble_eq_true rfl) h (fun r4 M3 h => ?_)
          exact x_iret dX12_readTenets_74 h
        · have h := h.2 hc
          refine x_iload_n dX12_readTenets_65 rfl 66 rfl ?_
          refine x_goto dX12_readTenets_66 74 rfl ?_
          exact x_iret dX12_readTenets_74 h
      · have h := h.2 hc
        refine x_iload_n dX12_readTenets_10 rfl 11 rfl ?_
        refine x_bipush dX12_readTenets_11 kb_16 13 rfl ?_
        refine x_icmp_ne dX12_readTenets_13 35 16 rfl rfl (fun hc => ?_) (fun hc => ?_)
        · have h := h.1 hc
          refine x_aload_n dX12_readTenets_35 rfl 36 rfl ?_
          refine x_bipush dX12_readTenets_36 kb_32 38 rfl ?_
          refine x_iconst dX12_readTenets_38 kc_2 39 rfl ?_
          refine x_iload_n dX12_readTenets_39 rfl 40 rfl ?_
          refine x_imul dX12_readTenets_40 41 rfl ?_
          refine x_iadd dX12_readTenets_41 42 rfl ?_
          refine kX12_readTenet dX12_readTenets_42 45 rfl hk_l0 kw6_214 (Nat.le_of_ble_eq_true rfl) (Nat.le_of_ble_eq_true rfl) h (fun r6 M5 h => ?_)
          refine x_iconst dX12_readTenets_45 kc_m1 46 rfl ?_
          refine x_icmp_ne dX12_readTenets_46 51 49 rfl rfl (fun hc => ?_) (fun hc => ?_)
          · have h := h.1 hc
            refine x_iload_n dX12_readTenets_51 rfl 52 rfl ?_
            refine x_iconst dX12_readTenets_52 kc_1 53 rfl ?_
            refine x_iadd dX12_readTenets_53 54 rfl ?_
            refine x_istore_n dX12_readTenets_54 (Nat.le_of_ble_eq_true rfl) [(0, .ref l0), (1, .int (l1 + 1))] rfl 55 rfl ?_
            refine x_goto dX12_readTenets_55 2 rfl ?_
            exact hB2 _ _ h
          · have h := h.2 hc
            refine x_iconst dX12_readTenets_49 kc_m1 50 rfl ?_
            exact x_iret dX12_readTenets_50 h
        · have h := h.2 hc
          refine x_aload_n dX12_readTenets_16 rfl 17 rfl ?_
          refine x_aload_n dX12_readTenets_17 rfl 18 rfl ?_
          refine gf12_15 dX12_readTenets_18 21 rfl hk_l0 kw5_174 ?_
          refine x_bipush dX12_readTenets_21 kb_15 23 rfl ?_
          refine x_icmp_le dX12_readTenets_23 30 26 rfl rfl (fun hc => ?_) (fun hc => ?_)
          · have h := h.1 hc
            refine x_iconst dX12_readTenets_30 kc_3 31 rfl ?_
            refine x_weak [] [] rfl ?_
            exact nX12_readTenets_31 hk_l0 h
          · have h := h.2 hc
            refine x_iconst dX12_readTenets_26 kc_2 27 rfl ?_
            refine x_goto dX12_readTenets_27 31 rfl ?_
            refine x_weak [] [] rfl ?_
            exact nX12_readTenets_31 hk_l0 h
  exact hB2 n l1 M h
def FX12_readTenets (Q : Int32 → Mem → Prop) (l0 : Nat) (M : Mem) : Prop :=
  NX12_readTenets_2 Q l0 0 M
theorem eX12_readTenets {Q : Int32 → Mem → Prop} {l0 : Nat} {M : Mem} (hk_l0 : SHk l0 = 12) (h : FX12_readTenets Q l0 M) : xX RX12 cX12_readTenets 2 (some .int) 7 0 [(0, .ref l0)] [] M (xQi Q) := by
  unfold FX12_readTenets at h
  refine x_iconst dX12_readTenets_0 kc_0 1 rfl ?_
  refine x_istore_n dX12_readTenets_1 (Nat.le_of_ble_eq_true rfl) [(0, .ref l0), (1, .int 0)] rfl 2 rfl ?_
  exact nX12_readTenets_2 hk_l0 h
theorem cX12_readTenets_ {Q : Int32 → Mem → Prop} {l0 : Nat} {M : Mem} (hk_l0 : SHk l0 = 12) (h : FX12_readTenets Q l0 M) : xM yX12_readTenets cX12_readTenets 2 (some .int) 7 [.ref l0] M (xQi Q) := xM_of (by decide +kernel) (Nat.le_of_ble_eq_true rfl) (eX12_readTenets hk_l0 h)
theorem kX12_readTenets {own : String} {cc : ByteArray} {nL : Nat} {rt : Option FieldType} {d pc ix : Nat} {L : List (Nat × Value)} {st : List Value} {M : Mem} {Rt : xGt → Array Value → State → Outcome → State → Prop} {Q : Int32 → Mem → Prop} {l0 : Nat} (hd : decode cc pc = .ok (.invokevirtual ix, 3)) (q : Nat) (hq : pc + 3 = q) (hk_l0 : SHk l0 = 12) (w1 : Cond.methodLink own ix yX12_readTenets ∈ xTs) (hr : 7 < d) (hst : (st.map fun v => v.category).sum ≤ 8) (h : FX12_readTenets Q l0 M) (k : ∀ (r : Int32) (N : Mem), Q r N → xX own cc nL rt d q L (.int r :: st) N Rt) : xX own cc nL rt d pc L (.ref l0 :: st) M Rt :=
  x_callV_i (n := 0) (As := []) hd q hq hk_l0 (by decide) rfl rfl w1 kw6_212 ks4_12 kw1_14 kw6_213 (by decide +kernel) rfl hr (by decide) hst _ rfl (cX12_readTenets_ hk_l0 h) k
def FX12_readsText (Q : Int32 → Mem → Prop) (l0 : Nat) (l1 : Int32) (M : Mem) : Prop :=
  ∀ M1 : Mem, M1 = xu M l0 24 0 → FX12_reads (fun (M2 : Mem) => ((¬ l1 = 1 → ((¬ l1 = 2 → ((¬ l1 = 3 → FX12_readLaw (fun (r4 : Int32) (M3 : Mem) => Q r4 M3) l0 M2) ∧ (l1 = 3 → FX12_readTenets (fun (r6 : Int32) (M5 : Mem) => Q r6 M5) l0 M2))) ∧ (l1 = 2 → FX12_readPlan (fun (r8 : Int32) (M7 : Mem) => Q r8 M7) l0 M2))) ∧ (l1 = 1 → FX12_readSky (fun (r10 : Int32) (M9 : Mem) => Q r10 M9) l0 M2))) l0 M1
theorem eX12_readsText {Q : Int32 → Mem → Prop} {l0 : Nat} {l1 : Int32} {M : Mem} (hk_l0 : SHk l0 = 12) (h : FX12_readsText Q l0 l1 M) : xX RX12 cX12_readsText 2 (some .int) 10 0 [(0, .ref l0), (1, .int l1)] [] M (xQi Q) := by
  unfold FX12_readsText at h
  refine x_aload_n dX12_readsText_0 rfl 1 rfl ?_
  refine x_iconst dX12_readsText_1 kc_0 2 rfl ?_
  refine pf12_24 dX12_readsText_2 5 rfl hk_l0 kw5_183 (x_mem (fun M1 hM1 => ?_))
  have h := h M1 hM1
  refine x_aload_n dX12_readsText_5 rfl 6 rfl ?_
  refine kX12_reads dX12_readsText_6 9 rfl hk_l0 kw6_146 (Nat.le_of_ble_eq_true rfl) (Nat.le_of_ble_eq_true rfl) h (fun M2 h => ?_)
  refine x_iload_n dX12_readsText_9 rfl 10 rfl ?_
  refine x_iconst dX12_readsText_10 kc_1 11 rfl ?_
  refine x_icmp_ne dX12_readsText_11 19 14 rfl rfl (fun hc => ?_) (fun hc => ?_)
  · have h := h.1 hc
    refine x_iload_n dX12_readsText_19 rfl 20 rfl ?_
    refine x_iconst dX12_readsText_20 kc_2 21 rfl ?_
    refine x_icmp_ne dX12_readsText_21 29 24 rfl rfl (fun hc => ?_) (fun hc => ?_)
    · have h := h.1 hc
      refine x_iload_n dX12_readsText_29 rfl 30 rfl ?_
      refine x_iconst dX12_readsText_30 kc_3 31 rfl ?_
      refine x_icmp_ne dX12_readsText_31 41 34 rfl rfl (fun hc => ?_) (fun hc => ?_)
      · have h := h.1 hc
        refine x_aload_n dX12_readsText_41 rfl 42 rfl ?_
        refine kX12_readLaw dX12_readsText_42 45 rfl hk_l0 kw6_218 (Nat.le_of_ble_eq_true rfl) (Nat.le_of_ble_eq_true rfl) h (fun r4 M3 h => ?_)
        exact x_iret dX12_readsText_45 h
      · have h := h.2 hc
        refine x_aload_n dX12_readsText_34 rfl 35 rfl ?_
        refine kX12_readTenets dX12_readsText_35 38 rfl hk_l0 kw6_210 (Nat.le_of_ble_eq_true rfl) (Nat.le_of_ble_eq_true rfl) h (fun r6 M5 h => ?_)
        refine x_goto dX12_readsText_38 45 rfl ?_
        exact x_iret dX12_readsText_45 h
    · have h := h.2 hc
      refine x_aload_n dX12_readsText_24 rfl 25 rfl ?_
      refine kX12_readPlan dX12_readsText_25 28 rfl hk_l0 kw6_198 (Nat.le_of_ble_eq_true rfl) (Nat.le_of_ble_eq_true rfl) h (fun r8 M7 h => ?_)
      exact x_iret dX12_readsText_28 h
  · have h := h.2 hc
    refine x_aload_n dX12_readsText_14 rfl 15 rfl ?_
    refine kX12_readSky dX12_readsText_15 18 rfl hk_l0 kw6_170 (Nat.le_of_ble_eq_true rfl) (Nat.le_of_ble_eq_true rfl) h (fun r10 M9 h => ?_)
    exact x_iret dX12_readsText_18 h
theorem cX12_readsText_ {Q : Int32 → Mem → Prop} {l0 : Nat} {l1 : Int32} {M : Mem} (hk_l0 : SHk l0 = 12) (h : FX12_readsText Q l0 l1 M) : xM yX12_readsText cX12_readsText 2 (some .int) 10 [.ref l0, .int l1] M (xQi Q) := xM_of (by decide +kernel) (Nat.le_of_ble_eq_true rfl) (eX12_readsText hk_l0 h)
theorem kX12_readsText {own : String} {cc : ByteArray} {nL : Nat} {rt : Option FieldType} {d pc ix : Nat} {L : List (Nat × Value)} {st : List Value} {M : Mem} {Rt : xGt → Array Value → State → Outcome → State → Prop} {Q : Int32 → Mem → Prop} {l0 : Nat} {l1 : Int32} (hd : decode cc pc = .ok (.invokevirtual ix, 3)) (q : Nat) (hq : pc + 3 = q) (hk_l0 : SHk l0 = 12) (w1 : Cond.methodLink own ix yX12_readsText ∈ xTs) (hr : 10 < d) (hst : (st.map fun v => v.category).sum ≤ 8) (h : FX12_readsText Q l0 l1 M) (k : ∀ (r : Int32) (N : Mem), Q r N → xX own cc nL rt d q L (.int r :: st) N Rt) : xX own cc nL rt d pc L (.int l1 :: .ref l0 :: st) M Rt :=
  x_callV_i (n := 1) (As := [.int l1]) hd q hq hk_l0 (by decide) rfl rfl w1 kw6_144 ks3_11 kw1_14 kw6_145 (by decide +kernel) rfl hr (by decide) hst _ rfl (cX12_readsText_ hk_l0 h) k
def lbX12_takesOther_7 (Q : Mem → Prop) (l0 : Nat) (l2 : Int32) (B7 : Int32 → Mem → Prop) (l3 : Int32) (M : Mem) : Prop :=
  (((2 * l2) ≤ l3 → ∀ M1 : Mem, M1 = xu M l0 33 l2 → Q M1) ∧ (¬ (2 * l2) ≤ l3 → vp_in (32 + l3) 64 ∧ vp_in l3 64 ∧ ∀ M2 : Mem, M2 = xu M (l0 + 16) (ix l3) (M (l0 + 16) (ix (32 + l3))) → B7 (l3 + 1) M2))
def NX12_takesOther_7 (Q : Mem → Prop) (l0 : Nat) (l2 : Int32) (l3 : Int32) (M : Mem) : Prop := xlp (fun (B : Int32 × Mem → Prop) a => lbX12_takesOther_7 Q l0 l2 (fun l3 M => B (l3, M)) a.1 a.2) (l3, M)
theorem nX12_takesOther_7 {Q : Mem → Prop} {l0 : Nat} {l2 : Int32} {l3 : Int32} {M : Mem} (hk_l0 : SHk l0 = 12) (h : NX12_takesOther_7 Q l0 l2 l3 M) : xX RX12 cX12_takesOther 4 none 1 7 [(0, .ref l0), (2, .int l2), (3, .int l3)] [] M (xQv Q) := by
  obtain ⟨n, h⟩ := h
  have hB7 : ∀ (n : Nat) (l3 : Int32) (M : Mem), xlpn (fun (B : Int32 × Mem → Prop) a => lbX12_takesOther_7 Q l0 l2 (fun l3 M => B (l3, M)) a.1 a.2) n (l3, M) → xX RX12 cX12_takesOther 4 none 1 7 [(0, .ref l0), (2, .int l2), (3, .int l3)] [] M (xQv Q) := by
    intro n
    induction n with
    | zero => intro l3 M h; exact False.elim h
    | succ n ih =>
      intro l3 M h
      have hB7 := ih
      have h : lbX12_takesOther_7 Q l0 l2 (fun l3 M => xlpn (fun (B : Int32 × Mem → Prop) a => lbX12_takesOther_7 Q l0 l2 (fun l3 M => B (l3, M)) a.1 a.2) n (l3, M)) l3 M := h
      unfold lbX12_takesOther_7 at h
      refine x_iload_n dX12_takesOther_7 rfl 8 rfl ?_
      refine x_iconst dX12_takesOther_8 kc_2 9 rfl ?_
      refine x_iload_n dX12_takesOther_9 rfl 10 rfl ?_
      refine x_imul dX12_takesOther_10 11 rfl ?_
      refine x_icmp_ge dX12_takesOther_11 35 14 rfl rfl (fun hc => ?_) (fun hc => ?_)
      · have h := h.1 hc
        refine x_aload_n dX12_takesOther_35 rfl 36 rfl ?_
        refine x_iload_n dX12_takesOther_36 rfl 37 rfl ?_
        refine pf12_33 dX12_takesOther_37 40 rfl hk_l0 kw5_192 (x_mem (fun M1 hM1 => ?_))
        have h := h M1 hM1
        refine x_goto dX12_takesOther_40 126 rfl ?_
        exact x_vret dX12_takesOther_126 h
      · have h := h.2 hc
        refine x_aload_n dX12_takesOther_14 rfl 15 rfl ?_
        refine gf12_34 dX12_takesOther_15 18 rfl hk_l0 kw5_193 ?_
        refine x_iload_n dX12_takesOther_18 rfl 19 rfl ?_
        refine x_aload_n dX12_takesOther_19 rfl 20 rfl ?_
        refine gf12_34 dX12_takesOther_20 23 rfl hk_l0 kw5_193 ?_
        refine x_bipush dX12_takesOther_23 kb_32 25 rfl ?_
        refine x_iload_n dX12_takesOther_25 rfl 26 rfl ?_
        refine x_iadd dX12_takesOther_26 27 rfl ?_
        obtain ⟨hin, h⟩ := h
        refine x_iaload dX12_takesOther_27 (ly12_34 hk_l0) hin 28 rfl ?_
        obtain ⟨hin, h⟩ := h
        refine x_iastore dX12_takesOther_28 (ly12_34 hk_l0) hin 29 rfl (x_mem (fun M2 hM2 => ?_))
        have h := h M2 hM2
        refine x_iinc dX12_takesOther_29 rfl (congrArg (l3 + ·) kc_1) (Nat.le_of_ble_eq_true rfl) [(0, .ref l0), (2, .int l2), (3, .int (l3 + 1))] rfl 32 rfl ?_
        refine x_goto dX12_takesOther_32 7 rfl ?_
        exact hB7 _ _ h
  exact hB7 n l3 M h
def lbX12_takesOther_50 (Q : Mem → Prop) (l0 : Nat) (l2 : Int32) (B50 : Int32 → Mem → Prop) (l3 : Int32) (M : Mem) : Prop :=
  (((4 * l2) ≤ l3 → ∀ M3 : Mem, M3 = xu M l0 35 l2 → ∀ M4 : Mem, M4 = xu M3 l0 3 0 → Q M4) ∧ (¬ (4 * l2) ≤ l3 → vp_in (64 + l3) 128 ∧ vp_in l3 128 ∧ ∀ M5 : Mem, M5 = xu M (l0 + 17) (ix l3) (M (l0 + 17) (ix (64 + l3))) → B50 (l3 + 1) M5))
def NX12_takesOther_50 (Q : Mem → Prop) (l0 : Nat) (l2 : Int32) (l3 : Int32) (M : Mem) : Prop := xlp (fun (B : Int32 × Mem → Prop) a => lbX12_takesOther_50 Q l0 l2 (fun l3 M => B (l3, M)) a.1 a.2) (l3, M)
theorem nX12_takesOther_50 {Q : Mem → Prop} {l0 : Nat} {l2 : Int32} {l3 : Int32} {M : Mem} (hk_l0 : SHk l0 = 12) (h : NX12_takesOther_50 Q l0 l2 l3 M) : xX RX12 cX12_takesOther 4 none 1 50 [(0, .ref l0), (2, .int l2), (3, .int l3)] [] M (xQv Q) := by
  obtain ⟨n, h⟩ := h
  have hB50 : ∀ (n : Nat) (l3 : Int32) (M : Mem), xlpn (fun (B : Int32 × Mem → Prop) a => lbX12_takesOther_50 Q l0 l2 (fun l3 M => B (l3, M)) a.1 a.2) n (l3, M) → xX RX12 cX12_takesOther 4 none 1 50 [(0, .ref l0), (2, .int l2), (3, .int l3)] [] M (xQv Q) := by
    intro n
    induction n with
    | zero => intro l3 M h; exact False.elim h
    | succ n ih =>
      intro l3 M h
      have hB50 := ih
      have h : lbX12_takesOther_50 Q l0 l2 (fun l3 M => xlpn (fun (B : Int32 × Mem → Prop) a => lbX12_takesOther_50 Q l0 l2 (fun l3 M => B (l3, M)) a.1 a.2) n (l3, M)) l3 M := h
      unfold lbX12_takesOther_50 at h
      refine x_iload_n dX12_takesOther_50 rfl 51 rfl ?_
      refine x_iconst dX12_takesOther_51 kc_4 52 rfl ?_
      refine x_iload_n dX12_takesOther_52 rfl 53 rfl ?_
      refine x_imul dX12_takesOther_53 54 rfl ?_
      refine x_icmp_ge dX12_takesOther_54 78 57 rfl rfl (fun hc => ?_) (fun hc => ?_)
      · have h := h.1 hc
        refine x_aload_n dX12_takesOther_78 rfl 79 rfl ?_
        refine x_iload_n dX12_takesOther_79 rfl 80 rfl ?_
        refine pf12_35 dX12_takesOther_80 83 rfl hk_l0 kw5_194 (x_mem (fun M3 hM3 => ?_))
        have h := h M3 hM3
        refine x_aload_n dX12_takesOther_83 rfl 84 rfl ?_
        refine x_iconst dX12_takesOther_84 kc_0 85 rfl ?_
        refine pf12_3 dX12_takesOther_85 88 rfl hk_l0 kw5_162 (x_mem (fun M4 hM4 => ?_))
        have h := h M4 hM4
        refine x_goto dX12_takesOther_88 126 rfl ?_
        exact x_vret dX12_takesOther_126 h
      · have h := h.2 hc
        refine x_aload_n dX12_takesOther_57 rfl 58 rfl ?_
        refine gf12_36 dX12_takesOther_58 61 rfl hk_l0 kw5_195 ?_
        refine x_iload_n dX12_takesOther_61 rfl 62 rfl ?_
        refine x_aload_n dX12_takesOther_62 rfl 63 rfl ?_
        refine gf12_36 dX12_takesOther_63 66 rfl hk_l0 kw5_195 ?_
        refine x_bipush dX12_takesOther_66 kb_64 68 rfl ?_
        refine x_iload_n dX12_takesOther_68 rfl 69 rfl ?_
        refine x_iadd dX12_takesOther_69 70 rfl ?_
        obtain ⟨hin, h⟩ := h
        refine x_iaload dX12_takesOther_70 (ly12_36 hk_l0) hin 71 rfl ?_
        obtain ⟨hin, h⟩ := h
        refine x_iastore dX12_takesOther_71 (ly12_36 hk_l0) hin 72 rfl (x_mem (fun M5 hM5 => ?_))
        have h := h M5 hM5
        refine x_iinc dX12_takesOther_72 rfl (congrArg (l3 + ·) kc_1) (Nat.le_of_ble_eq_true rfl) [(0, .ref l0), (2, .int l2), (3, .int (l3 + 1))] rfl 75 rfl ?_
        refine x_goto dX12_takesOther_75 50 rfl ?_
        exact hB50 _ _ h
  exact hB50 n l3 M h
def lbX12_takesOther_93 (Q : Mem → Prop) (l0 : Nat) (l2 : Int32) (B93 : Int32 → Mem → Prop) (l3 : Int32) (M : Mem) : Prop :=
  (((2 * l2) ≤ l3 → ∀ M6 : Mem, M6 = xu M l0 37 l2 → Q M6) ∧ (¬ (2 * l2) ≤ l3 → vp_in (32 + l3) 64 ∧ vp_in l3 64 ∧ ∀ M7 : Mem, M7 = xu M (l0 + 18) (ix l3) (M (l0 + 18) (ix (32 + l3))) → B93 (l3 + 1) M7))
def NX12_takesOther_93 (Q : Mem → Prop) (l0 : Nat) (l2 : Int32) (l3 : Int32) (M : Mem) : Prop := xlp (fun (B : Int32 × Mem → Prop) a => lbX12_takesOther_93 Q l0 l2 (fun l3 M => B (l3, M)) a.1 a.2) (l3, M)
theorem nX12_takesOther_93 {Q : Mem → Prop} {l0 : Nat} {l2 : Int32} {l3 : Int32} {M : Mem} (hk_l0 : SHk l0 = 12) (h : NX12_takesOther_93 Q l0 l2 l3 M) : xX RX12 cX12_takesOther 4 none 1 93 [(0, .ref l0), (2, .int l2), (3, .int l3)] [] M (xQv Q) := by
  obtain ⟨n, h⟩ := h
  have hB93 : ∀ (n : Nat) (l3 : Int32) (M : Mem), xlpn (fun (B : Int32 × Mem → Prop) a => lbX12_takesOther_93 Q l0 l2 (fun l3 M => B (l3, M)) a.1 a.2) n (l3, M) → xX RX12 cX12_takesOther 4 none 1 93 [(0, .ref l0), (2, .int l2), (3, .int l3)] [] M (xQv Q) := by
    intro n
    induction n with
    | zero => intro l3 M h; exact False.elim h
    | succ n ih =>
      intro l3 M h
      have hB93 := ih
      have h : lbX12_takesOther_93 Q l0 l2 (fun l3 M => xlpn (fun (B : Int32 × Mem → Prop) a => lbX12_takesOther_93 Q l0 l2 (fun l3 M => B (l3, M)) a.1 a.2) n (l3, M)) l3 M := h
      unfold lbX12_takesOther_93 at h
      refine x_iload_n dX12_takesOther_93 rfl 94 rfl ?_
      refine x_iconst dX12_takesOther_94 kc_2 95 rfl ?_
      refine x_iload_n dX12_takesOther_95 rfl 96 rfl ?_
      refine x_imul dX12_takesOther_96 97 rfl ?_
      refine x_icmp_ge dX12_takesOther_97 121 100 rfl rfl (fun hc => ?_) (fun hc => ?_)
      · have h := h.1 hc
        refine x_aload_n dX12_takesOther_121 rfl 122 rfl ?_
        refine x_iload_n dX12_takesOther_122 rfl 123 rfl ?_
        refine pf12_37 dX12_takesOther_123 126 rfl hk_l0 kw5_196 (x_mem (fun M6 hM6 => ?_))
        have h := h M6 hM6
        exact x_vret dX12_takesOther_126 h
      · have h := h.2 hc
        refine x_aload_n dX12_takesOther_100 rfl 101 rfl ?_
        refine gf12_38 dX12_takesOther_101 104 rfl hk_l0 kw5_197 ?_
        refine x_iload_n dX12_takesOther_104 rfl 105 rfl ?_
        refine x_aload_n dX12_takesOther_105 rfl 106 rfl ?_
        refine gf12_38 dX12_takesOther_106 109 rfl hk_l0 kw5_197 ?_
        refine x_bipush dX12_takesOther_109 kb_32 111 rfl ?_
        refine x_iload_n dX12_takesOther_111 rfl 112 rfl ?_
        refine x_iadd dX12_takesOther_112 113 rfl ?_
        obtain ⟨hin, h⟩ := h
        refine x_iaload dX12_takesOther_113 (ly12_38 hk_l0) hin 114 rfl ?_
        obtain ⟨hin, h⟩ := h
        refine x_iastore dX12_takesOther_114 (ly12_38 hk_l0) hin 115 rfl (x_mem (fun M7 hM7 => ?_))
        have h := h M7 hM7
        refine x_iinc dX12_takesOther_115 rfl (congrArg (l3 + ·) kc_1) (Nat.le_of_ble_eq_true rfl) [(0, .ref l0), (2, .int l2), (3, .int (l3 + 1))] rfl 118 rfl ?_
        refine x_goto dX12_takesOther_118 93 rfl ?_
        exact hB93 _ _ h
  exact hB93 n l3 M h
def FX12_takesOther (Q : Mem → Prop) (l0 : Nat) (l1 : Int32) (l2 : Int32) (M : Mem) : Prop :=
  ((¬ l1 = 1 → ((¬ l1 = 2 → NX12_takesOther_93 Q l0 l2 0 M) ∧ (l1 = 2 → NX12_takesOther_50 Q l0 l2 0 M))) ∧ (l1 = 1 → NX12_takesOther_7 Q l0 l2 0 M))
theorem eX12_takesOther {Q : Mem → Prop} {l0 : Nat} {l1 : Int32} {l2 : Int32} {M : Mem} (hk_l0 : SHk l0 = 12) (h : FX12_takesOther Q l0 l1 l2 M) : xX RX12 cX12_takesOther 4 none 1 0 [(0, .ref l0), (1, .int l1), (2, .int l2)] [] M (xQv Q) := by
  unfold FX12_takesOther at h
  refine x_iload_n dX12_takesOther_0 rfl 1 rfl ?_
  refine x_iconst dX12_takesOther_1 kc_1 2 rfl ?_
  refine x_icmp_ne dX12_takesOther_2 43 5 rfl rfl (fun hc => ?_) (fun hc => ?_)
  · have h := h.1 hc
    refine x_iload_n dX12_takesOther_43 rfl 44 rfl ?_
    refine x_iconst dX12_takesOther_44 kc_2 45 rfl ?_
    refine x_icmp_ne dX12_takesOther_45 91 48 rfl rfl (fun hc => ?_) (fun hc => ?_)
    · have h := h.1 hc
      refine x_iconst dX12_takesOther_91 kc_0 92 rfl ?_
      refine x_istore_n dX12_takesOther_92 (Nat.le_of_ble_eq_true rfl) [(0, .ref l0), (1, .int l1), (2, .int l2), (3, .int 0)] rfl 93 rfl ?_
      refine x_weak [(0, .ref l0), (2, .int l2), (3, .int 0)] [0, 2, 3] rfl ?_
      exact nX12_takesOther_93 hk_l0 h
    · have h := h.2 hc
      refine x_iconst dX12_takesOther_48 kc_0 49 rfl ?_
      refine x_istore_n dX12_takesOther_49 (Nat.le_of_ble_eq_true rfl) [(0, .ref l0), (1, .int l1), (2, .int l2), (3, .int 0)] rfl 50 rfl ?_
      refine x_weak [(0, .ref l0), (2, .int l2), (3, .int 0)] [0, 2, 3] rfl ?_
      exact nX12_takesOther_50 hk_l0 h
  · have h := h.2 hc
    refine x_iconst dX12_takesOther_5 kc_0 6 rfl ?_
    refine x_istore_n dX12_takesOther_6 (Nat.le_of_ble_eq_true rfl) [(0, .ref l0), (1, .int l1), (2, .int l2), (3, .int 0)] rfl 7 rfl ?_
    refine x_weak [(0, .ref l0), (2, .int l2), (3, .int 0)] [0, 2, 3] rfl ?_
    exact nX12_takesOther_7 hk_l0 h
theorem cX12_takesOther_ {Q : Mem → Prop} {l0 : Nat} {l1 : Int32} {l2 : Int32} {M : Mem} (hk_l0 : SHk l0 = 12) (h : FX12_takesOther Q l0 l1 l2 M) : xM yX12_takesOther cX12_takesOther 4 none 1 [.ref l0, .int l1, .int l2] M (xQv Q) := xM_of (by decide +kernel) (Nat.le_of_ble_eq_true rfl) (eX12_takesOther hk_l0 h)
theorem kX12_takesOther {own : String} {cc : ByteArray} {nL : Nat} {rt : Option FieldType} {d pc ix : Nat} {L : List (Nat × Value)} {st : List Value} {M : Mem} {Rt : xGt → Array Value → State → Outcome → State → Prop} {Q : Mem → Prop} {l0 : Nat} {l1 : Int32} {l2 : Int32} (hd : decode cc pc = .ok (.invokevirtual ix, 3)) (q : Nat) (hq : pc + 3 = q) (hk_l0 : SHk l0 = 12) (w1 : Cond.methodLink own ix yX12_takesOther ∈ xTs) (hr : 1 < d) (hst : (st.map fun v => v.category).sum ≤ 8) (h : FX12_takesOther Q l0 l1 l2 M) (k : ∀ (N : Mem), Q N → xX own cc nL rt d q L st N Rt) : xX own cc nL rt d pc L (.int l2 :: .int l1 :: .ref l0 :: st) M Rt :=
  x_callV_v (n := 2) (As := [.int l1, .int l2]) hd q hq hk_l0 (by decide) rfl rfl w1 kw7_28 ks5_10 kw1_14 kw7_29 (by decide +kernel) rfl hr (by decide) hst _ rfl (cX12_takesOther_ hk_l0 h) k
def NX12_text_69 (Q : Int32 → Mem → Prop) (l0 : Nat) (l1 : Int32) (l2 : Int32) (M : Mem) : Prop :=
  ∀ M1 : Mem, M1 = xu M l0 11 0 → ((¬ l2 = (-1) → ((¬ l1 = 0 → FX12_takesOther (fun (M2 : Mem) => Q l2 M2) l0 l1 l2 M1) ∧ (l1 = 0 → FX12_takesLaw (fun (M3 : Mem) => Q l2 M3) l0 l2 M1))) ∧ (l2 = (-1) → Q (-1) M1))
theorem nX12_text_69 {Q : Int32 → Mem → Prop} {l0 : Nat} {l1 : Int32} {l2 : Int32} {M : Mem} (hk_l0 : SHk l0 = 12) (h : NX12_text_69 Q l0 l1 l2 M) : xX RX12 cX12_text 3 (some .int) 11 69 [(0, .ref l0), (1, .int l1), (2, .int l2)] [] M (xQi Q) := by
  unfold NX12_text_69 at h
  refine x_aload_n dX12_text_69 rfl 70 rfl ?_
  refine x_iconst dX12_text_70 kc_0 71 rfl ?_
  refine pf12_11 dX12_text_71 74 rfl hk_l0 kw5_170 (x_mem (fun M1 hM1 => ?_))
  have h := h M1 hM1
  refine x_iload_n dX12_text_74 rfl 75 rfl ?_
  refine x_iconst dX12_text_75 kc_m1 76 rfl ?_
  refine x_icmp_ne dX12_text_76 81 79 rfl rfl (fun hc => ?_) (fun hc => ?_)
  · have h := h.1 hc
    refine x_iload_n dX12_text_81 rfl 82 rfl ?_
    refine x_if_ne dX12_text_82 93 85 rfl rfl (fun hc => ?_) (fun hc => ?_)
    · have h := h.1 hc
      refine x_aload_n dX12_text_93 rfl 94 rfl ?_
      refine x_iload_n dX12_text_94 rfl 95 rfl ?_
      refine x_iload_n dX12_text_95 rfl 96 rfl ?_
      refine kX12_takesOther dX12_text_96 99 rfl hk_l0 kw7_26 (Nat.le_of_ble_eq_true rfl) (Nat.le_of_ble_eq_true rfl) h (fun M2 h => ?_)
      refine x_iload_n dX12_text_99 rfl 100 rfl ?_
      exact x_iret dX12_text_100 h
    · have h := h.2 hc
      refine x_aload_n dX12_text_85 rfl 86 rfl ?_
      refine x_iload_n dX12_text_86 rfl 87 rfl ?_
      refine kX12_takesLaw dX12_text_87 90 rfl hk_l0 kw7_22 (Nat.le_of_ble_eq_true rfl) (Nat.le_of_ble_eq_true rfl) h (fun M3 h => ?_)
      refine x_goto dX12_text_90 99 rfl ?_
      refine x_iload_n dX12_text_99 rfl 100 rfl ?_
      exact x_iret dX12_text_100 h
  · have h := h.2 hc
    refine x_iconst dX12_text_79 kc_m1 80 rfl ?_
    exact x_iret dX12_text_80 h
def FX12_text (Q : Int32 → Mem → Prop) (l0 : Nat) (l1 : Int32) (M : Mem) : Prop :=
  ∀ M4 : Mem, M4 = xu M l0 0 0 → ∀ M5 : Mem, M5 = xu M4 l0 31 0 → ∀ M6 : Mem, M6 = xu M5 l0 32 (-1) → ∀ M7 : Mem, M7 = xu M6 l0 12 0 → ∀ M8 : Mem, M8 = xu M7 l0 25 0 → ∀ M9 : Mem, M9 = xu M8 l0 26 0 → FX12_isIn (fun (r10 : Bool) => ((r10 = false → NX12_text_69 Q l0 l1 (-1) M9) ∧ (r10 = true → FX12_readsText (fun (r12 : Int32) (M11 : Mem) => ((¬ r12 = (-1) → NX12_text_69 Q l0 l1 r12 M11) ∧ (r12 = (-1) → ∀ M13 : Mem, M13 = xu M11 l0 31 (M11 l0 29) → ∀ M14 : Mem, M14 = xu M13 l0 32 (M13 l0 30) → NX12_text_69 Q l0 l1 r12 M14))) l0 l1 M9))) l0 l1 0 3 M9
theorem eX12_text {Q : Int32 → Mem → Prop} {l0 : Nat} {l1 : Int32} {M : Mem} (hk_l0 : SHk l0 = 12) (h : FX12_text Q l0 l1 M) : xX RX12 cX12_text 3 (some .int) 11 0 [(0, .ref l0), (1, .int l1)] [] M (xQi Q) := by
  unfold FX12_text at h
  refine x_aload_n dX12_text_0 rfl 1 rfl ?_
  refine x_iconst dX12_text_1 kc_0 2 rfl ?_
  refine pf12_0 dX12_text_2 5 rfl hk_l0 kw5_159 (x_mem (fun M4 hM4 => ?_))
  have h := h M4 hM4
  refine x_aload_n dX12_text_5 rfl 6 rfl ?_
  refine x_iconst dX12_text_6 kc_0 7 rfl ?_
  refine pf12_31 dX12_text_7 10 rfl hk_l0 kw5_190 (x_mem (fun M5 hM5 => ?_))
  have h := h M5 hM5
  refine x_aload_n dX12_text_10 rfl 11 rfl ?_
  refine x_iconst dX12_text_11 kc_m1 12 rfl ?_
  refine pf12_32 dX12_text_12 15 rfl hk_l0 kw5_191 (x_mem (fun M6 hM6 => ?_))
  have h := h M6 hM6
  refine x_aload_n dX12_text_15 rfl 16 rfl ?_
  refine x_iconst dX12_text_16 kc_0 17 rfl ?_
  refine pf12_12 dX12_text_17 20 rfl hk_l0 kw5_171 (x_mem (fun M7 hM7 => ?_))
  have h := h M7 hM7
  refine x_aload_n dX12_text_20 rfl 21 rfl ?_
  refine x_iconst dX12_text_21 kc_0 22 rfl ?_
  refine pf12_25 dX12_text_22 25 rfl hk_l0 kw5_184 (x_mem (fun M8 hM8 => ?_))
  have h := h M8 hM8
  refine x_aload_n dX12_text_25 rfl 26 rfl ?_
  refine x_iconst dX12_text_26 kc_0 27 rfl ?_
  refine pf12_26 dX12_text_27 30 rfl hk_l0 kw5_185 (x_mem (fun M9 hM9 => ?_))
  have h := h M9 hM9
  refine x_iconst dX12_text_30 kc_m1 31 rfl ?_
  refine x_istore_n dX12_text_31 (Nat.le_of_ble_eq_true rfl) [(0, .ref l0), (1, .int l1), (2, .int (-1))] rfl 32 rfl ?_
  refine x_aload_n dX12_text_32 rfl 33 rfl ?_
  refine x_iload_n dX12_text_33 rfl 34 rfl ?_
  refine x_iconst dX12_text_34 kc_0 35 rfl ?_
  refine x_iconst dX12_text_35 kc_3 36 rfl ?_
  refine kX12_isIn dX12_text_36 39 rfl hk_l0 kw6_82 (Nat.le_of_ble_eq_true rfl) (Nat.le_of_ble_eq_true rfl) h (fun r10 h => ?_)
  refine x_if_eq_b dX12_text_39 69 42 rfl rfl (fun hc => ?_) (fun hc => ?_)
  · have h := h.1 hc
    exact nX12_text_69 hk_l0 h
  · have h := h.2 hc
    refine x_aload_n dX12_text_42 rfl 43 rfl ?_
    refine x_iload_n dX12_text_43 rfl 44 rfl ?_
    refine kX12_readsText dX12_text_44 47 rfl hk_l0 kw6_142 (Nat.le_of_ble_eq_true rfl) (Nat.le_of_ble_eq_true rfl) h (fun r12 M11 h => ?_)
    refine x_istore_n dX12_text_47 (Nat.le_of_ble_eq_true rfl) [(0, .ref l0), (1, .int l1), (2, .int r12)] rfl 48 rfl ?_
    refine x_iload_n dX12_text_48 rfl 49 rfl ?_
    refine x_iconst dX12_text_49 kc_m1 50 rfl ?_
    refine x_icmp_ne dX12_text_50 69 53 rfl rfl (fun hc => ?_) (fun hc => ?_)
    · have h := h.1 hc
      exact nX12_text_69 hk_l0 h
    · have h := h.2 hc
      refine x_aload_n dX12_text_53 rfl 54 rfl ?_
      refine x_aload_n dX12_text_54 rfl 55 rfl ?_
      refine gf12_29 dX12_text_55 58 rfl hk_l0 kw5_188 ?_
      refine pf12_31 dX12_text_58 61 rfl hk_l0 kw5_190 (x_mem (fun M13 hM13 => ?_))
      have h := h M13 hM13
      refine x_aload_n dX12_text_61 rfl 62 rfl ?_
      refine x_aload_n dX12_text_62 rfl 63 rfl ?_
      refine gf12_30 dX12_text_63 66 rfl hk_l0 kw5_189 ?_
      refine pf12_32 dX12_text_66 69 rfl hk_l0 kw5_191 (x_mem (fun M14 hM14 => ?_))
      have h := h M14 hM14
      exact nX12_text_69 hk_l0 h
theorem cX12_text_ {Q : Int32 → Mem → Prop} {l0 : Nat} {l1 : Int32} {M : Mem} (hk_l0 : SHk l0 = 12) (h : FX12_text Q l0 l1 M) : xM yX12_text cX12_text 3 (some .int) 11 [.ref l0, .int l1] M (xQi Q) := xM_of (by decide +kernel) (Nat.le_of_ble_eq_true rfl) (eX12_text hk_l0 h)
theorem kX12_text {own : String} {cc : ByteArray} {nL : Nat} {rt : Option FieldType} {d pc ix : Nat} {L : List (Nat × Value)} {st : List Value} {M : Mem} {Rt : xGt → Array Value → State → Outcome → State → Prop} {Q : Int32 → Mem → Prop} {l0 : Nat} {l1 : Int32} (hd : decode cc pc = .ok (.invokevirtual ix, 3)) (q : Nat) (hq : pc + 3 = q) (hk_l0 : SHk l0 = 12) (w1 : Cond.methodLink own ix yX12_text ∈ xTs) (hr : 11 < d) (hst : (st.map fun v => v.category).sum ≤ 8) (h : FX12_text Q l0 l1 M) (k : ∀ (r : Int32) (N : Mem), Q r N → xX own cc nL rt d q L (.int r :: st) N Rt) : xX own cc nL rt d pc L (.int l1 :: .ref l0 :: st) M Rt :=
  x_callV_i (n := 1) (As := [.int l1]) hd q hq hk_l0 (by decide) rfl rfl w1 kw6_139 kw6_140 kw1_14 kw6_141 (by decide +kernel) rfl hr (by decide) hst _ rfl (cX12_text_ hk_l0 h) k
def FX12_fault (Q : Int32 → Mem → Prop) (l0 : Nat) (l1 : Int32) (M : Mem) : Prop :=
  ∀ M1 : Mem, M1 = xu M l0 0 0 → ((¬ l1 = 0 → ((¬ l1 = 1 → Q (-1) M1) ∧ (l1 = 1 → Q (M1 l0 32) M1))) ∧ (l1 = 0 → Q (M1 l0 31) M1))
theorem eX12_fault {Q : Int32 → Mem → Prop} {l0 : Nat} {l1 : Int32} {M : Mem} (hk_l0 : SHk l0 = 12) (h : FX12_fault Q l0 l1 M) : xX RX12 cX12_fault 2 (some .int) 1 0 [(0, .ref l0), (1, .int l1)] [] M (xQi Q) := by
  unfold FX12_fault at h
  refine x_aload_n dX12_fault_0 rfl 1 rfl ?_
  refine x_iconst dX12_fault_1 kc_0 2 rfl ?_
  refine pf12_0 dX12_fault_2 5 rfl hk_l0 kw5_159 (x_mem (fun M1 hM1 => ?_))
  have h := h M1 hM1
  refine x_iload_n dX12_fault_5 rfl 6 rfl ?_
  refine x_if_ne dX12_fault_6 16 9 rfl rfl (fun hc => ?_) (fun hc => ?_)
  · have h := h.1 hc
    refine x_iload_n dX12_fault_16 rfl 17 rfl ?_
    refine x_iconst dX12_fault_17 kc_1 18 rfl ?_
    refine x_icmp_ne dX12_fault_18 28 21 rfl rfl (fun hc => ?_) (fun hc => ?_)
    · have h := h.1 hc
      refine x_iconst dX12_fault_28 kc_m1 29 rfl ?_
      exact x_iret dX12_fault_29 h
    · have h := h.2 hc
      refine x_aload_n dX12_fault_21 rfl 22 rfl ?_
      refine gf12_32 dX12_fault_22 25 rfl hk_l0 kw5_191 ?_
      refine x_goto dX12_fault_25 29 rfl ?_
      exact x_iret dX12_fault_29 h
  · have h := h.2 hc
    refine x_aload_n dX12_fault_9 rfl 10 rfl ?_
    refine gf12_31 dX12_fault_10 13 rfl hk_l0 kw5_190 ?_
    refine x_goto dX12_fault_13 29 rfl ?_
    exact x_iret dX12_fault_29 h
theorem cX12_fault_ {Q : Int32 → Mem → Prop} {l0 : Nat} {l1 : Int32} {M : Mem} (hk_l0 : SHk l0 = 12) (h : FX12_fault Q l0 l1 M) : xM yX12_fault cX12_fault 2 (some .int) 1 [.ref l0, .int l1] M (xQi Q) := xM_of (by decide +kernel) (Nat.le_of_ble_eq_true rfl) (eX12_fault hk_l0 h)
theorem kX12_fault {own : String} {cc : ByteArray} {nL : Nat} {rt : Option FieldType} {d pc ix : Nat} {L : List (Nat × Value)} {st : List Value} {M : Mem} {Rt : xGt → Array Value → State → Outcome → State → Prop} {Q : Int32 → Mem → Prop} {l0 : Nat} {l1 : Int32} (hd : decode cc pc = .ok (.invokevirtual ix, 3)) (q : Nat) (hq : pc + 3 = q) (hk_l0 : SHk l0 = 12) (w1 : Cond.methodLink own ix yX12_fault ∈ xTs) (hr : 1 < d) (hst : (st.map fun v => v.category).sum ≤ 8) (h : FX12_fault Q l0 l1 M) (k : ∀ (r : Int32) (N : Mem), Q r N → xX own cc nL rt d q L (.int r :: st) N Rt) : xX own cc nL rt d pc L (.int l1 :: .ref l0 :: st) M Rt :=
  x_callV_i (n := 1) (As := [.int l1]) hd q hq hk_l0 (by decide) rfl rfl w1 kw7_31 kw7_32 kw1_14 kw7_33 (by decide +kernel) rfl hr (by decide) hst _ rfl (cX12_fault_ hk_l0 h) k
def FX12_twoOf (Q : Int32 → Prop) (l0 : Nat) (l1 : Int32) (l2 : Int32) (l3 : Int32) (M : Mem) : Prop :=
  ((¬ l1 = 2 → ((¬ l1 = 3 → ((¬ l1 = 4 → ((¬ l1 = 5 → ((¬ l1 = 6 → ((¬ l1 = 7 → ((¬ l1 = 8 → ((¬ l1 = 10 → (((l2 + l3) ≤ 0 → Q 0) ∧ (¬ (l2 + l3) ≤ 0 → Q 1))) ∧ (l1 = 10 → Q (l2 * l3)))) ∧ (l1 = 8 → ((l2 ≤ l3 → Q 0) ∧ (¬ l2 ≤ l3 → Q 1))))) ∧ (l1 = 7 → ((¬ l2 = l3 → Q 0) ∧ (l2 = l3 → Q 1))))) ∧ (l1 = 6 → ((l3 ≤ l2 → Q 0) ∧ (¬ l3 ≤ l2 → Q 1))))) ∧ (l1 = 5 → (¬ (l3 : Int32) = 0) ∧ Q (l2 / l3)))) ∧ (l1 = 4 → Q (l2 * l3)))) ∧ (l1 = 3 → Q (l2 - l3)))) ∧ (l1 = 2 → Q (l2 + l3)))
theorem eX12_twoOf {Q : Int32 → Prop} {l0 : Nat} {l1 : Int32} {l2 : Int32} {l3 : Int32} {M : Mem} (hk_l0 : SHk l0 = 12) (h : FX12_twoOf Q l0 l1 l2 l3 M) : xX RX12 cX12_twoOf 4 (some .int) 1 0 [(0, .ref l0), (1, .int l1), (2, .int l2), (3, .int l3)] [] M (xQi (xP M Q)) := by
  unfold FX12_twoOf at h
  refine x_iload_n dX12_twoOf_0 rfl 1 rfl ?_
  refine x_iconst dX12_twoOf_1 kc_2 2 rfl ?_
  refine x_icmp_ne dX12_twoOf_2 9 5 rfl rfl (fun hc => ?_) (fun hc => ?_)
  · have h := h.1 hc
    refine x_iload_n dX12_twoOf_9 rfl 10 rfl ?_
    refine x_iconst dX12_twoOf_10 kc_3 11 rfl ?_
    refine x_icmp_ne dX12_twoOf_11 18 14 rfl rfl (fun hc => ?_) (fun hc => ?_)
    · have h := h.1 hc
      refine x_iload_n dX12_twoOf_18 rfl 19 rfl ?_
      refine x_iconst dX12_twoOf_19 kc_4 20 rfl ?_
      refine x_icmp_ne dX12_twoOf_20 27 23 rfl rfl (fun hc => ?_) (fun hc => ?_)
      · have h := h.1 hc
        refine x_iload_n dX12_twoOf_27 rfl 28 rfl ?_
        refine x_iconst dX12_twoOf_28 kc_5 29 rfl ?_
        refine x_icmp_ne dX12_twoOf_29 36 32 rfl rfl (fun hc => ?_) (fun hc => ?_)
        · have h := h.1 hc
          refine x_iload_n dX12_twoOf_36 rfl 37 rfl ?_
          refine x_bipush dX12_twoOf_37 kb_6 39 rfl ?_
          refine x_icmp_ne dX12_twoOf_39 53 42 rfl rfl (fun hc => ?_) (fun hc => ?_)
          · have h := h.1 hc
            refine x_iload_n dX12_twoOf_53 rfl 54 rfl ?_
            refine x_bipush dX12_twoOf_54 kb_7 56 rfl ?_
            refine x_icmp_ne dX12_twoOf_56 70 59 rfl rfl (fun hc => ?_) (fun hc => ?_)
            · have h := h.1 hc
              refine x_iload_n dX12_twoOf_70 rfl 71 rfl ?_
              refine x_bipush dX12_twoOf_71 kb_8 73 rfl ?_
              refine x_icmp_ne dX12_twoOf_73 87 76 rfl rfl (fun hc => ?_) (fun hc => ?_)
              · have h := h.1 hc
                refine x_iload_n dX12_twoOf_87 rfl 88 rfl ?_
                refine x_bipush dX12_twoOf_88 kb_10 90 rfl ?_
                refine x_icmp_ne dX12_twoOf_90 99 93 rfl rfl (fun hc => ?_) (fun hc => ?_)
                · have h := h.1 hc
                  refine x_iload_n dX12_twoOf_99 rfl 100 rfl ?_
                  refine x_iload_n dX12_twoOf_100 rfl 101 rfl ?_
                  refine x_iadd dX12_twoOf_101 102 rfl ?_
                  refine x_if_le dX12_twoOf_102 109 105 rfl rfl (fun hc => ?_) (fun hc => ?_)
                  · have h := h.1 hc
                    refine x_iconst dX12_twoOf_109 kc_0 110 rfl ?_
                    exact x_iret dX12_twoOf_110 ⟨rfl, h⟩
                  · have h := h.2 hc
                    refine x_iconst dX12_twoOf_105 kc_1 106 rfl ?_
                    refine x_goto dX12_twoOf_106 110 rfl ?_
                    exact x_iret dX12_twoOf_110 ⟨rfl, h⟩
                · have h := h.2 hc
                  refine x_iload_n dX12_twoOf_93 rfl 94 rfl ?_
                  refine x_iload_n dX12_twoOf_94 rfl 95 rfl ?_
                  refine x_imul dX12_twoOf_95 96 rfl ?_
                  refine x_goto dX12_twoOf_96 110 rfl ?_
                  exact x_iret dX12_twoOf_110 ⟨rfl, h⟩
              · have h := h.2 hc
                refine x_iload_n dX12_twoOf_76 rfl 77 rfl ?_
                refine x_iload_n dX12_twoOf_77 rfl 78 rfl ?_
                refine x_icmp_le dX12_twoOf_78 85 81 rfl rfl (fun hc => ?_) (fun hc => ?_)
                · have h := h.1 hc
                  refine x_iconst dX12_twoOf_85 kc_0 86 rfl ?_
                  exact x_iret dX12_twoOf_86 ⟨rfl, h⟩
                · have h := h.2 hc
                  refine x_iconst dX12_twoOf_81 kc_1 82 rfl ?_
                  refine x_goto dX12_twoOf_82 86 rfl ?_
                  exact x_iret dX12_twoOf_86 ⟨rfl, h⟩
            · have h := h.2 hc
              refine x_iload_n dX12_twoOf_59 rfl 60 rfl ?_
              refine x_iload_n dX12_twoOf_60 rfl 61 rfl ?_
              refine x_icmp_ne dX12_twoOf_61 68 64 rfl rfl (fun hc => ?_) (fun hc => ?_)
              · have h := h.1 hc
                refine x_iconst dX12_twoOf_68 kc_0 69 rfl ?_
                exact x_iret dX12_twoOf_69 ⟨rfl, h⟩
              · have h := h.2 hc
                refine x_iconst dX12_twoOf_64 kc_1 65 rfl ?_
                refine x_goto dX12_twoOf_65 69 rfl ?_
                exact x_iret dX12_twoOf_69 ⟨rfl, h⟩
          · have h := h.2 hc
            refine x_iload_n dX12_twoOf_42 rfl 43 rfl ?_
            refine x_iload_n dX12_twoOf_43 rfl 44 rfl ?_
            refine x_icmp_ge dX12_twoOf_44 51 47 rfl rfl (fun hc => ?_) (fun hc => ?_)
            · have h := h.1 hc
              refine x_iconst dX12_twoOf_51 kc_0 52 rfl ?_
              exact x_iret dX12_twoOf_52 ⟨rfl, h⟩
            · have h := h.2 hc
              refine x_iconst dX12_twoOf_47 kc_1 48 rfl ?_
              refine x_goto dX12_twoOf_48 52 rfl ?_
              exact x_iret dX12_twoOf_52 ⟨rfl, h⟩
        · have h := h.2 hc
          refine x_iload_n dX12_twoOf_32 rfl 33 rfl ?_
          refine x_iload_n dX12_twoOf_33 rfl 34 rfl ?_
          obtain ⟨hne, h⟩ := h
          refine x_idiv dX12_twoOf_34 hne 35 rfl ?_
          exact x_iret dX12_twoOf_35 ⟨rfl, h⟩
      · have h := h.2 hc
        refine x_iload_n dX12_twoOf_23 rfl 24 rfl ?_
        refine x_iload_n dX12_twoOf_24 rfl 25 rfl ?_
        refine x_imul dX12_twoOf_25 26 rfl ?_
        exact x_iret dX12_twoOf_26 ⟨rfl, h⟩
    · have h := h.2 hc
      refine x_iload_n dX12_twoOf_14 rfl 15 rfl ?_
      refine x_iload_n dX12_twoOf_15 rfl 16 rfl ?_
      refine x_isub dX12_twoOf_16 17 rfl ?_
      exact x_iret dX12_twoOf_17 ⟨rfl, h⟩
  · have h := h.2 hc
    refine x_iload_n dX12_twoOf_5 rfl 6 rfl ?_
    refine x_iload_n dX12_twoOf_6 rfl 7 rfl ?_
    refine x_iadd dX12_twoOf_7 8 rfl ?_
    exact x_iret dX12_twoOf_8 ⟨rfl, h⟩
theorem cX12_twoOf_ {Q : Int32 → Prop} {l0 : Nat} {l1 : Int32} {l2 : Int32} {l3 : Int32} {M : Mem} (hk_l0 : SHk l0 = 12) (h : FX12_twoOf Q l0 l1 l2 l3 M) : xM yX12_twoOf cX12_twoOf 4 (some .int) 1 [.ref l0, .int l1, .int l2, .int l3] M (xQi (xP M Q)) := xM_of (by decide +kernel) (Nat.le_of_ble_eq_true rfl) (eX12_twoOf hk_l0 h)
theorem kX12_twoOf {own : String} {cc : ByteArray} {nL : Nat} {rt : Option FieldType} {d pc ix : Nat} {L : List (Nat × Value)} {st : List Value} {M : Mem} {Rt : xGt → Array Value → State → Outcome → State → Prop} {Q : Int32 → Prop} {l0 : Nat} {l1 : Int32} {l2 : Int32} {l3 : Int32} (hd : decode cc pc = .ok (.invokevirtual ix, 3)) (q : Nat) (hq : pc + 3 = q) (hk_l0 : SHk l0 = 12) (w1 : Cond.methodLink own ix yX12_twoOf ∈ xTs) (hr : 1 < d) (hst : (st.map fun v => v.category).sum ≤ 8) (h : FX12_twoOf Q l0 l1 l2 l3 M) (k : ∀ (r : Int32), Q r → xX own cc nL rt d q L (.int r :: st) M Rt) : xX own cc nL rt d pc L (.int l3 :: .int l2 :: .int l1 :: .ref l0 :: st) M Rt :=
  x_callV_i (n := 3) (As := [.int l1, .int l2, .int l3]) hd q hq hk_l0 (by decide) rfl rfl w1 kw7_124 ks6_15 kw1_14 kw7_125 (by decide +kernel) rfl hr (by decide) hst _ rfl (cX12_twoOf_ hk_l0 h) (fun r N hN => by obtain ⟨rfl, hN⟩ := hN; exact k r hN)
def NX12_runs_83 (Q : Int32 → Mem → Prop) (B12 : Int32 → Int32 → Mem → Prop) (l0 : Nat) (l1 : Int32) (l3 : Int32) (l4 : Int32) (l5 : Int32) (s0 : Nat) (s1 : Int32) (s2 : Int32) (M : Mem) : Prop :=
  vp_in s1 (SHn s0) ∧ ∀ M1 : Mem, M1 = xu M s0 (ix s1) s2 → B12 (l4 + 1) (l5 + 1) M1
theorem nX12_runs_83 {Q : Int32 → Mem → Prop} {B12 : Int32 → Int32 → Mem → Prop} {l0 : Nat} {l1 : Int32} {l3 : Int32} {l4 : Int32} {l5 : Int32} {s0 : Nat} {s1 : Int32} {s2 : Int32} {M : Mem} (hB12 : ∀ (l4 : Int32) (l5 : Int32) (M : Mem), B12 l4 l5 M → xX RX12 cX12_runs 6 (some .int) 2 12 [(0, .ref l0), (1, .int l1), (3, .int l3), (4, .int l4), (5, .int l5)] [] M (xQi Q)) (hk_l0 : SHk l0 = 12) (hk_s0 : SHk s0 = 13) (h : NX12_runs_83 Q B12 l0 l1 l3 l4 l5 s0 s1 s2 M) : xX RX12 cX12_runs 6 (some .int) 2 83 [(0, .ref l0), (1, .int l1), (3, .int l3), (4, .int l4), (5, .int l5)] [.int s2, .int s1, .ref s0] M (xQi Q) := by
  unfold NX12_runs_83 at h
  obtain ⟨hin, h⟩ := h
  refine x_iastore dX12_runs_83 ⟨hk_s0, rfl⟩ hin 84 rfl (x_mem (fun M1 hM1 => ?_))
  have h := h M1 hM1
  refine x_iload dX12_runs_84 rfl 86 rfl ?_
  refine x_iconst dX12_runs_86 kc_1 87 rfl ?_
  refine x_iadd dX12_runs_87 88 rfl ?_
  refine x_istore dX12_runs_88 (Nat.le_of_ble_eq_true rfl) [(0, .ref l0), (1, .int l1), (3, .int l3), (4, .int (l4 + 1)), (5, .int l5)] rfl 90 rfl ?_
  refine x_goto dX12_runs_90 170 rfl ?_
  refine x_iinc dX12_runs_170 rfl (congrArg (l5 + ·) kc_1) (Nat.le_of_ble_eq_true rfl) [(0, .ref l0), (1, .int l1), (3, .int l3), (4, .int (l4 + 1)), (5, .int (l5 + 1))] rfl 173 rfl ?_
  refine x_goto dX12_runs_173 12 rfl ?_
  exact hB12 _ _ _ h
def NX12_runs_45 (Q : Int32 → Mem → Prop) (B12 : Int32 → Int32 → Mem → Prop) (l0 : Nat) (l1 : Int32) (l3 : Int32) (l4 : Int32) (l5 : Int32) (M : Mem) : Prop :=
  vp_in l5 1200 ∧ ((¬ (M (l0 + 13) (ix l5)) = 0 → vp_in l5 1200 ∧ vp_in (M (l0 + 14) (ix l5)) 9 ∧ NX12_runs_83 Q B12 l0 l1 l3 l4 l5 (l0 + 20) l4 (M (l0 + 19) (ix (M (l0 + 14) (ix l5)))) M) ∧ ((M (l0 + 13) (ix l5)) = 0 → vp_in l5 1200 ∧ NX12_runs_83 Q B12 l0 l1 l3 l4 l5 (l0 + 20) l4 (M (l0 + 14) (ix l5)) M))
theorem nX12_runs_45 {Q : Int32 → Mem → Prop} {B12 : Int32 → Int32 → Mem → Prop} {l0 : Nat} {l1 : Int32} {l3 : Int32} {l4 : Int32} {l5 : Int32} {M : Mem} (hB12 : ∀ (l4 : Int32) (l5 : Int32) (M : Mem), B12 l4 l5 M → xX RX12 cX12_runs 6 (some .int) 2 12 [(0, .ref l0), (1, .int l1), (3, .int l3), (4, .int l4), (5, .int l5)] [] M (xQi Q)) (hk_l0 : SHk l0 = 12) (h : NX12_runs_45 Q B12 l0 l1 l3 l4 l5 M) : xX RX12 cX12_runs 6 (some .int) 2 45 [(0, .ref l0), (1, .int l1), (3, .int l3), (4, .int l4), (5, .int l5)] [] M (xQi Q) := by
  unfold NX12_runs_45 at h
  refine x_aload_n dX12_runs_45 rfl 46 rfl ?_
  refine gf12_40 dX12_runs_46 49 rfl hk_l0 kw5_199 ?_
  refine x_iload dX12_runs_49 rfl 51 rfl ?_
  refine x_aload_n dX12_runs_51 rfl 52 rfl ?_
  refine gf12_22 dX12_runs_52 55 rfl hk_l0 kw5_181 ?_
  refine x_iload dX12_runs_55 rfl 57 rfl ?_
  obtain ⟨hin, h⟩ := h
  refine x_iaload dX12_runs_57 (ly12_22 hk_l0) hin 58 rfl ?_
  refine x_if_ne dX12_runs_58 71 61 rfl rfl (fun hc => ?_) (fun hc => ?_)
  · have h := h.1 hc
    refine x_aload_n dX12_runs_71 rfl 72 rfl ?_
    refine gf12_39 dX12_runs_72 75 rfl hk_l0 kw5_198 ?_
    refine x_aload_n dX12_runs_75 rfl 76 rfl ?_
    refine gf12_23 dX12_runs_76 79 rfl hk_l0 kw5_182 ?_
    refine x_iload dX12_runs_79 rfl 81 rfl ?_
    obtain ⟨hin, h⟩ := h
    refine x_iaload dX12_runs_81 (ly12_23 hk_l0) hin 82 rfl ?_
    obtain ⟨hin, h⟩ := h
    refine x_iaload dX12_runs_82 (ly12_39 hk_l0) hin 83 rfl ?_
    exact nX12_runs_83 hB12 hk_l0 (ly12_40 hk_l0).1 h
  · have h := h.2 hc
    refine x_aload_n dX12_runs_61 rfl 62 rfl ?_
    refine gf12_23 dX12_runs_62 65 rfl hk_l0 kw5_182 ?_
    refine x_iload dX12_runs_65 rfl 67 rfl ?_
    obtain ⟨hin, h⟩ := h
    refine x_iaload dX12_runs_67 (ly12_23 hk_l0) hin 68 rfl ?_
    refine x_goto dX12_runs_68 83 rfl ?_
    exact nX12_runs_83 hB12 hk_l0 (ly12_40 hk_l0).1 h
def lbX12_runs_12 (Q : Int32 → Mem → Prop) (l0 : Nat) (l1 : Int32) (l3 : Int32) (B12 : Int32 → Int32 → Mem → Prop) (l4 : Int32) (l5 : Int32) (M : Mem) : Prop :=
  ((((400 * l1) + l3) ≤ l5 → Q (M (l0 + 20) 0) M) ∧ (¬ ((400 * l1) + l3) ≤ l5 → vp_in l5 1200 ∧ (((M (l0 + 13) (ix l5)) = 0 → NX12_runs_45 Q B12 l0 l1 l3 l4 l5 M) ∧ (¬ (M (l0 + 13) (ix l5)) = 0 → vp_in l5 1200 ∧ ((¬ (M (l0 + 13) (ix l5)) = 1 → vp_in l5 1200 ∧ ((¬ (M (l0 + 13) (ix l5)) = 9 → vp_in l5 1200 ∧ vp_in ((l4 - 1) - 1) 420 ∧ vp_in (l4 - 1) 420 ∧ FX12_twoOf (fun (r2 : Int32) => vp_in ((l4 - 1) - 1) 420 ∧ ∀ M3 : Mem, M3 = xu M (l0 + 20) (ix ((l4 - 1) - 1)) r2 → B12 (l4 - 1) (l5 + 1) M3) l0 (M (l0 + 13) (ix l5)) (M (l0 + 20) (ix ((l4 - 1) - 1))) (M (l0 + 20) (ix (l4 - 1))) M) ∧ ((M (l0 + 13) (ix l5)) = 9 → vp_in (l4 - 1) 420 ∧ vp_in (l4 - 1) 420 ∧ ∀ M4 : Mem, M4 = xu M (l0 + 20) (ix (l4 - 1)) (1 - (M (l0 + 20) (ix (l4 - 1)))) → B12 l4 (l5 + 1) M4))) ∧ ((M (l0 + 13) (ix l5)) = 1 → NX12_runs_45 Q B12 l0 l1 l3 l4 l5 M))))))
def NX12_runs_12 (Q : Int32 → Mem → Prop) (l0 : Nat) (l1 : Int32) (l3 : Int32) (l4 : Int32) (l5 : Int32) (M : Mem) : Prop := xlp (fun (B : Int32 × Int32 × Mem → Prop) a => lbX12_runs_12 Q l0 l1 l3 (fun l4 l5 M => B (l4, l5, M)) a.1 a.2.1 a.2.2) (l4, l5, M)
theorem nX12_runs_12 {Q : Int32 → Mem → Prop} {l0 : Nat} {l1 : Int32} {l3 : Int32} {l4 : Int32} {l5 : Int32} {M : Mem} (hk_l0 : SHk l0 = 12) (h : NX12_runs_12 Q l0 l1 l3 l4 l5 M) : xX RX12 cX12_runs 6 (some .int) 2 12 [(0, .ref l0), (1, .int l1), (3, .int l3), (4, .int l4), (5, .int l5)] [] M (xQi Q) := by
  obtain ⟨n, h⟩ := h
  have hB12 : ∀ (n : Nat) (l4 : Int32) (l5 : Int32) (M : Mem), xlpn (fun (B : Int32 × Int32 × Mem → Prop) a => lbX12_runs_12 Q l0 l1 l3 (fun l4 l5 M => B (l4, l5, M)) a.1 a.2.1 a.2.2) n (l4, l5, M) → xX RX12 cX12_runs 6 (some .int) 2 12 [(0, .ref l0), (1, .int l1), (3, .int l3), (4, .int l4), (5, .int l5)] [] M (xQi Q) := by
    intro n
    induction n with
    | zero => intro l4 l5 M h; exact False.elim h
    | succ n ih =>
      intro l4 l5 M h
      have hB12 := ih
      have h : lbX12_runs_12 Q l0 l1 l3 (fun l4 l5 M => xlpn (fun (B : Int32 × Int32 × Mem → Prop) a => lbX12_runs_12 Q l0 l1 l3 (fun l4 l5 M => B (l4, l5, M)) a.1 a.2.1 a.2.2) n (l4, l5, M)) l4 l5 M := h
      unfold lbX12_runs_12 at h
      refine x_iload dX12_runs_12 rfl 14 rfl ?_
      refine x_sipush dX12_runs_14 kh_400 17 rfl ?_
      refine x_iload_n dX12_runs_17 rfl 18 rfl ?_
      refine x_imul dX12_runs_18 19 rfl ?_
      refine x_iload_n dX12_runs_19 rfl 20 rfl ?_
      refine x_iadd dX12_runs_20 21 rfl ?_
      refine x_icmp_ge dX12_runs_21 176 24 rfl rfl (fun hc => ?_) (fun hc => ?_)
      · have h := h.1 hc
        refine x_aload_n dX12_runs_176 rfl 177 rfl ?_
        refine gf12_40 dX12_runs_177 180 rfl hk_l0 kw5_199 ?_
        refine x_iconst dX12_runs_180 kc_0 181 rfl ?_
        refine x_iaload dX12_runs_181 (ly12_40 hk_l0) (by unfold vp_in; decide) 182 rfl ?_
        exact x_iret dX12_runs_182 h
      · have h := h.2 hc
        refine x_aload_n dX12_runs_24 rfl 25 rfl ?_
        refine gf12_22 dX12_runs_25 28 rfl hk_l0 kw5_181 ?_
        refine x_iload dX12_runs_28 rfl 30 rfl ?_
        obtain ⟨hin, h⟩ := h
        refine x_iaload dX12_runs_30 (ly12_22 hk_l0) hin 31 rfl ?_
        refine x_if_eq dX12_runs_31 45 34 rfl rfl (fun hc => ?_) (fun hc => ?_)
        · have h := h.1 hc
          exact nX12_runs_45 hB12 hk_l0 h
        · have h := h.2 hc
          refine x_aload_n dX12_runs_34 rfl 35 rfl ?_
          refine gf12_22 dX12_runs_35 38 rfl hk_l0 kw5_181 ?_
          refine x_iload dX12_runs_38 rfl 40 rfl ?_
          obtain ⟨hin, h⟩ := h
          refine x_iaload dX12_runs_40 (ly12_22 hk_l0) hin 41 rfl ?_
          refine x_iconst dX12_runs_41 kc_1 42 rfl ?_
          refine x_icmp_ne dX12_runs_42 93 45 rfl rfl (fun hc => ?_) (fun hc => ?_)
          · have h := h.1 hc
            refine x_aload_n dX12_runs_93 rfl 94 rfl ?_
            refine gf12_22 dX12_runs_94 97 rfl hk_l0 kw5_181 ?_
            refine x_iload dX12_runs_97 rfl 99 rfl ?_
            obtain ⟨hin, h⟩ := h
            refine x_iaload dX12_runs_99 (ly12_22 hk_l0) hin 100 rfl ?_
            refine x_bipush dX12_runs_100 kb_9 102 rfl ?_
            refine x_icmp_ne dX12_runs_102 128 105 rfl rfl (fun hc => ?_) (fun hc => ?_)
            · have h := h.1 hc
              refine x_iload dX12_runs_128 rfl 130 rfl ?_
              refine x_iconst dX12_runs_130 kc_1 131 rfl ?_
              refine x_isub dX12_runs_131 132 rfl ?_
              refine x_istore dX12_runs_132 (Nat.le_of_ble_eq_true rfl) [(0, .ref l0), (1, .int l1), (3, .int l3), (4, .int (l4 - 1)), (5, .int l5)] rfl 134 rfl ?_
              refine x_aload_n dX12_runs_134 rfl 135 rfl ?_
              refine gf12_40 dX12_runs_135 138 rfl hk_l0 kw5_199 ?_
              refine x_iload dX12_runs_138 rfl 140 rfl ?_
              refine x_iconst dX12_runs_140 kc_1 141 rfl ?_
              refine x_isub dX12_runs_141 142 rfl ?_
              refine x_aload_n dX12_runs_142 rfl 143 rfl ?_
              refine x_aload_n dX12_runs_143 rfl 144 rfl ?_
              refine gf12_22 dX12_runs_144 147 rfl hk_l0 kw5_181 ?_
              refine x_iload dX12_runs_147 rfl 149 rfl ?_
              obtain ⟨hin, h⟩ := h
              refine x_iaload dX12_runs_149 (ly12_22 hk_l0) hin 150 rfl ?_
              refine x_aload_n dX12_runs_150 rfl 151 rfl ?_
              refine gf12_40 dX12_runs_151 154 rfl hk_l0 kw5_199 ?_
              refine x_iload dX12_runs_154 rfl 156 rfl ?_
              refine x_iconst dX12_runs_156 kc_1 157 rfl ?_
              refine x_isub dX12_runs_157 158 rfl ?_
              obtain ⟨hin, h⟩ := h
              refine x_iaload dX12_runs_158 (ly12_40 hk_l0) hin 159 rfl ?_
              refine x_aload_n dX12_runs_159 rfl 160 rfl ?_
              refine gf12_40 dX12_runs_160 163 rfl hk_l0 kw5_199 ?_
              refine x_iload dX12_runs_163 rfl 165 rfl ?_
              obtain ⟨hin, h⟩ := h
              refine x_iaload dX12_runs_165 (ly12_40 hk_l0) hin 166 rfl ?_
              refine kX12_twoOf dX12_runs_166 169 rfl hk_l0 kw7_122 (Nat.le_of_ble_eq_true rfl) (Nat.le_of_ble_eq_true rfl) h (fun r2 h => ?_)
              obtain ⟨hin, h⟩ := h
              refine x_iastore dX12_runs_169 (ly12_40 hk_l0) hin 170 rfl (x_mem (fun M3 hM3 => ?_))
              have h := h M3 hM3
              refine x_iinc dX12_runs_170 rfl (congrArg (l5 + ·) kc_1) (Nat.le_of_ble_eq_true rfl) [(0, .ref l0), (1, .int l1), (3, .int l3), (4, .int (l4 - 1)), (5, .int (l5 + 1))] rfl 173 rfl ?_
              refine x_goto dX12_runs_173 12 rfl ?_
              exact hB12 _ _ _ h
            · have h := h.2 hc
              refine x_aload_n dX12_runs_105 rfl 106 rfl ?_
              refine gf12_40 dX12_runs_106 109 rfl hk_l0 kw5_199 ?_
              refine x_iload dX12_runs_109 rfl 111 rfl ?_
              refine x_iconst dX12_runs_111 kc_1 112 rfl ?_
              refine x_isub dX12_runs_112 113 rfl ?_
              refine x_iconst dX12_runs_113 kc_1 114 rfl ?_
              refine x_aload_n dX12_runs_114 rfl 115 rfl ?_
              refine gf12_40 dX12_runs_115 118 rfl hk_l0 kw5_199 ?_
              refine x_iload dX12_runs_118 rfl 120 rfl ?_
              refine x_iconst dX12_runs_120 kc_1 121 rfl ?_
              refine x_isub dX12_runs_121 122 rfl ?_
              obtain ⟨hin, h⟩ := h
              refine x_iaload dX12_runs_122 (ly12_40 hk_l0) hin 123 rfl ?_
              refine x_isub dX12_runs_123 124 rfl ?_
              obtain ⟨hin, h⟩ := h
              refine x_iastore dX12_runs_124 (ly12_40 hk_l0) hin 125 rfl (x_mem (fun M4 hM4 => ?_))
              have h := h M4 hM4
              refine x_goto dX12_runs_125 170 rfl ?_
              refine x_iinc dX12_runs_170 rfl (congrArg (l5 + ·) kc_1) (Nat.le_of_ble_eq_true rfl) [(0, .ref l0), (1, .int l1), (3, .int l3), (4, .int l4), (5, .int (l5 + 1))] rfl 173 rfl ?_
              refine x_goto dX12_runs_173 12 rfl ?_
              exact hB12 _ _ _ h
          · have h := h.2 hc
            exact nX12_runs_45 hB12 hk_l0 h
  exact hB12 n l4 l5 M h
def FX12_runs (Q : Int32 → Mem → Prop) (l0 : Nat) (l1 : Int32) (l2 : Int32) (l3 : Int32) (M : Mem) : Prop :=
  NX12_runs_12 Q l0 l1 l3 0 ((400 * l1) + l2) M
theorem eX12_runs {Q : Int32 → Mem → Prop} {l0 : Nat} {l1 : Int32} {l2 : Int32} {l3 : Int32} {M : Mem} (hk_l0 : SHk l0 = 12) (h : FX12_runs Q l0 l1 l2 l3 M) : xX RX12 cX12_runs 6 (some .int) 2 0 [(0, .ref l0), (1, .int l1), (2, .int l2), (3, .int l3)] [] M (xQi Q) := by
  unfold FX12_runs at h
  refine x_iconst dX12_runs_0 kc_0 1 rfl ?_
  refine x_istore dX12_runs_1 (Nat.le_of_ble_eq_true rfl) [(0, .ref l0), (1, .int l1), (2, .int l2), (3, .int l3), (4, .int 0)] rfl 3 rfl ?_
  refine x_sipush dX12_runs_3 kh_400 6 rfl ?_
  refine x_iload_n dX12_runs_6 rfl 7 rfl ?_
  refine x_imul dX12_runs_7 8 rfl ?_
  refine x_iload_n dX12_runs_8 rfl 9 rfl ?_
  refine x_iadd dX12_runs_9 10 rfl ?_
  refine x_istore dX12_runs_10 (Nat.le_of_ble_eq_true rfl) [(0, .ref l0), (1, .int l1), (2, .int l2), (3, .int l3), (4, .int 0), (5, .int ((400 * l1) + l2))] rfl 12 rfl ?_
  refine x_weak [(0, .ref l0), (1, .int l1), (3, .int l3), (4, .int 0), (5, .int ((400 * l1) + l2))] [0, 1, 3, 4, 5] rfl ?_
  exact nX12_runs_12 hk_l0 h
theorem cX12_runs_ {Q : Int32 → Mem → Prop} {l0 : Nat} {l1 : Int32} {l2 : Int32} {l3 : Int32} {M : Mem} (hk_l0 : SHk l0 = 12) (h : FX12_runs Q l0 l1 l2 l3 M) : xM yX12_runs cX12_runs 6 (some .int) 2 [.ref l0, .int l1, .int l2, .int l3] M (xQi Q) := xM_of (by decide +kernel) (Nat.le_of_ble_eq_true rfl) (eX12_runs hk_l0 h)
theorem kX12_runs {own : String} {cc : ByteArray} {nL : Nat} {rt : Option FieldType} {d pc ix : Nat} {L : List (Nat × Value)} {st : List Value} {M : Mem} {Rt : xGt → Array Value → State → Outcome → State → Prop} {Q : Int32 → Mem → Prop} {l0 : Nat} {l1 : Int32} {l2 : Int32} {l3 : Int32} (hd : decode cc pc = .ok (.invokevirtual ix, 3)) (q : Nat) (hq : pc + 3 = q) (hk_l0 : SHk l0 = 12) (w1 : Cond.methodLink own ix yX12_runs ∈ xTs) (hr : 2 < d) (hst : (st.map fun v => v.category).sum ≤ 8) (h : FX12_runs Q l0 l1 l2 l3 M) (k : ∀ (r : Int32) (N : Mem), Q r N → xX own cc nL rt d q L (.int r :: st) N Rt) : xX own cc nL rt d pc L (.int l3 :: .int l2 :: .int l1 :: .ref l0 :: st) M Rt :=
  x_callV_i (n := 3) (As := [.int l1, .int l2, .int l3]) hd q hq hk_l0 (by decide) rfl rfl w1 kw7_120 ks6_14 kw1_14 kw7_121 (by decide +kernel) rfl hr (by decide) hst _ rfl (cX12_runs_ hk_l0 h) k
def lbX12_lineOf_2 (Q : Int32 → Mem → Prop) (l0 : Nat) (l1 : Int32) (B2 : Int32 → Mem → Prop) (l2 : Int32) (M : Mem) : Prop :=
  (((M (l0 + 8) 0) ≤ l2 → Q (-1) M) ∧ (¬ (M (l0 + 8) 0) ≤ l2 → vp_in l2 48 ∧ ((¬ (M (l0 + 9) (ix l2)) = l1 → B2 (l2 + 1) M) ∧ ((M (l0 + 9) (ix l2)) = l1 → vp_in l2 48 ∧ vp_in l2 48 ∧ (((M (l0 + 11) (ix l2)) = (M (l0 + 12) (ix l2)) → Q l2 M) ∧ (¬ (M (l0 + 11) (ix l2)) = (M (l0 + 12) (ix l2)) → vp_in l2 48 ∧ vp_in l2 48 ∧ FX12_runs (fun (r2 : Int32) (M1 : Mem) => ((r2 = 0 → B2 (l2 + 1) M1) ∧ (¬ r2 = 0 → Q l2 M1))) l0 0 (M (l0 + 11) (ix l2)) (M (l0 + 12) (ix l2)) M))))))
def NX12_lineOf_2 (Q : Int32 → Mem → Prop) (l0 : Nat) (l1 : Int32) (l2 : Int32) (M : Mem) : Prop := xlp (fun (B : Int32 × Mem → Prop) a => lbX12_lineOf_2 Q l0 l1 (fun l2 M => B (l2, M)) a.1 a.2) (l2, M)
theorem nX12_lineOf_2 {Q : Int32 → Mem → Prop} {l0 : Nat} {l1 : Int32} {l2 : Int32} {M : Mem} (hk_l0 : SHk l0 = 12) (h : NX12_lineOf_2 Q l0 l1 l2 M) : xX RX12 cX12_lineOf 3 (some .int) 3 2 [(0, .ref l0), (1, .int l1), (2, .int l2)] [] M (xQi Q) := by
  obtain ⟨n, h⟩ := h
  have hB2 : ∀ (n : Nat) (l2 : Int32) (M : Mem), xlpn (fun (B : Int32 × Mem → Prop) a => lbX12_lineOf_2 Q l0 l1 (fun l2 M => B (l2, M)) a.1 a.2) n (l2, M) → xX RX12 cX12_lineOf 3 (some .int) 3 2 [(0, .ref l0), (1, .int l1), (2, .int l2)] [] M (xQi Q) := by
    intro n
    induction n with
    | zero => intro l2 M h; exact False.elim h
    | succ n ih =>
      intro l2 M h
      have hB2 := ih
      have h : lbX12_lineOf_2 Q l0 l1 (fun l2 M => xlpn (fun (B : Int32 × Mem → Prop) a => lbX12_lineOf_2 Q l0 l1 (fun l2 M => B (l2, M)) a.1 a.2) n (l2, M)) l2 M := h
      unfold lbX12_lineOf_2 at h
      refine x_iload_n dX12_lineOf_2 rfl 3 rfl ?_
      refine x_aload_n dX12_lineOf_3 rfl 4 rfl ?_
      refine gf12_17 dX12_lineOf_4 7 rfl hk_l0 kw5_176 ?_
      refine x_iconst dX12_lineOf_7 kc_0 8 rfl ?_
      refine x_iaload dX12_lineOf_8 (ly12_17 hk_l0) (by unfold vp_in; decide) 9 rfl ?_
      refine x_icmp_ge dX12_lineOf_9 65 12 rfl rfl (fun hc => ?_) (fun hc => ?_)
      · have h := h.1 hc
        refine x_iconst dX12_lineOf_65 kc_m1 66 rfl ?_
        exact x_iret dX12_lineOf_66 h
      · have h := h.2 hc
        refine x_aload_n dX12_lineOf_12 rfl 13 rfl ?_
        refine gf12_18 dX12_lineOf_13 16 rfl hk_l0 kw5_177 ?_
        refine x_iload_n dX12_lineOf_16 rfl 17 rfl ?_
        obtain ⟨hin, h⟩ := h
        refine x_iaload dX12_lineOf_17 (ly12_18 hk_l0) hin 18 rfl ?_
        refine x_iload_n dX12_lineOf_18 rfl 19 rfl ?_
        refine x_icmp_ne dX12_lineOf_19 59 22 rfl rfl (fun hc => ?_) (fun hc => ?_)
        · have h := h.1 hc
          refine x_iinc dX12_lineOf_59 rfl (congrArg (l2 + ·) kc_1) (Nat.le_of_ble_eq_true rfl) [(0, .ref l0), (1, .int l1), (2, .int (l2 + 1))] rfl 62 rfl ?_
          refine x_goto dX12_lineOf_62 2 rfl ?_
          exact hB2 _ _ h
        · have h := h.2 hc
          refine x_aload_n dX12_lineOf_22 rfl 23 rfl ?_
          refine gf12_20 dX12_lineOf_23 26 rfl hk_l0 kw5_179 ?_
          refine x_iload_n dX12_lineOf_26 rfl 27 rfl ?_
          obtain ⟨hin, h⟩ := h
          refine x_iaload dX12_lineOf_27 (ly12_20 hk_l0) hin 28 rfl ?_
          refine x_aload_n dX12_lineOf_28 rfl 29 rfl ?_
          refine gf12_21 dX12_lineOf_29 32 rfl hk_l0 kw5_180 ?_
          refine x_iload_n dX12_lineOf_32 rfl 33 rfl ?_
          obtain ⟨hin, h⟩ := h
          refine x_iaload dX12_lineOf_33 (ly12_21 hk_l0) hin 34 rfl ?_
          refine x_icmp_eq dX12_lineOf_34 57 37 rfl rfl (fun hc => ?_) (fun hc => ?_)
          · have h := h.1 hc
            refine x_iload_n dX12_lineOf_57 rfl 58 rfl ?_
            exact x_iret dX12_lineOf_58 h
          · have h := h.2 hc
            refine x_aload_n dX12_lineOf_37 rfl 38 rfl ?_
            refine x_iconst dX12_lineOf_38 kc_0 39 rfl ?_
            refine x_aload_n dX12_lineOf_39 rfl 40 rfl ?_
            refine gf12_20 dX12_lineOf_40 43 rfl hk_l0 kw5_179 ?_
            refine x_iload_n dX12_lineOf_43 rfl 44 rfl ?_
            obtain ⟨hin, h⟩ := h
            refine x_iaload dX12_lineOf_44 (ly12_20 hk_l0) hin 45 rfl ?_
            refine x_aload_n dX12_lineOf_45 rfl 46 rfl ?_
            refine gf12_21 dX12_lineOf_46 49 rfl hk_l0 kw5_180 ?_
            refine x_iload_n dX12_lineOf_49 rfl 50 rfl ?_
            obtain ⟨hin, h⟩ := h
            refine x_iaload dX12_lineOf_50 (ly12_21 hk_l0) hin 51 rfl ?_
            refine kX12_runs dX12_lineOf_51 54 rfl hk_l0 kw7_118 (Nat.le_of_ble_eq_true rfl) (Nat.le_of_ble_eq_true rfl) h (fun r2 M1 h => ?_)
            refine x_if_eq dX12_lineOf_54 59 57 rfl rfl (fun hc => ?_) (fun hc => ?_)
            · have h := h.1 hc
              refine x_iinc dX12_lineOf_59 rfl (congrArg (l2 + ·) kc_1) (Nat.le_of_ble_eq_true rfl) [(0, .ref l0), (1, .int l1), (2, .int (l2 + 1))] rfl 62 rfl ?_
              refine x_goto dX12_lineOf_62 2 rfl ?_
              exact hB2 _ _ h
            · have h := h.2 hc
              refine x_iload_n dX12_lineOf_57 rfl 58 rfl ?_
              exact x_iret dX12_lineOf_58 h
  exact hB2 n l2 M h
def FX12_lineOf (Q : Int32 → Mem → Prop) (l0 : Nat) (l1 : Int32) (M : Mem) : Prop :=
  NX12_lineOf_2 Q l0 l1 0 M
theorem eX12_lineOf {Q : Int32 → Mem → Prop} {l0 : Nat} {l1 : Int32} {M : Mem} (hk_l0 : SHk l0 = 12) (h : FX12_lineOf Q l0 l1 M) : xX RX12 cX12_lineOf 3 (some .int) 3 0 [(0, .ref l0), (1, .int l1)] [] M (xQi Q) := by
  unfold FX12_lineOf at h
  refine x_iconst dX12_lineOf_0 kc_0 1 rfl ?_
  refine x_istore_n dX12_lineOf_1 (Nat.le_of_ble_eq_true rfl) [(0, .ref l0), (1, .int l1), (2, .int 0)] rfl 2 rfl ?_
  exact nX12_lineOf_2 hk_l0 h
theorem cX12_lineOf_ {Q : Int32 → Mem → Prop} {l0 : Nat} {l1 : Int32} {M : Mem} (hk_l0 : SHk l0 = 12) (h : FX12_lineOf Q l0 l1 M) : xM yX12_lineOf cX12_lineOf 3 (some .int) 3 [.ref l0, .int l1] M (xQi Q) := xM_of (by decide +kernel) (Nat.le_of_ble_eq_true rfl) (eX12_lineOf hk_l0 h)
theorem kX12_lineOf {own : String} {cc : ByteArray} {nL : Nat} {rt : Option FieldType} {d pc ix : Nat} {L : List (Nat × Value)} {st : List Value} {M : Mem} {Rt : xGt → Array Value → State → Outcome → State → Prop} {Q : Int32 → Mem → Prop} {l0 : Nat} {l1 : Int32} (hd : decode cc pc = .ok (.invokevirtual ix, 3)) (q : Nat) (hq : pc + 3 = q) (hk_l0 : SHk l0 = 12) (w1 : Cond.methodLink own ix yX12_lineOf ∈ xTs) (hr : 3 < d) (hst : (st.map fun v => v.category).sum ≤ 8) (h : FX12_lineOf Q l0 l1 M) (k : ∀ (r : Int32) (N : Mem), Q r N → xX own cc nL rt d q L (.int r :: st) N Rt) : xX own cc nL rt d pc L (.int l1 :: .ref l0 :: st) M Rt :=
  x_callV_i (n := 1) (As := [.int l1]) hd q hq hk_l0 (by decide) rfl rfl w1 kw7_116 ks6_13 kw1_14 kw7_117 (by decide +kernel) rfl hr (by decide) hst _ rfl (cX12_lineOf_ hk_l0 h) k
def NX12_aboveOf_20 (Q : Int32 → Prop) (l0 : Nat) (l1 : Int32) (s0 : Int32) (M : Mem) : Prop :=
  ((¬ s0 = (-1) → FX12_sitterOf (fun (r1 : Int32) => vp_in (21 + r1) 107 ∧ Q (M (l0 + 1) (ix (21 + r1)))) l0 s0 M) ∧ (s0 = (-1) → vp_in (21 + l1) 107 ∧ Q (M (l0 + 1) (ix (21 + l1)))))
theorem nX12_aboveOf_20 {Q : Int32 → Prop} {l0 : Nat} {l1 : Int32} {s0 : Int32} {M : Mem} (hk_l0 : SHk l0 = 12) (h : NX12_aboveOf_20 Q l0 l1 s0 M) : xX RX12 cX12_aboveOf 4 (some .int) 3 20 [(0, .ref l0), (1, .int l1)] [.int s0] M (xQi (xP M Q)) := by
  unfold NX12_aboveOf_20 at h
  refine x_istore_n dX12_aboveOf_20 (Nat.le_of_ble_eq_true rfl) [(0, .ref l0), (1, .int l1), (3, .int s0)] rfl 21 rfl ?_
  refine x_aload_n dX12_aboveOf_21 rfl 22 rfl ?_
  refine gf12_1 dX12_aboveOf_22 25 rfl hk_l0 kw5_160 ?_
  refine x_bipush dX12_aboveOf_25 kb_21 27 rfl ?_
  refine x_iload_n dX12_aboveOf_27 rfl 28 rfl ?_
  refine x_iconst dX12_aboveOf_28 kc_m1 29 rfl ?_
  refine x_icmp_ne dX12_aboveOf_29 36 32 rfl rfl (fun hc => ?_) (fun hc => ?_)
  · have h := h.1 hc
    refine x_aload_n dX12_aboveOf_36 rfl 37 rfl ?_
    refine x_iload_n dX12_aboveOf_37 rfl 38 rfl ?_
    refine kX12_sitterOf dX12_aboveOf_38 41 rfl hk_l0 kw6_90 (Nat.le_of_ble_eq_true rfl) (Nat.le_of_ble_eq_true rfl) h (fun r1 h => ?_)
    refine x_iadd dX12_aboveOf_41 42 rfl ?_
    obtain ⟨hin, h⟩ := h
    refine x_iaload dX12_aboveOf_42 (ly12_1 hk_l0) hin 43 rfl ?_
    exact x_iret dX12_aboveOf_43 ⟨rfl, h⟩
  · have h := h.2 hc
    refine x_iload_n dX12_aboveOf_32 rfl 33 rfl ?_
    refine x_goto dX12_aboveOf_33 41 rfl ?_
    refine x_iadd dX12_aboveOf_41 42 rfl ?_
    obtain ⟨hin, h⟩ := h
    refine x_iaload dX12_aboveOf_42 (ly12_1 hk_l0) hin 43 rfl ?_
    exact x_iret dX12_aboveOf_43 ⟨rfl, h⟩
def FX12_aboveOf (Q : Int32 → Prop) (l0 : Nat) (l1 : Int32) (M : Mem) : Prop :=
  FX12_pillarOf (fun (r2 : Int32) => ((¬ r2 = (-1) → FX12_nextAbove (fun (r3 : Int32) => NX12_aboveOf_20 Q l0 l1 r3 M) l0 r2 M) ∧ (r2 = (-1) → NX12_aboveOf_20 Q l0 l1 (-1) M))) l0 l1 M
theorem eX12_aboveOf {Q : Int32 → Prop} {l0 : Nat} {l1 : Int32} {M : Mem} (hk_l0 : SHk l0 = 12) (h : FX12_aboveOf Q l0 l1 M) : xX RX12 cX12_aboveOf 4 (some .int) 3 0 [(0, .ref l0), (1, .int l1)] [] M (xQi (xP M Q)) := by
  unfold FX12_aboveOf at h
  refine x_aload_n dX12_aboveOf_0 rfl 1 rfl ?_
  refine x_iload_n dX12_aboveOf_1 rfl 2 rfl ?_
  refine kX12_pillarOf dX12_aboveOf_2 5 rfl hk_l0 kw7_46 (Nat.le_of_ble_eq_true rfl) (Nat.le_of_ble_eq_true rfl) h (fun r2 h => ?_)
  refine x_istore_n dX12_aboveOf_5 (Nat.le_of_ble_eq_true rfl) [(0, .ref l0), (1, .int l1), (2, .int r2)] rfl 6 rfl ?_
  refine x_iload_n dX12_aboveOf_6 rfl 7 rfl ?_
  refine x_iconst dX12_aboveOf_7 kc_m1 8 rfl ?_
  refine x_icmp_ne dX12_aboveOf_8 15 11 rfl rfl (fun hc => ?_) (fun hc => ?_)
  · have h := h.1 hc
    refine x_aload_n dX12_aboveOf_15 rfl 16 rfl ?_
    refine x_iload_n dX12_aboveOf_16 rfl 17 rfl ?_
    refine kX12_nextAbove dX12_aboveOf_17 20 rfl hk_l0 kw7_106 (Nat.le_of_ble_eq_true rfl) (Nat.le_of_ble_eq_true rfl) h (fun r3 h => ?_)
    refine x_weak [(0, .ref l0), (1, .int l1)] [0, 1] rfl ?_
    exact nX12_aboveOf_20 hk_l0 h
  · have h := h.2 hc
    refine x_iconst dX12_aboveOf_11 kc_m1 12 rfl ?_
    refine x_goto dX12_aboveOf_12 20 rfl ?_
    refine x_weak [(0, .ref l0), (1, .int l1)] [0, 1] rfl ?_
    exact nX12_aboveOf_20 hk_l0 h
theorem cX12_aboveOf_ {Q : Int32 → Prop} {l0 : Nat} {l1 : Int32} {M : Mem} (hk_l0 : SHk l0 = 12) (h : FX12_aboveOf Q l0 l1 M) : xM yX12_aboveOf cX12_aboveOf 4 (some .int) 3 [.ref l0, .int l1] M (xQi (xP M Q)) := xM_of (by decide +kernel) (Nat.le_of_ble_eq_true rfl) (eX12_aboveOf hk_l0 h)
theorem kX12_aboveOf {own : String} {cc : ByteArray} {nL : Nat} {rt : Option FieldType} {d pc ix : Nat} {L : List (Nat × Value)} {st : List Value} {M : Mem} {Rt : xGt → Array Value → State → Outcome → State → Prop} {Q : Int32 → Prop} {l0 : Nat} {l1 : Int32} (hd : decode cc pc = .ok (.invokevirtual ix, 3)) (q : Nat) (hq : pc + 3 = q) (hk_l0 : SHk l0 = 12) (w1 : Cond.methodLink own ix yX12_aboveOf ∈ xTs) (hr : 3 < d) (hst : (st.map fun v => v.category).sum ≤ 8) (h : FX12_aboveOf Q l0 l1 M) (k : ∀ (r : Int32), Q r → xX own cc nL rt d q L (.int r :: st) M Rt) : xX own cc nL rt d pc L (.int l1 :: .ref l0 :: st) M Rt :=
  x_callV_i (n := 1) (As := [.int l1]) hd q hq hk_l0 (by decide) rfl rfl w1 kw7_104 ks6_10 kw1_14 kw7_105 (by decide +kernel) rfl hr (by decide) hst _ rfl (cX12_aboveOf_ hk_l0 h) (fun r N hN => by obtain ⟨rfl, hN⟩ := hN; exact k r hN)
def NX12_asks_95 (Q : Mem → Prop) (l0 : Nat) (l1 : Int32) (s0 : Nat) (s1 : Int32) (s2 : Int32) (M : Mem) : Prop :=
  vp_in s1 (SHn s0) ∧ ∀ M1 : Mem, M1 = xu M s0 (ix s1) s2 → ∀ M2 : Mem, M2 = xu M1 (l0 + 19) (6) (M1 (l0 + 1) 5) → FX12_aboveOf (fun (r3 : Int32) => ∀ M4 : Mem, M4 = xu M2 (l0 + 19) (7) r3 → ∀ M5 : Mem, M5 = xu M4 (l0 + 19) (8) (M4 (l0 + 1) 0) → Q M5) l0 l1 M2
theorem nX12_asks_95 {Q : Mem → Prop} {l0 : Nat} {l1 : Int32} {s0 : Nat} {s1 : Int32} {s2 : Int32} {M : Mem} (hk_l0 : SHk l0 = 12) (hk_s0 : SHk s0 = 13) (h : NX12_asks_95 Q l0 l1 s0 s1 s2 M) : xX RX12 cX12_asks 3 none 4 95 [(0, .ref l0), (1, .int l1)] [.int s2, .int s1, .ref s0] M (xQv Q) := by
  unfold NX12_asks_95 at h
  obtain ⟨hin, h⟩ := h
  refine x_iastore dX12_asks_95 ⟨hk_s0, rfl⟩ hin 96 rfl (x_mem (fun M1 hM1 => ?_))
  have h := h M1 hM1
  refine x_aload_n dX12_asks_96 rfl 97 rfl ?_
  refine gf12_39 dX12_asks_97 100 rfl hk_l0 kw5_198 ?_
  refine x_bipush dX12_asks_100 kb_6 102 rfl ?_
  refine x_aload_n dX12_asks_102 rfl 103 rfl ?_
  refine gf12_1 dX12_asks_103 106 rfl hk_l0 kw5_160 ?_
  refine x_iconst dX12_asks_106 kc_5 107 rfl ?_
  refine x_iaload dX12_asks_107 (ly12_1 hk_l0) (by unfold vp_in; decide) 108 rfl ?_
  refine x_iastore dX12_asks_108 (ly12_39 hk_l0) (by unfold vp_in; decide) 109 rfl (x_mem (fun M2 hM2 => ?_))
  have h := h M2 hM2
  refine x_aload_n dX12_asks_109 rfl 110 rfl ?_
  refine gf12_39 dX12_asks_110 113 rfl hk_l0 kw5_198 ?_
  refine x_bipush dX12_asks_113 kb_7 115 rfl ?_
  refine x_aload_n dX12_asks_115 rfl 116 rfl ?_
  refine x_iload_n dX12_asks_116 rfl 117 rfl ?_
  refine kX12_aboveOf dX12_asks_117 120 rfl hk_l0 kw7_102 (Nat.le_of_ble_eq_true rfl) (Nat.le_of_ble_eq_true rfl) h (fun r3 h => ?_)
  refine x_iastore dX12_asks_120 (ly12_39 hk_l0) (by unfold vp_in; decide) 121 rfl (x_mem (fun M4 hM4 => ?_))
  have h := h M4 hM4
  refine x_aload_n dX12_asks_121 rfl 122 rfl ?_
  refine gf12_39 dX12_asks_122 125 rfl hk_l0 kw5_198 ?_
  refine x_bipush dX12_asks_125 kb_8 127 rfl ?_
  refine x_aload_n dX12_asks_127 rfl 128 rfl ?_
  refine gf12_1 dX12_asks_128 131 rfl hk_l0 kw5_160 ?_
  refine x_iconst dX12_asks_131 kc_0 132 rfl ?_
  refine x_iaload dX12_asks_132 (ly12_1 hk_l0) (by unfold vp_in; decide) 133 rfl ?_
  refine x_iastore dX12_asks_133 (ly12_39 hk_l0) (by unfold vp_in; decide) 134 rfl (x_mem (fun M5 hM5 => ?_))
  have h := h M5 hM5
  exact x_vret dX12_asks_134 h
def FX12_asks (Q : Mem → Prop) (l0 : Nat) (l1 : Int32) (M : Mem) : Prop :=
  FX12_pillarOf (fun (r6 : Int32) => vp_in (7 + l1) 107 ∧ ∀ M7 : Mem, M7 = xu M (l0 + 19) (0) (M (l0 + 1) (ix (7 + l1))) → vp_in l1 14 ∧ ∀ M8 : Mem, M8 = xu M7 (l0 + 19) (1) (M7 (l0 + 4) (ix l1)) → vp_in (21 + l1) 107 ∧ ∀ M9 : Mem, M9 = xu M8 (l0 + 19) (2) (M8 (l0 + 1) (ix (21 + l1))) → vp_in (35 + l1) 107 ∧ ∀ M10 : Mem, M10 = xu M9 (l0 + 19) (3) (M9 (l0 + 1) (ix (35 + l1))) → ∀ M11 : Mem, M11 = xu M10 (l0 + 19) (4) (r6 + 1) → ((¬ r6 = (-1) → vp_in (63 + r6) 107 ∧ NX12_asks_95 Q l0 l1 (l0 + 19) 5 (M11 (l0 + 1) (ix (63 + r6))) M11) ∧ (r6 = (-1) → NX12_asks_95 Q l0 l1 (l0 + 19) 5 0 M11))) l0 l1 M
theorem eX12_asks {Q : Mem → Prop} {l0 : Nat} {l1 : Int32} {M : Mem} (hk_l0 : SHk l0 = 12) (h : FX12_asks Q l0 l1 M) : xX RX12 cX12_asks 3 none 4 0 [(0, .ref l0), (1, .int l1)] [] M (xQv Q) := by
  unfold FX12_asks at h
  refine x_aload_n dX12_asks_0 rfl 1 rfl ?_
  refine x_iload_n dX12_asks_1 rfl 2 rfl ?_
  refine kX12_pillarOf dX12_asks_2 5 rfl hk_l0 kw7_46 (Nat.le_of_ble_eq_true rfl) (Nat.le_of_ble_eq_true rfl) h (fun r6 h => ?_)
  refine x_istore_n dX12_asks_5 (Nat.le_of_ble_eq_true rfl) [(0, .ref l0), (1, .int l1), (2, .int r6)] rfl 6 rfl ?_
  refine x_aload_n dX12_asks_6 rfl 7 rfl ?_
  refine gf12_39 dX12_asks_7 10 rfl hk_l0 kw5_198 ?_
  refine x_iconst dX12_asks_10 kc_0 11 rfl ?_
  refine x_aload_n dX12_asks_11 rfl 12 rfl ?_
  refine gf12_1 dX12_asks_12 15 rfl hk_l0 kw5_160 ?_
  refine x_bipush dX12_asks_15 kb_7 17 rfl ?_
  refine x_iload_n dX12_asks_17 rfl 18 rfl ?_
  refine x_iadd dX12_asks_18 19 rfl ?_
  obtain ⟨hin, h⟩ := h
  refine x_iaload dX12_asks_19 (ly12_1 hk_l0) hin 20 rfl ?_
  refine x_iastore dX12_asks_20 (ly12_39 hk_l0) (by unfold vp_in; decide) 21 rfl (x_mem (fun M7 hM7 => ?_))
  have h := h M7 hM7
  refine x_aload_n dX12_asks_21 rfl 22 rfl ?_
  refine gf12_39 dX12_asks_22 25 rfl hk_l0 kw5_198 ?_
  refine x_iconst dX12_asks_25 kc_1 26 rfl ?_
  refine x_aload_n dX12_asks_26 rfl 27 rfl ?_
  refine gf12_8 dX12_asks_27 30 rfl hk_l0 kw5_167 ?_
  refine x_iload_n dX12_asks_30 rfl 31 rfl ?_
  obtain ⟨hin, h⟩ := h
  refine x_iaload dX12_asks_31 (ly12_8 hk_l0) hin 32 rfl ?_
  refine x_iastore dX12_asks_32 (ly12_39 hk_l0) (by unfold vp_in; decide) 33 rfl (x_mem (fun M8 hM8 => ?_))
  have h := h M8 hM8
  refine x_aload_n dX12_asks_33 rfl 34 rfl ?_
  refine gf12_39 dX12_asks_34 37 rfl hk_l0 kw5_198 ?_
  refine x_iconst dX12_asks_37 kc_2 38 rfl ?_
  refine x_aload_n dX12_asks_38 rfl 39 rfl ?_
  refine gf12_1 dX12_asks_39 42 rfl hk_l0 kw5_160 ?_
  refine x_bipush dX12_asks_42 kb_21 44 rfl ?_
  refine x_iload_n dX12_asks_44 rfl 45 rfl ?_
  refine x_iadd dX12_asks_45 46 rfl ?_
  obtain ⟨hin, h⟩ := h
  refine x_iaload dX12_asks_46 (ly12_1 hk_l0) hin 47 rfl ?_
  refine x_iastore dX12_asks_47 (ly12_39 hk_l0) (by unfold vp_in; decide) 48 rfl (x_mem (fun M9 hM9 => ?_))
  have h := h M9 hM9
  refine x_aload_n dX12_asks_48 rfl 49 rfl ?_
  refine gf12_39 dX12_asks_49 52 rfl hk_l0 kw5_198 ?_
  refine x_iconst dX12_asks_52 kc_3 53 rfl ?_
  refine x_aload_n dX12_asks_53 rfl 54 rfl ?_
  refine gf12_1 dX12_asks_54 57 rfl hk_l0 kw5_160 ?_
  refine x_bipush dX12_asks_57 kb_35 59 rfl ?_
  refine x_iload_n dX12_asks_59 rfl 60 rfl ?_
  refine x_iadd dX12_asks_60 61 rfl ?_
  obtain ⟨hin, h⟩ := h
  refine x_iaload dX12_asks_61 (ly12_1 hk_l0) hin 62 rfl ?_
  refine x_iastore dX12_asks_62 (ly12_39 hk_l0) (by unfold vp_in; decide) 63 rfl (x_mem (fun M10 hM10 => ?_))
  have h := h M10 hM10
  refine x_aload_n dX12_asks_63 rfl 64 rfl ?_
  refine gf12_39 dX12_asks_64 67 rfl hk_l0 kw5_198 ?_
  refine x_iconst dX12_asks_67 kc_4 68 rfl ?_
  refine x_iload_n dX12_asks_68 rfl 69 rfl ?_
  refine x_iconst dX12_asks_69 kc_1 70 rfl ?_
  refine x_iadd dX12_asks_70 71 rfl ?_
  refine x_iastore dX12_asks_71 (ly12_39 hk_l0) (by unfold vp_in; decide) 72 rfl (x_mem (fun M11 hM11 => ?_))
  have h := h M11 hM11
  refine x_aload_n dX12_asks_72 rfl 73 rfl ?_
  refine gf12_39 dX12_asks_73 76 rfl hk_l0 kw5_198 ?_
  refine x_iconst dX12_asks_76 kc_5 77 rfl ?_
  refine x_iload_n dX12_asks_77 rfl 78 rfl ?_
  refine x_iconst dX12_asks_78 kc_m1 79 rfl ?_
  refine x_icmp_ne dX12_asks_79 86 82 rfl rfl (fun hc => ?_) (fun hc => ?_)
  · have h := h.1 hc
    refine x_aload_n dX12_asks_86 rfl 87 rfl ?_
    refine gf12_1 dX12_asks_87 90 rfl hk_l0 kw5_160 ?_
    refine x_bipush dX12_asks_90 kb_63 92 rfl ?_
    refine x_iload_n dX12_asks_92 rfl 93 rfl ?_
    refine x_iadd dX12_asks_93 94 rfl ?_
    obtain ⟨hin, h⟩ := h
    refine x_iaload dX12_asks_94 (ly12_1 hk_l0) hin 95 rfl ?_
    refine x_weak [(0, .ref l0), (1, .int l1)] [0, 1] rfl ?_
    exact nX12_asks_95 hk_l0 (ly12_39 hk_l0).1 h
  · have h := h.2 hc
    refine x_iconst dX12_asks_82 kc_0 83 rfl ?_
    refine x_goto dX12_asks_83 95 rfl ?_
    refine x_weak [(0, .ref l0), (1, .int l1)] [0, 1] rfl ?_
    exact nX12_asks_95 hk_l0 (ly12_39 hk_l0).1 h
theorem cX12_asks_ {Q : Mem → Prop} {l0 : Nat} {l1 : Int32} {M : Mem} (hk_l0 : SHk l0 = 12) (h : FX12_asks Q l0 l1 M) : xM yX12_asks cX12_asks 3 none 4 [.ref l0, .int l1] M (xQv Q) := xM_of (by decide +kernel) (Nat.le_of_ble_eq_true rfl) (eX12_asks hk_l0 h)
theorem kX12_asks {own : String} {cc : ByteArray} {nL : Nat} {rt : Option FieldType} {d pc ix : Nat} {L : List (Nat × Value)} {st : List Value} {M : Mem} {Rt : xGt → Array Value → State → Outcome → State → Prop} {Q : Mem → Prop} {l0 : Nat} {l1 : Int32} (hd : decode cc pc = .ok (.invokevirtual ix, 3)) (q : Nat) (hq : pc + 3 = q) (hk_l0 : SHk l0 = 12) (w1 : Cond.methodLink own ix yX12_asks ∈ xTs) (hr : 4 < d) (hst : (st.map fun v => v.category).sum ≤ 8) (h : FX12_asks Q l0 l1 M) (k : ∀ (N : Mem), Q N → xX own cc nL rt d q L st N Rt) : xX own cc nL rt d pc L (.int l1 :: .ref l0 :: st) M Rt :=
  x_callV_v (n := 1) (As := [.int l1]) hd q hq hk_l0 (by decide) rfl rfl w1 kw7_100 ks6_9 kw1_14 kw7_101 (by decide +kernel) rfl hr (by decide) hst _ rfl (cX12_asks_ hk_l0 h) k
def NX12_lawTells_37 (Q : Int32 → Mem → Prop) (l3 : Int32) (l4 : Int32) (s0 : Nat) (s1 : Int32) (M : Mem) : Prop :=
  FX12_held (fun (r1 : Int32) => Q r1 M) s0 s1 l3 l4 M
theorem nX12_lawTells_37 {Q : Int32 → Mem → Prop} {l3 : Int32} {l4 : Int32} {s0 : Nat} {s1 : Int32} {M : Mem} (hk_s0 : SHk s0 = 12) (h : NX12_lawTells_37 Q l3 l4 s0 s1 M) : xX RX12 cX12_lawTells 6 (some .int) 4 37 [(3, .int l3), (4, .int l4)] [.int s1, .ref s0] M (xQi Q) := by
  unfold NX12_lawTells_37 at h
  refine x_iload_n dX12_lawTells_37 rfl 38 rfl ?_
  refine x_iload dX12_lawTells_38 rfl 40 rfl ?_
  refine kX12_held dX12_lawTells_40 43 rfl hk_s0 kw7_126 (Nat.le_of_ble_eq_true rfl) (Nat.le_of_ble_eq_true rfl) h (fun r1 h => ?_)
  exact x_iret dX12_lawTells_43 h
def FX12_lawTells (Q : Int32 → Mem → Prop) (l0 : Nat) (l1 : Int32) (l2 : Int32) (l3 : Int32) (l4 : Int32) (M : Mem) : Prop :=
  FX12_lineOf (fun (r3 : Int32) (M2 : Mem) => ((¬ r3 = (-1) → vp_in r3 48 ∧ vp_in r3 48 ∧ FX12_runs (fun (r5 : Int32) (M4 : Mem) => NX12_lawTells_37 Q l3 l4 l0 r5 M4) l0 0 (M2 (l0 + 10) (ix r3)) (M2 (l0 + 11) (ix r3)) M2) ∧ (r3 = (-1) → NX12_lawTells_37 Q l3 l4 l0 l2 M2))) l0 l1 M
theorem eX12_lawTells {Q : Int32 → Mem → Prop} {l0 : Nat} {l1 : Int32} {l2 : Int32} {l3 : Int32} {l4 : Int32} {M : Mem} (hk_l0 : SHk l0 = 12) (h : FX12_lawTells Q l0 l1 l2 l3 l4 M) : xX RX12 cX12_lawTells 6 (some .int) 4 0 [(0, .ref l0), (1, .int l1), (2, .int l2), (3, .int l3), (4, .int l4)] [] M (xQi Q) := by
  unfold FX12_lawTells at h
  refine x_aload_n dX12_lawTells_0 rfl 1 rfl ?_
  refine x_iload_n dX12_lawTells_1 rfl 2 rfl ?_
  refine kX12_lineOf dX12_lawTells_2 5 rfl hk_l0 kw7_114 (Nat.le_of_ble_eq_true rfl) (Nat.le_of_ble_eq_true rfl) h (fun r3 M2 h => ?_)
  refine x_istore dX12_lawTells_5 (Nat.le_of_ble_eq_true rfl) [(0, .ref l0), (1, .int l1), (2, .int l2), (3, .int l3), (4, .int l4), (5, .int r3)] rfl 7 rfl ?_
  refine x_aload_n dX12_lawTells_7 rfl 8 rfl ?_
  refine x_iload dX12_lawTells_8 rfl 10 rfl ?_
  refine x_iconst dX12_lawTells_10 kc_m1 11 rfl ?_
  refine x_icmp_ne dX12_lawTells_11 18 14 rfl rfl (fun hc => ?_) (fun hc => ?_)
  · have h := h.1 hc
    refine x_aload_n dX12_lawTells_18 rfl 19 rfl ?_
    refine x_iconst dX12_lawTells_19 kc_0 20 rfl ?_
    refine x_aload_n dX12_lawTells_20 rfl 21 rfl ?_
    refine gf12_19 dX12_lawTells_21 24 rfl hk_l0 kw5_178 ?_
    refine x_iload dX12_lawTells_24 rfl 26 rfl ?_
    obtain ⟨hin, h⟩ := h
    refine x_iaload dX12_lawTells_26 (ly12_19 hk_l0) hin 27 rfl ?_
    refine x_aload_n dX12_lawTells_27 rfl 28 rfl ?_
    refine gf12_20 dX12_lawTells_28 31 rfl hk_l0 kw5_179 ?_
    refine x_iload dX12_lawTells_31 rfl 33 rfl ?_
    obtain ⟨hin, h⟩ := h
    refine x_iaload dX12_lawTells_33 (ly12_20 hk_l0) hin 34 rfl ?_
    refine kX12_runs dX12_lawTells_34 37 rfl hk_l0 kw7_118 (Nat.le_of_ble_eq_true rfl) (Nat.le_of_ble_eq_true rfl) h (fun r5 M4 h => ?_)
    refine x_weak [(3, .int l3), (4, .int l4)] [3, 4] rfl ?_
    exact nX12_lawTells_37 hk_l0 h
  · have h := h.2 hc
    refine x_iload_n dX12_lawTells_14 rfl 15 rfl ?_
    refine x_goto dX12_lawTells_15 37 rfl ?_
    refine x_weak [(3, .int l3), (4, .int l4)] [3, 4] rfl ?_
    exact nX12_lawTells_37 hk_l0 h
theorem cX12_lawTells_ {Q : Int32 → Mem → Prop} {l0 : Nat} {l1 : Int32} {l2 : Int32} {l3 : Int32} {l4 : Int32} {M : Mem} (hk_l0 : SHk l0 = 12) (h : FX12_lawTells Q l0 l1 l2 l3 l4 M) : xM yX12_lawTells cX12_lawTells 6 (some .int) 4 [.ref l0, .int l1, .int l2, .int l3, .int l4] M (xQi Q) := xM_of (by decide +kernel) (Nat.le_of_ble_eq_true rfl) (eX12_lawTells hk_l0 h)
theorem kX12_lawTells {own : String} {cc : ByteArray} {nL : Nat} {rt : Option FieldType} {d pc ix : Nat} {L : List (Nat × Value)} {st : List Value} {M : Mem} {Rt : xGt → Array Value → State → Outcome → State → Prop} {Q : Int32 → Mem → Prop} {l0 : Nat} {l1 : Int32} {l2 : Int32} {l3 : Int32} {l4 : Int32} (hd : decode cc pc = .ok (.invokevirtual ix, 3)) (q : Nat) (hq : pc + 3 = q) (hk_l0 : SHk l0 = 12) (w1 : Cond.methodLink own ix yX12_lawTells ∈ xTs) (hr : 4 < d) (hst : (st.map fun v => v.category).sum ≤ 8) (h : FX12_lawTells Q l0 l1 l2 l3 l4 M) (k : ∀ (r : Int32) (N : Mem), Q r N → xX own cc nL rt d q L (.int r :: st) N Rt) : xX own cc nL rt d pc L (.int l4 :: .int l3 :: .int l2 :: .int l1 :: .ref l0 :: st) M Rt :=
  x_callV_i (n := 4) (As := [.int l1, .int l2, .int l3, .int l4]) hd q hq hk_l0 (by decide) rfl rfl w1 kw7_112 ks6_12 kw1_14 kw7_113 (by decide +kernel) rfl hr (by decide) hst _ rfl (cX12_lawTells_ hk_l0 h) k
def FX12_eatsOf (Q : Int32 → Mem → Prop) (l0 : Nat) (l1 : Int32) (M : Mem) : Prop :=
  FX12_asks (fun (M1 : Mem) => vp_in (35 + l1) 107 ∧ FX12_lawTells (fun (r3 : Int32) (M2 : Mem) => Q r3 M2) l0 0 (1 + ((M1 (l0 + 1) (ix (35 + l1))) / 20)) 0 99 M1) l0 l1 M
theorem eX12_eatsOf {Q : Int32 → Mem → Prop} {l0 : Nat} {l1 : Int32} {M : Mem} (hk_l0 : SHk l0 = 12) (h : FX12_eatsOf Q l0 l1 M) : xX RX12 cX12_eatsOf 2 (some .int) 5 0 [(0, .ref l0), (1, .int l1)] [] M (xQi Q) := by
  unfold FX12_eatsOf at h
  refine x_aload_n dX12_eatsOf_0 rfl 1 rfl ?_
  refine x_iload_n dX12_eatsOf_1 rfl 2 rfl ?_
  refine kX12_asks dX12_eatsOf_2 5 rfl hk_l0 kw7_98 (Nat.le_of_ble_eq_true rfl) (Nat.le_of_ble_eq_true rfl) h (fun M1 h => ?_)
  refine x_aload_n dX12_eatsOf_5 rfl 6 rfl ?_
  refine x_iconst dX12_eatsOf_6 kc_0 7 rfl ?_
  refine x_iconst dX12_eatsOf_7 kc_1 8 rfl ?_
  refine x_aload_n dX12_eatsOf_8 rfl 9 rfl ?_
  refine gf12_1 dX12_eatsOf_9 12 rfl hk_l0 kw5_160 ?_
  refine x_bipush dX12_eatsOf_12 kb_35 14 rfl ?_
  refine x_iload_n dX12_eatsOf_14 rfl 15 rfl ?_
  refine x_iadd dX12_eatsOf_15 16 rfl ?_
  obtain ⟨hin, h⟩ := h
  refine x_iaload dX12_eatsOf_16 (ly12_1 hk_l0) hin 17 rfl ?_
  refine x_bipush dX12_eatsOf_17 kb_20 19 rfl ?_
  refine x_idiv dX12_eatsOf_19 (by decide) 20 rfl ?_
  refine x_iadd dX12_eatsOf_20 21 rfl ?_
  refine x_iconst dX12_eatsOf_21 kc_0 22 rfl ?_
  refine x_bipush dX12_eatsOf_22 kb_99 24 rfl ?_
  refine kX12_lawTells dX12_eatsOf_24 27 rfl hk_l0 kw7_110 (Nat.le_of_ble_eq_true rfl) (Nat.le_of_ble_eq_true rfl) h (fun r3 M2 h => ?_)
  exact x_iret dX12_eatsOf_27 h
theorem cX12_eatsOf_ {Q : Int32 → Mem → Prop} {l0 : Nat} {l1 : Int32} {M : Mem} (hk_l0 : SHk l0 = 12) (h : FX12_eatsOf Q l0 l1 M) : xM yX12_eatsOf cX12_eatsOf 2 (some .int) 5 [.ref l0, .int l1] M (xQi Q) := xM_of (by decide +kernel) (Nat.le_of_ble_eq_true rfl) (eX12_eatsOf hk_l0 h)
theorem kX12_eatsOf {own : String} {cc : ByteArray} {nL : Nat} {rt : Option FieldType} {d pc ix : Nat} {L : List (Nat × Value)} {st : List Value} {M : Mem} {Rt : xGt → Array Value → State → Outcome → State → Prop} {Q : Int32 → Mem → Prop} {l0 : Nat} {l1 : Int32} (hd : decode cc pc = .ok (.invokevirtual ix, 3)) (q : Nat) (hq : pc + 3 = q) (hk_l0 : SHk l0 = 12) (w1 : Cond.methodLink own ix yX12_eatsOf ∈ xTs) (hr : 5 < d) (hst : (st.map fun v => v.category).sum ≤ 8) (h : FX12_eatsOf Q l0 l1 M) (k : ∀ (r : Int32) (N : Mem), Q r N → xX own cc nL rt d q L (.int r :: st) N Rt) : xX own cc nL rt d pc L (.int l1 :: .ref l0 :: st) M Rt :=
  x_callV_i (n := 1) (As := [.int l1]) hd q hq hk_l0 (by decide) rfl rfl w1 kw7_96 ks6_8 kw1_14 kw7_97 (by decide +kernel) rfl hr (by decide) hst _ rfl (cX12_eatsOf_ hk_l0 h) k
def FX12_diesOf (Q : Int32 → Mem → Prop) (l0 : Nat) (l1 : Int32) (M : Mem) : Prop :=
  FX12_asks (fun (M1 : Mem) => vp_in (7 + l1) 107 ∧ FX12_greater (fun (r2 : Int32) => vp_in (35 + l1) 107 ∧ FX12_greater (fun (r3 : Int32) => FX12_lawTells (fun (r5 : Int32) (M4 : Mem) => Q r5 M4) l0 1 ((5 * r2) + (20 * r3)) 0 1000 M1) l0 0 ((M1 (l0 + 1) (ix (35 + l1))) - 80) M1) l0 0 ((M1 (l0 + 1) (ix (7 + l1))) - 70) M1) l0 l1 M
theorem eX12_diesOf {Q : Int32 → Mem → Prop} {l0 : Nat} {l1 : Int32} {M : Mem} (hk_l0 : SHk l0 = 12) (h : FX12_diesOf Q l0 l1 M) : xX RX12 cX12_diesOf 2 (some .int) 5 0 [(0, .ref l0), (1, .int l1)] [] M (xQi Q) := by
  unfold FX12_diesOf at h
  refine x_aload_n dX12_diesOf_0 rfl 1 rfl ?_
  refine x_iload_n dX12_diesOf_1 rfl 2 rfl ?_
  refine kX12_asks dX12_diesOf_2 5 rfl hk_l0 kw7_98 (Nat.le_of_ble_eq_true rfl) (Nat.le_of_ble_eq_true rfl) h (fun M1 h => ?_)
  refine x_aload_n dX12_diesOf_5 rfl 6 rfl ?_
  refine x_iconst dX12_diesOf_6 kc_1 7 rfl ?_
  refine x_iconst dX12_diesOf_7 kc_5 8 rfl ?_
  refine x_aload_n dX12_diesOf_8 rfl 9 rfl ?_
  refine x_iconst dX12_diesOf_9 kc_0 10 rfl ?_
  refine x_aload_n dX12_diesOf_10 rfl 11 rfl ?_
  refine gf12_1 dX12_diesOf_11 14 rfl hk_l0 kw5_160 ?_
  refine x_bipush dX12_diesOf_14 kb_7 16 rfl ?_
  refine x_iload_n dX12_diesOf_16 rfl 17 rfl ?_
  refine x_iadd dX12_diesOf_17 18 rfl ?_
  obtain ⟨hin, h⟩ := h
  refine x_iaload dX12_diesOf_18 (ly12_1 hk_l0) hin 19 rfl ?_
  refine x_bipush dX12_diesOf_19 kb_70 21 rfl ?_
  refine x_isub dX12_diesOf_21 22 rfl ?_
  refine kX12_greater dX12_diesOf_22 25 rfl hk_l0 kw7_130 (Nat.le_of_ble_eq_true rfl) (Nat.le_of_ble_eq_true rfl) h (fun r2 h => ?_)
  refine x_imul dX12_diesOf_25 26 rfl ?_
  refine x_bipush dX12_diesOf_26 kb_20 28 rfl ?_
  refine x_aload_n dX12_diesOf_28 rfl 29 rfl ?_
  refine x_iconst dX12_diesOf_29 kc_0 30 rfl ?_
  refine x_aload_n dX12_diesOf_30 rfl 31 rfl ?_
  refine gf12_1 dX12_diesOf_31 34 rfl hk_l0 kw5_160 ?_
  refine x_bipush dX12_diesOf_34 kb_35 36 rfl ?_
  refine x_iload_n dX12_diesOf_36 rfl 37 rfl ?_
  refine x_iadd dX12_diesOf_37 38 rfl ?_
  obtain ⟨hin, h⟩ := h
  refine x_iaload dX12_diesOf_38 (ly12_1 hk_l0) hin 39 rfl ?_
  refine x_bipush dX12_diesOf_39 kb_80 41 rfl ?_
  refine x_isub dX12_diesOf_41 42 rfl ?_
  refine kX12_greater dX12_diesOf_42 45 rfl hk_l0 kw7_130 (Nat.le_of_ble_eq_true rfl) (Nat.le_of_ble_eq_true rfl) h (fun r3 h => ?_)
  refine x_imul dX12_diesOf_45 46 rfl ?_
  refine x_iadd dX12_diesOf_46 47 rfl ?_
  refine x_iconst dX12_diesOf_47 kc_0 48 rfl ?_
  refine x_sipush dX12_diesOf_48 kh_1000 51 rfl ?_
  refine kX12_lawTells dX12_diesOf_51 54 rfl hk_l0 kw7_110 (Nat.le_of_ble_eq_true rfl) (Nat.le_of_ble_eq_true rfl) h (fun r5 M4 h => ?_)
  exact x_iret dX12_diesOf_54 h
theorem cX12_diesOf_ {Q : Int32 → Mem → Prop} {l0 : Nat} {l1 : Int32} {M : Mem} (hk_l0 : SHk l0 = 12) (h : FX12_diesOf Q l0 l1 M) : xM yX12_diesOf cX12_diesOf 2 (some .int) 5 [.ref l0, .int l1] M (xQi Q) := xM_of (by decide +kernel) (Nat.le_of_ble_eq_true rfl) (eX12_diesOf hk_l0 h)
theorem kX12_diesOf {own : String} {cc : ByteArray} {nL : Nat} {rt : Option FieldType} {d pc ix : Nat} {L : List (Nat × Value)} {st : List Value} {M : Mem} {Rt : xGt → Array Value → State → Outcome → State → Prop} {Q : Int32 → Mem → Prop} {l0 : Nat} {l1 : Int32} (hd : decode cc pc = .ok (.invokevirtual ix, 3)) (q : Nat) (hq : pc + 3 = q) (hk_l0 : SHk l0 = 12) (w1 : Cond.methodLink own ix yX12_diesOf ∈ xTs) (hr : 5 < d) (hst : (st.map fun v => v.category).sum ≤ 8) (h : FX12_diesOf Q l0 l1 M) (k : ∀ (r : Int32) (N : Mem), Q r N → xX own cc nL rt d q L (.int r :: st) N Rt) : xX own cc nL rt d pc L (.int l1 :: .ref l0 :: st) M Rt :=
  x_callV_i (n := 1) (As := [.int l1]) hd q hq hk_l0 (by decide) rfl rfl w1 kw7_156 ks7_7 kw1_14 kw7_157 (by decide +kernel) rfl hr (by decide) hst _ rfl (cX12_diesOf_ hk_l0 h) k
def FX12_leansOf (Q : Int32 → Mem → Prop) (l0 : Nat) (l1 : Int32) (M : Mem) : Prop :=
  FX12_asks (fun (M1 : Mem) => FX12_partOf (fun (r2 : Int32) => FX12_lawTells (fun (r4 : Int32) (M3 : Mem) => Q r4 M3) l0 2 r2 (-99) 99 M1) l0 ((M1 (l0 + 19) 7) - (M1 (l0 + 19) 2)) 4 M1) l0 l1 M
theorem eX12_leansOf {Q : Int32 → Mem → Prop} {l0 : Nat} {l1 : Int32} {M : Mem} (hk_l0 : SHk l0 = 12) (h : FX12_leansOf Q l0 l1 M) : xX RX12 cX12_leansOf 2 (some .int) 5 0 [(0, .ref l0), (1, .int l1)] [] M (xQi Q) := by
  unfold FX12_leansOf at h
  refine x_aload_n dX12_leansOf_0 rfl 1 rfl ?_
  refine x_iload_n dX12_leansOf_1 rfl 2 rfl ?_
  refine kX12_asks dX12_leansOf_2 5 rfl hk_l0 kw7_98 (Nat.le_of_ble_eq_true rfl) (Nat.le_of_ble_eq_true rfl) h (fun M1 h => ?_)
  refine x_aload_n dX12_leansOf_5 rfl 6 rfl ?_
  refine x_iconst dX12_leansOf_6 kc_2 7 rfl ?_
  refine x_aload_n dX12_leansOf_7 rfl 8 rfl ?_
  refine x_aload_n dX12_leansOf_8 rfl 9 rfl ?_
  refine gf12_39 dX12_leansOf_9 12 rfl hk_l0 kw5_198 ?_
  refine x_bipush dX12_leansOf_12 kb_7 14 rfl ?_
  refine x_iaload dX12_leansOf_14 (ly12_39 hk_l0) (by unfold vp_in; decide) 15 rfl ?_
  refine x_aload_n dX12_leansOf_15 rfl 16 rfl ?_
  refine gf12_39 dX12_leansOf_16 19 rfl hk_l0 kw5_198 ?_
  refine x_iconst dX12_leansOf_19 kc_2 20 rfl ?_
  refine x_iaload dX12_leansOf_20 (ly12_39 hk_l0) (by unfold vp_in; decide) 21 rfl ?_
  refine x_isub dX12_leansOf_21 22 rfl ?_
  refine x_iconst dX12_leansOf_22 kc_4 23 rfl ?_
  refine kX12_partOf dX12_leansOf_23 26 rfl hk_l0 kw7_146 (Nat.le_of_ble_eq_true rfl) (Nat.le_of_ble_eq_true rfl) h (fun r2 h => ?_)
  refine x_bipush dX12_leansOf_26 kb_m99 28 rfl ?_
  refine x_bipush dX12_leansOf_28 kb_99 30 rfl ?_
  refine kX12_lawTells dX12_leansOf_30 33 rfl hk_l0 kw7_110 (Nat.le_of_ble_eq_true rfl) (Nat.le_of_ble_eq_true rfl) h (fun r4 M3 h => ?_)
  exact x_iret dX12_leansOf_33 h
theorem cX12_leansOf_ {Q : Int32 → Mem → Prop} {l0 : Nat} {l1 : Int32} {M : Mem} (hk_l0 : SHk l0 = 12) (h : FX12_leansOf Q l0 l1 M) : xM yX12_leansOf cX12_leansOf 2 (some .int) 5 [.ref l0, .int l1] M (xQi Q) := xM_of (by decide +kernel) (Nat.le_of_ble_eq_true rfl) (eX12_leansOf hk_l0 h)
theorem kX12_leansOf {own : String} {cc : ByteArray} {nL : Nat} {rt : Option FieldType} {d pc ix : Nat} {L : List (Nat × Value)} {st : List Value} {M : Mem} {Rt : xGt → Array Value → State → Outcome → State → Prop} {Q : Int32 → Mem → Prop} {l0 : Nat} {l1 : Int32} (hd : decode cc pc = .ok (.invokevirtual ix, 3)) (q : Nat) (hq : pc + 3 = q) (hk_l0 : SHk l0 = 12) (w1 : Cond.methodLink own ix yX12_leansOf ∈ xTs) (hr : 5 < d) (hst : (st.map fun v => v.category).sum ≤ 8) (h : FX12_leansOf Q l0 l1 M) (k : ∀ (r : Int32) (N : Mem), Q r N → xX own cc nL rt d q L (.int r :: st) N Rt) : xX own cc nL rt d pc L (.int l1 :: .ref l0 :: st) M Rt :=
  x_callV_i (n := 1) (As := [.int l1]) hd q hq hk_l0 (by decide) rfl rfl w1 kw7_144 ks7_4 kw1_14 kw7_145 (by decide +kernel) rfl hr (by decide) hst _ rfl (cX12_leansOf_ hk_l0 h) k
def FX12_isDown (Q : Mem → Prop) (l0 : Nat) (l1 : Int32) (M : Mem) : Prop :=
  FX12_pillarOf (fun (r1 : Int32) => vp_in (73 + r1) 107 ∧ ∀ M2 : Mem, M2 = xu M (l0 + 1) (ix (73 + r1)) 0 → FX12_comesBehind (fun (M3 : Mem) => FX12_notes (fun (M4 : Mem) => FX12_allClimb (fun (M5 : Mem) => Q M5) l0 M4) l0 3 l1 r1 M3) l0 l1 M2) l0 l1 M
theorem eX12_isDown {Q : Mem → Prop} {l0 : Nat} {l1 : Int32} {M : Mem} (hk_l0 : SHk l0 = 12) (h : FX12_isDown Q l0 l1 M) : xX RX12 cX12_isDown 3 none 4 0 [(0, .ref l0), (1, .int l1)] [] M (xQv Q) := by
  unfold FX12_isDown at h
  refine x_aload_n dX12_isDown_0 rfl 1 rfl ?_
  refine x_iload_n dX12_isDown_1 rfl 2 rfl ?_
  refine kX12_pillarOf dX12_isDown_2 5 rfl hk_l0 kw7_46 (Nat.le_of_ble_eq_true rfl) (Nat.le_of_ble_eq_true rfl) h (fun r1 h => ?_)
  refine x_istore_n dX12_isDown_5 (Nat.le_of_ble_eq_true rfl) [(0, .ref l0), (1, .int l1), (2, .int r1)] rfl 6 rfl ?_
  refine x_aload_n dX12_isDown_6 rfl 7 rfl ?_
  refine gf12_1 dX12_isDown_7 10 rfl hk_l0 kw5_160 ?_
  refine x_bipush dX12_isDown_10 kb_73 12 rfl ?_
  refine x_iload_n dX12_isDown_12 rfl 13 rfl ?_
  refine x_iadd dX12_isDown_13 14 rfl ?_
  refine x_iconst dX12_isDown_14 kc_0 15 rfl ?_
  obtain ⟨hin, h⟩ := h
  refine x_iastore dX12_isDown_15 (ly12_1 hk_l0) hin 16 rfl (x_mem (fun M2 hM2 => ?_))
  have h := h M2 hM2
  refine x_aload_n dX12_isDown_16 rfl 17 rfl ?_
  refine x_iload_n dX12_isDown_17 rfl 18 rfl ?_
  refine kX12_comesBehind dX12_isDown_18 21 rfl hk_l0 kw6_110 (Nat.le_of_ble_eq_true rfl) (Nat.le_of_ble_eq_true rfl) h (fun M3 h => ?_)
  refine x_aload_n dX12_isDown_21 rfl 22 rfl ?_
  refine x_iconst dX12_isDown_22 kc_3 23 rfl ?_
  refine x_iload_n dX12_isDown_23 rfl 24 rfl ?_
  refine x_iload_n dX12_isDown_24 rfl 25 rfl ?_
  refine kX12_notes dX12_isDown_25 28 rfl hk_l0 kw6_102 (Nat.le_of_ble_eq_true rfl) (Nat.le_of_ble_eq_true rfl) h (fun M4 h => ?_)
  refine x_aload_n dX12_isDown_28 rfl 29 rfl ?_
  refine kX12_allClimb dX12_isDown_29 32 rfl hk_l0 kw6_86 (Nat.le_of_ble_eq_true rfl) (Nat.le_of_ble_eq_true rfl) h (fun M5 h => ?_)
  exact x_vret dX12_isDown_32 h
theorem cX12_isDown_ {Q : Mem → Prop} {l0 : Nat} {l1 : Int32} {M : Mem} (hk_l0 : SHk l0 = 12) (h : FX12_isDown Q l0 l1 M) : xM yX12_isDown cX12_isDown 3 none 4 [.ref l0, .int l1] M (xQv Q) := xM_of (by decide +kernel) (Nat.le_of_ble_eq_true rfl) (eX12_isDown hk_l0 h)
theorem kX12_isDown {own : String} {cc : ByteArray} {nL : Nat} {rt : Option FieldType} {d pc ix : Nat} {L : List (Nat × Value)} {st : List Value} {M : Mem} {Rt : xGt → Array Value → State → Outcome → State → Prop} {Q : Mem → Prop} {l0 : Nat} {l1 : Int32} (hd : decode cc pc = .ok (.invokevirtual ix, 3)) (q : Nat) (hq : pc + 3 = q) (hk_l0 : SHk l0 = 12) (w1 : Cond.methodLink own ix yX12_isDown ∈ xTs) (hr : 4 < d) (hst : (st.map fun v => v.category).sum ≤ 8) (h : FX12_isDown Q l0 l1 M) (k : ∀ (N : Mem), Q N → xX own cc nL rt d q L st N Rt) : xX own cc nL rt d pc L (.int l1 :: .ref l0 :: st) M Rt :=
  x_callV_v (n := 1) (As := [.int l1]) hd q hq hk_l0 (by decide) rfl rfl w1 kw7_68 ks6_2 kw1_14 kw7_69 (by decide +kernel) rfl hr (by decide) hst _ rfl (cX12_isDown_ hk_l0 h) k
def FX12_canAct (Q : Bool → Prop) (l0 : Nat) (l1 : Int32) (l2 : Int32) (l3 : Int32) (M : Mem) : Prop :=
  ((¬ l1 = 0 → ((¬ l1 = 1 → ((¬ l1 = 2 → ((¬ l1 = 3 → Q false) ∧ (l1 = 3 → FX12_isPillar (fun (r1 : Bool) => ((r1 = false → Q false) ∧ (r1 = true → FX12_isIn (fun (r2 : Bool) => ((r2 = false → Q false) ∧ (r2 = true → Q true))) l0 l3 1 99 M))) l0 l2 M))) ∧ (l1 = 2 → FX12_isSaint (fun (r3 : Bool) => ((r3 = false → Q false) ∧ (r3 = true → FX12_pillarOf (fun (r4 : Int32) => ((r4 = (-1) → Q false) ∧ (¬ r4 = (-1) → Q true))) l0 l2 M))) l0 l2 M))) ∧ (l1 = 1 → FX12_isIn (fun (r5 : Bool) => ((r5 = false → Q false) ∧ (r5 = true → FX12_highest (fun (r6 : Int32) => ((r6 = (-1) → Q false) ∧ (¬ r6 = (-1) → Q true))) l0 M))) l0 l3 (-99) 99 M))) ∧ (l1 = 0 → FX12_isIn (fun (r7 : Bool) => Q r7) l0 l3 1 999 M))
theorem eX12_canAct {Q : Bool → Prop} {l0 : Nat} {l1 : Int32} {l2 : Int32} {l3 : Int32} {M : Mem} (hk_l0 : SHk l0 = 12) (h : FX12_canAct Q l0 l1 l2 l3 M) : xX RX12 cX12_canAct 4 (some .boolean) 3 0 [(0, .ref l0), (1, .int l1), (2, .int l2), (3, .int l3)] [] M (xQb (xP M Q)) := by
  unfold FX12_canAct at h
  refine x_iload_n dX12_canAct_0 rfl 1 rfl ?_
  refine x_if_ne dX12_canAct_1 14 4 rfl rfl (fun hc => ?_) (fun hc => ?_)
  · have h := h.1 hc
    refine x_iload_n dX12_canAct_14 rfl 15 rfl ?_
    refine x_iconst dX12_canAct_15 kc_1 16 rfl ?_
    refine x_icmp_ne dX12_canAct_16 45 19 rfl rfl (fun hc => ?_) (fun hc => ?_)
    · have h := h.1 hc
      refine x_iload_n dX12_canAct_45 rfl 46 rfl ?_
      refine x_iconst dX12_canAct_46 kc_2 47 rfl ?_
      refine x_icmp_ne dX12_canAct_47 73 50 rfl rfl (fun hc => ?_) (fun hc => ?_)
      · have h := h.1 hc
        refine x_iload_n dX12_canAct_73 rfl 74 rfl ?_
        refine x_iconst dX12_canAct_74 kc_3 75 rfl ?_
        refine x_icmp_ne dX12_canAct_75 101 78 rfl rfl (fun hc => ?_) (fun hc => ?_)
        · have h := h.1 hc
          refine x_iconst dX12_canAct_101 kc_0 102 rfl ?_
          exact x_zret (z := false) dX12_canAct_102 ⟨rfl, h⟩
        · have h := h.2 hc
          refine x_aload_n dX12_canAct_78 rfl 79 rfl ?_
          refine x_iload_n dX12_canAct_79 rfl 80 rfl ?_
          refine kX12_isPillar dX12_canAct_80 83 rfl hk_l0 kw7_50 (Nat.le_of_ble_eq_true rfl) (Nat.le_of_ble_eq_true rfl) h (fun r1 h => ?_)
          refine x_if_eq_b dX12_canAct_83 101 86 rfl rfl (fun hc => ?_) (fun hc => ?_)
          · have h := h.1 hc
            refine x_iconst dX12_canAct_101 kc_0 102 rfl ?_
            exact x_zret (z := false) dX12_canAct_102 ⟨rfl, h⟩
          · have h := h.2 hc
            refine x_aload_n dX12_canAct_86 rfl 87 rfl ?_
            refine x_iload_n dX12_canAct_87 rfl 88 rfl ?_
            refine x_iconst dX12_canAct_88 kc_1 89 rfl ?_
            refine x_bipush dX12_canAct_89 kb_99 91 rfl ?_
            refine kX12_isIn dX12_canAct_91 94 rfl hk_l0 kw6_82 (Nat.le_of_ble_eq_true rfl) (Nat.le_of_ble_eq_true rfl) h (fun r2 h => ?_)
            refine x_if_eq_b dX12_canAct_94 101 97 rfl rfl (fun hc => ?_) (fun hc => ?_)
            · have h := h.1 hc
              refine x_iconst dX12_canAct_101 kc_0 102 rfl ?_
              exact x_zret (z := false) dX12_canAct_102 ⟨rfl, h⟩
            · have h := h.2 hc
              refine x_iconst dX12_canAct_97 kc_1 98 rfl ?_
              refine x_goto dX12_canAct_98 102 rfl ?_
              exact x_zret (z := true) dX12_canAct_102 ⟨rfl, h⟩
      · have h := h.2 hc
        refine x_aload_n dX12_canAct_50 rfl 51 rfl ?_
        refine x_iload_n dX12_canAct_51 rfl 52 rfl ?_
        refine kX12_isSaint dX12_canAct_52 55 rfl hk_l0 kw6_122 (Nat.le_of_ble_eq_true rfl) (Nat.le_of_ble_eq_true rfl) h (fun r3 h => ?_)
        refine x_if_eq_b dX12_canAct_55 71 58 rfl rfl (fun hc => ?_) (fun hc => ?_)
        · have h := h.1 hc
          refine x_iconst dX12_canAct_71 kc_0 72 rfl ?_
          exact x_zret (z := false) dX12_canAct_72 ⟨rfl, h⟩
        · have h := h.2 hc
          refine x_aload_n dX12_canAct_58 rfl 59 rfl ?_
          refine x_iload_n dX12_canAct_59 rfl 60 rfl ?_
          refine kX12_pillarOf dX12_canAct_60 63 rfl hk_l0 kw7_46 (Nat.le_of_ble_eq_true rfl) (Nat.le_of_ble_eq_true rfl) h (fun r4 h => ?_)
          refine x_iconst dX12_canAct_63 kc_m1 64 rfl ?_
          refine x_icmp_eq dX12_canAct_64 71 67 rfl rfl (fun hc => ?_) (fun hc => ?_)
          · have h := h.1 hc
            refine x_iconst dX12_canAct_71 kc_0 72 rfl ?_
            exact x_zret (z := false) dX12_canAct_72 ⟨rfl, h⟩
          · have h := h.2 hc
            refine x_iconst dX12_canAct_67 kc_1 68 rfl ?_
            refine x_goto dX12_canAct_68 72 rfl ?_
            exact x_zret (z := true) dX12_canAct_72 ⟨rfl, h⟩
    · have h := h.2 hc
      refine x_aload_n dX12_canAct_19 rfl 20 rfl ?_
      refine x_iload_n dX12_canAct_20 rfl 21 rfl ?_
      refine x_bipush dX12_canAct_21 kb_m99 23 rfl ?_
      refine x_bipush dX12_canAct_23 kb_99 25 rfl ?_
      refine kX12_isIn dX12_canAct_25 28 rfl hk_l0 kw6_82 (Nat.le_of_ble_eq_true rfl) (Nat.le_of_ble_eq_true rfl) h (fun r5 h => ?_)
      refine x_if_eq_b dX12_canAct_28 43 31 rfl rfl (fun hc => ?_) (fun hc => ?_)
      · have h := h.1 hc
        refine x_iconst dX12_canAct_43 kc_0 44 rfl ?_
        exact x_zret (z := false) dX12_canAct_44 ⟨rfl, h⟩
      · have h := h.2 hc
        refine x_aload_n dX12_canAct_31 rfl 32 rfl ?_
        refine kX12_highest dX12_canAct_32 35 rfl hk_l0 kw7_42 (Nat.le_of_ble_eq_true rfl) (Nat.le_of_ble_eq_true rfl) h (fun r6 h => ?_)
        refine x_iconst dX12_canAct_35 kc_m1 36 rfl ?_
        refine x_icmp_eq dX12_canAct_36 43 39 rfl rfl (fun hc => ?_) (fun hc => ?_)
        · have h := h.1 hc
          refine x_iconst dX12_canAct_43 kc_0 44 rfl ?_
          exact x_zret (z := false) dX12_canAct_44 ⟨rfl, h⟩
        · have h := h.2 hc
          refine x_iconst dX12_canAct_39 kc_1 40 rfl ?_
          refine x_goto dX12_canAct_40 44 rfl ?_
          exact x_zret (z := true) dX12_canAct_44 ⟨rfl, h⟩
  · have h := h.2 hc
    refine x_aload_n dX12_canAct_4 rfl 5 rfl ?_
    refine x_iload_n dX12_canAct_5 rfl 6 rfl ?_
    refine x_iconst dX12_canAct_6 kc_1 7 rfl ?_
    refine x_sipush dX12_canAct_7 kh_999 10 rfl ?_
    refine kX12_isIn dX12_canAct_10 13 rfl hk_l0 kw6_82 (Nat.le_of_ble_eq_true rfl) (Nat.le_of_ble_eq_true rfl) h (fun r7 h => ?_)
    exact x_zret dX12_canAct_13 ⟨rfl, h⟩
theorem cX12_canAct_ {Q : Bool → Prop} {l0 : Nat} {l1 : Int32} {l2 : Int32} {l3 : Int32} {M : Mem} (hk_l0 : SHk l0 = 12) (h : FX12_canAct Q l0 l1 l2 l3 M) : xM yX12_canAct cX12_canAct 4 (some .boolean) 3 [.ref l0, .int l1, .int l2, .int l3] M (xQb (xP M Q)) := xM_of (by decide +kernel) (Nat.le_of_ble_eq_true rfl) (eX12_canAct hk_l0 h)
theorem kX12_canAct {own : String} {cc : ByteArray} {nL : Nat} {rt : Option FieldType} {d pc ix : Nat} {L : List (Nat × Value)} {st : List Value} {M : Mem} {Rt : xGt → Array Value → State → Outcome → State → Prop} {Q : Bool → Prop} {l0 : Nat} {l1 : Int32} {l2 : Int32} {l3 : Int32} (hd : decode cc pc = .ok (.invokevirtual ix, 3)) (q : Nat) (hq : pc + 3 = q) (hk_l0 : SHk l0 = 12) (w1 : Cond.methodLink own ix yX12_canAct ∈ xTs) (hr : 3 < d) (hst : (st.map fun v => v.category).sum ≤ 8) (h : FX12_canAct Q l0 l1 l2 l3 M) (k : ∀ (r : Bool), Q r → xX own cc nL rt d q L (.int (bI r) :: st) M Rt) : xX own cc nL rt d pc L (.int l3 :: .int l2 :: .int l1 :: .ref l0 :: st) M Rt :=
  x_callV_b (n := 3) (As := [.int l1, .int l2, .int l3]) hd q hq hk_l0 (by decide) rfl rfl w1 kw7_40 ks5_11 kw1_14 kw7_41 (by decide +kernel) rfl hr (by decide) hst _ rfl (cX12_canAct_ hk_l0 h) (fun r N hN => by obtain ⟨rfl, hN⟩ := hN; exact k r hN)
def NX12_acts_56 (Q : Mem → Prop) (l0 : Nat) (l1 : Int32) (l2 : Int32) (l3 : Int32) (M : Mem) : Prop :=
  ((¬ l1 = 3 → Q M) ∧ (l1 = 3 → vp_in (63 + l2) 107 ∧ ∀ M1 : Mem, M1 = xu M (l0 + 1) (ix (63 + l2)) l3 → Q M1))
theorem nX12_acts_56 {Q : Mem → Prop} {l0 : Nat} {l1 : Int32} {l2 : Int32} {l3 : Int32} {M : Mem} (hk_l0 : SHk l0 = 12) (h : NX12_acts_56 Q l0 l1 l2 l3 M) : xX RX12 cX12_acts 4 none 5 56 [(0, .ref l0), (1, .int l1), (2, .int l2), (3, .int l3)] [] M (xQv Q) := by
  unfold NX12_acts_56 at h
  refine x_iload_n dX12_acts_56 rfl 57 rfl ?_
  refine x_iconst dX12_acts_57 kc_3 58 rfl ?_
  refine x_icmp_ne dX12_acts_58 71 61 rfl rfl (fun hc => ?_) (fun hc => ?_)
  · have h := h.1 hc
    exact x_vret dX12_acts_71 h
  · have h := h.2 hc
    refine x_aload_n dX12_acts_61 rfl 62 rfl ?_
    refine gf12_1 dX12_acts_62 65 rfl hk_l0 kw5_160 ?_
    refine x_bipush dX12_acts_65 kb_63 67 rfl ?_
    refine x_iload_n dX12_acts_67 rfl 68 rfl ?_
    refine x_iadd dX12_acts_68 69 rfl ?_
    refine x_iload_n dX12_acts_69 rfl 70 rfl ?_
    obtain ⟨hin, h⟩ := h
    refine x_iastore dX12_acts_70 (ly12_1 hk_l0) hin 71 rfl (x_mem (fun M1 hM1 => ?_))
    have h := h M1 hM1
    exact x_vret dX12_acts_71 h
def NX12_acts_46 (Q : Mem → Prop) (l0 : Nat) (l1 : Int32) (l2 : Int32) (l3 : Int32) (M : Mem) : Prop :=
  ((¬ l1 = 2 → NX12_acts_56 Q l0 l1 l2 l3 M) ∧ (l1 = 2 → FX12_isDown (fun (M2 : Mem) => NX12_acts_56 Q l0 l1 l2 l3 M2) l0 l2 M))
theorem nX12_acts_46 {Q : Mem → Prop} {l0 : Nat} {l1 : Int32} {l2 : Int32} {l3 : Int32} {M : Mem} (hk_l0 : SHk l0 = 12) (h : NX12_acts_46 Q l0 l1 l2 l3 M) : xX RX12 cX12_acts 4 none 5 46 [(0, .ref l0), (1, .int l1), (2, .int l2), (3, .int l3)] [] M (xQv Q) := by
  unfold NX12_acts_46 at h
  refine x_iload_n dX12_acts_46 rfl 47 rfl ?_
  refine x_iconst dX12_acts_47 kc_2 48 rfl ?_
  refine x_icmp_ne dX12_acts_48 56 51 rfl rfl (fun hc => ?_) (fun hc => ?_)
  · have h := h.1 hc
    exact nX12_acts_56 hk_l0 h
  · have h := h.2 hc
    refine x_aload_n dX12_acts_51 rfl 52 rfl ?_
    refine x_iload_n dX12_acts_52 rfl 53 rfl ?_
    refine kX12_isDown dX12_acts_53 56 rfl hk_l0 kw7_66 (Nat.le_of_ble_eq_true rfl) (Nat.le_of_ble_eq_true rfl) h (fun M2 h => ?_)
    exact nX12_acts_56 hk_l0 h
def NX12_acts_25 (Q : Mem → Prop) (l0 : Nat) (l1 : Int32) (l2 : Int32) (l3 : Int32) (M : Mem) : Prop :=
  ((¬ l1 = 1 → NX12_acts_46 Q l0 l1 l2 l3 M) ∧ (l1 = 1 → FX12_highest (fun (r3 : Int32) => vp_in (83 + r3) 107 ∧ ∀ M4 : Mem, M4 = xu M (l0 + 1) (ix (83 + r3)) (l3 + 100) → NX12_acts_46 Q l0 l1 l2 l3 M4) l0 M))
theorem nX12_acts_25 {Q : Mem → Prop} {l0 : Nat} {l1 : Int32} {l2 : Int32} {l3 : Int32} {M : Mem} (hk_l0 : SHk l0 = 12) (h : NX12_acts_25 Q l0 l1 l2 l3 M) : xX RX12 cX12_acts 4 none 5 25 [(0, .ref l0), (1, .int l1), (2, .int l2), (3, .int l3)] [] M (xQv Q) := by
  unfold NX12_acts_25 at h
  refine x_iload_n dX12_acts_25 rfl 26 rfl ?_
  refine x_iconst dX12_acts_26 kc_1 27 rfl ?_
  refine x_icmp_ne dX12_acts_27 46 30 rfl rfl (fun hc => ?_) (fun hc => ?_)
  · have h := h.1 hc
    exact nX12_acts_46 hk_l0 h
  · have h := h.2 hc
    refine x_aload_n dX12_acts_30 rfl 31 rfl ?_
    refine gf12_1 dX12_acts_31 34 rfl hk_l0 kw5_160 ?_
    refine x_bipush dX12_acts_34 kb_83 36 rfl ?_
    refine x_aload_n dX12_acts_36 rfl 37 rfl ?_
    refine kX12_highest dX12_acts_37 40 rfl hk_l0 kw7_42 (Nat.le_of_ble_eq_true rfl) (Nat.le_of_ble_eq_true rfl) h (fun r3 h => ?_)
    refine x_iadd dX12_acts_40 41 rfl ?_
    refine x_iload_n dX12_acts_41 rfl 42 rfl ?_
    refine x_bipush dX12_acts_42 kb_100 44 rfl ?_
    refine x_iadd dX12_acts_44 45 rfl ?_
    obtain ⟨hin, h⟩ := h
    refine x_iastore dX12_acts_45 (ly12_1 hk_l0) hin 46 rfl (x_mem (fun M4 hM4 => ?_))
    have h := h M4 hM4
    exact nX12_acts_46 hk_l0 h
def FX12_acts (Q : Mem → Prop) (l0 : Nat) (l1 : Int32) (l2 : Int32) (l3 : Int32) (M : Mem) : Prop :=
  ((¬ l1 = 0 → NX12_acts_25 Q l0 l1 l2 l3 M) ∧ (l1 = 0 → FX12_lesser (fun (r5 : Int32) => ∀ M6 : Mem, M6 = xu M (l0 + 1) (3) r5 → NX12_acts_25 Q l0 l1 l2 l3 M6) l0 999 ((M (l0 + 1) 3) + l3) M))
theorem eX12_acts {Q : Mem → Prop} {l0 : Nat} {l1 : Int32} {l2 : Int32} {l3 : Int32} {M : Mem} (hk_l0 : SHk l0 = 12) (h : FX12_acts Q l0 l1 l2 l3 M) : xX RX12 cX12_acts 4 none 5 0 [(0, .ref l0), (1, .int l1), (2, .int l2), (3, .int l3)] [] M (xQv Q) := by
  unfold FX12_acts at h
  refine x_iload_n dX12_acts_0 rfl 1 rfl ?_
  refine x_if_ne dX12_acts_1 25 4 rfl rfl (fun hc => ?_) (fun hc => ?_)
  · have h := h.1 hc
    exact nX12_acts_25 hk_l0 h
  · have h := h.2 hc
    refine x_aload_n dX12_acts_4 rfl 5 rfl ?_
    refine gf12_1 dX12_acts_5 8 rfl hk_l0 kw5_160 ?_
    refine x_iconst dX12_acts_8 kc_3 9 rfl ?_
    refine x_aload_n dX12_acts_9 rfl 10 rfl ?_
    refine x_sipush dX12_acts_10 kh_999 13 rfl ?_
    refine x_aload_n dX12_acts_13 rfl 14 rfl ?_
    refine gf12_1 dX12_acts_14 17 rfl hk_l0 kw5_160 ?_
    refine x_iconst dX12_acts_17 kc_3 18 rfl ?_
    refine x_iaload dX12_acts_18 (ly12_1 hk_l0) (by unfold vp_in; decide) 19 rfl ?_
    refine x_iload_n dX12_acts_19 rfl 20 rfl ?_
    refine x_iadd dX12_acts_20 21 rfl ?_
    refine kX12_lesser dX12_acts_21 24 rfl hk_l0 kw7_62 (Nat.le_of_ble_eq_true rfl) (Nat.le_of_ble_eq_true rfl) h (fun r5 h => ?_)
    refine x_iastore dX12_acts_24 (ly12_1 hk_l0) (by unfold vp_in; decide) 25 rfl (x_mem (fun M6 hM6 => ?_))
    have h := h M6 hM6
    exact nX12_acts_25 hk_l0 h
theorem cX12_acts_ {Q : Mem → Prop} {l0 : Nat} {l1 : Int32} {l2 : Int32} {l3 : Int32} {M : Mem} (hk_l0 : SHk l0 = 12) (h : FX12_acts Q l0 l1 l2 l3 M) : xM yX12_acts cX12_acts 4 none 5 [.ref l0, .int l1, .int l2, .int l3] M (xQv Q) := xM_of (by decide +kernel) (Nat.le_of_ble_eq_true rfl) (eX12_acts hk_l0 h)
theorem kX12_acts {own : String} {cc : ByteArray} {nL : Nat} {rt : Option FieldType} {d pc ix : Nat} {L : List (Nat × Value)} {st : List Value} {M : Mem} {Rt : xGt → Array Value → State → Outcome → State → Prop} {Q : Mem → Prop} {l0 : Nat} {l1 : Int32} {l2 : Int32} {l3 : Int32} (hd : decode cc pc = .ok (.invokevirtual ix, 3)) (q : Nat) (hq : pc + 3 = q) (hk_l0 : SHk l0 = 12) (w1 : Cond.methodLink own ix yX12_acts ∈ xTs) (hr : 5 < d) (hst : (st.map fun v => v.category).sum ≤ 8) (h : FX12_acts Q l0 l1 l2 l3 M) (k : ∀ (N : Mem), Q N → xX own cc nL rt d q L st N Rt) : xX own cc nL rt d pc L (.int l3 :: .int l2 :: .int l1 :: .ref l0 :: st) M Rt :=
  x_callV_v (n := 3) (As := [.int l1, .int l2, .int l3]) hd q hq hk_l0 (by decide) rfl rfl w1 kw7_60 ks6_0 kw1_14 kw7_61 (by decide +kernel) rfl hr (by decide) hst _ rfl (cX12_acts_ hk_l0 h) k
def FX12_act (Q : Bool → Mem → Prop) (l0 : Nat) (l1 : Int32) (l2 : Int32) (l3 : Int32) (M : Mem) : Prop :=
  ∀ M1 : Mem, M1 = xu M l0 0 0 → FX12_canAct (fun (r2 : Bool) => ((r2 = true → FX12_keepsAhead (fun (M3 : Mem) => FX12_acts (fun (M4 : Mem) => Q true M4) l0 l1 l2 l3 M3) l0 M1) ∧ (r2 = false → Q false M1))) l0 l1 l2 l3 M1
theorem eX12_act {Q : Bool → Mem → Prop} {l0 : Nat} {l1 : Int32} {l2 : Int32} {l3 : Int32} {M : Mem} (hk_l0 : SHk l0 = 12) (h : FX12_act Q l0 l1 l2 l3 M) : xX RX12 cX12_act 4 (some .boolean) 6 0 [(0, .ref l0), (1, .int l1), (2, .int l2), (3, .int l3)] [] M (xQb Q) := by
  unfold FX12_act at h
  refine x_aload_n dX12_act_0 rfl 1 rfl ?_
  refine x_iconst dX12_act_1 kc_0 2 rfl ?_
  refine pf12_0 dX12_act_2 5 rfl hk_l0 kw5_159 (x_mem (fun M1 hM1 => ?_))
  have h := h M1 hM1
  refine x_aload_n dX12_act_5 rfl 6 rfl ?_
  refine x_iload_n dX12_act_6 rfl 7 rfl ?_
  refine x_iload_n dX12_act_7 rfl 8 rfl ?_
  refine x_iload_n dX12_act_8 rfl 9 rfl ?_
  refine kX12_canAct dX12_act_9 12 rfl hk_l0 kw7_38 (Nat.le_of_ble_eq_true rfl) (Nat.le_of_ble_eq_true rfl) h (fun r2 h => ?_)
  refine x_if_ne_b dX12_act_12 17 15 rfl rfl (fun hc => ?_) (fun hc => ?_)
  · have h := h.1 hc
    refine x_aload_n dX12_act_17 rfl 18 rfl ?_
    refine kX12_keepsAhead dX12_act_18 21 rfl hk_l0 kw7_54 (Nat.le_of_ble_eq_true rfl) (Nat.le_of_ble_eq_true rfl) h (fun M3 h => ?_)
    refine x_aload_n dX12_act_21 rfl 22 rfl ?_
    refine x_iload_n dX12_act_22 rfl 23 rfl ?_
    refine x_iload_n dX12_act_23 rfl 24 rfl ?_
    refine x_iload_n dX12_act_24 rfl 25 rfl ?_
    refine kX12_acts dX12_act_25 28 rfl hk_l0 kw7_58 (Nat.le_of_ble_eq_true rfl) (Nat.le_of_ble_eq_true rfl) h (fun M4 h => ?_)
    refine x_iconst dX12_act_28 kc_1 29 rfl ?_
    exact x_zret (z := true) dX12_act_29 h
  · have h := h.2 hc
    refine x_iconst dX12_act_15 kc_0 16 rfl ?_
    exact x_zret (z := false) dX12_act_16 h
theorem cX12_act_ {Q : Bool → Mem → Prop} {l0 : Nat} {l1 : Int32} {l2 : Int32} {l3 : Int32} {M : Mem} (hk_l0 : SHk l0 = 12) (h : FX12_act Q l0 l1 l2 l3 M) : xM yX12_act cX12_act 4 (some .boolean) 6 [.ref l0, .int l1, .int l2, .int l3] M (xQb Q) := xM_of (by decide +kernel) (Nat.le_of_ble_eq_true rfl) (eX12_act hk_l0 h)
theorem kX12_act {own : String} {cc : ByteArray} {nL : Nat} {rt : Option FieldType} {d pc ix : Nat} {L : List (Nat × Value)} {st : List Value} {M : Mem} {Rt : xGt → Array Value → State → Outcome → State → Prop} {Q : Bool → Mem → Prop} {l0 : Nat} {l1 : Int32} {l2 : Int32} {l3 : Int32} (hd : decode cc pc = .ok (.invokevirtual ix, 3)) (q : Nat) (hq : pc + 3 = q) (hk_l0 : SHk l0 = 12) (w1 : Cond.methodLink own ix yX12_act ∈ xTs) (hr : 6 < d) (hst : (st.map fun v => v.category).sum ≤ 8) (h : FX12_act Q l0 l1 l2 l3 M) (k : ∀ (r : Bool) (N : Mem), Q r N → xX own cc nL rt d q L (.int (bI r) :: st) N Rt) : xX own cc nL rt d pc L (.int l3 :: .int l2 :: .int l1 :: .ref l0 :: st) M Rt :=
  x_callV_b (n := 3) (As := [.int l1, .int l2, .int l3]) hd q hq hk_l0 (by decide) rfl rfl w1 kw7_35 kw7_36 kw1_14 kw7_37 (by decide +kernel) rfl hr (by decide) hst _ rfl (cX12_act_ hk_l0 h) k
def NX12_does_90 (Q : Mem → Prop) (l0 : Nat) (l2 : Int32) (l3 : Int32) (M : Mem) : Prop :=
  ((¬ l2 = 4 → Q M) ∧ (l2 = 4 → vp_in (49 + l3) 107 ∧ ((¬ (M (l0 + 1) (ix (49 + l3))) = 0 → Q M) ∧ ((M (l0 + 1) (ix (49 + l3))) = 0 → vp_in (35 + l3) 107 ∧ ∀ M1 : Mem, M1 = xu M (l0 + 1) (ix (35 + l3)) 99 → Q M1))))
theorem nX12_does_90 {Q : Mem → Prop} {l0 : Nat} {l2 : Int32} {l3 : Int32} {M : Mem} (hk_l0 : SHk l0 = 12) (h : NX12_does_90 Q l0 l2 l3 M) : xX RX12 cX12_does 4 none 6 90 [(0, .ref l0), (2, .int l2), (3, .int l3)] [] M (xQv Q) := by
  unfold NX12_does_90 at h
  refine x_iload_n dX12_does_90 rfl 91 rfl ?_
  refine x_iconst dX12_does_91 kc_4 92 rfl ?_
  refine x_icmp_ne dX12_does_92 118 95 rfl rfl (fun hc => ?_) (fun hc => ?_)
  · have h := h.1 hc
    exact x_vret dX12_does_118 h
  · have h := h.2 hc
    refine x_aload_n dX12_does_95 rfl 96 rfl ?_
    refine gf12_1 dX12_does_96 99 rfl hk_l0 kw5_160 ?_
    refine x_bipush dX12_does_99 kb_49 101 rfl ?_
    refine x_iload_n dX12_does_101 rfl 102 rfl ?_
    refine x_iadd dX12_does_102 103 rfl ?_
    obtain ⟨hin, h⟩ := h
    refine x_iaload dX12_does_103 (ly12_1 hk_l0) hin 104 rfl ?_
    refine x_if_ne dX12_does_104 118 107 rfl rfl (fun hc => ?_) (fun hc => ?_)
    · have h := h.1 hc
      exact x_vret dX12_does_118 h
    · have h := h.2 hc
      refine x_aload_n dX12_does_107 rfl 108 rfl ?_
      refine gf12_1 dX12_does_108 111 rfl hk_l0 kw5_160 ?_
      refine x_bipush dX12_does_111 kb_35 113 rfl ?_
      refine x_iload_n dX12_does_113 rfl 114 rfl ?_
      refine x_iadd dX12_does_114 115 rfl ?_
      refine x_bipush dX12_does_115 kb_99 117 rfl ?_
      obtain ⟨hin, h⟩ := h
      refine x_iastore dX12_does_117 (ly12_1 hk_l0) hin 118 rfl (x_mem (fun M1 hM1 => ?_))
      have h := h M1 hM1
      exact x_vret dX12_does_118 h
def NX12_does_68 (Q : Mem → Prop) (l0 : Nat) (l1 : Int32) (l2 : Int32) (l3 : Int32) (M : Mem) : Prop :=
  ((¬ l2 = 3 → NX12_does_90 Q l0 l2 l3 M) ∧ (l2 = 3 → vp_in (l1 + 3) 128 ∧ vp_in (63 + l3) 107 ∧ ∀ M2 : Mem, M2 = xu M (l0 + 1) (ix (63 + l3)) (M (l0 + 17) (ix (l1 + 3))) → NX12_does_90 Q l0 l2 l3 M2))
theorem nX12_does_68 {Q : Mem → Prop} {l0 : Nat} {l1 : Int32} {l2 : Int32} {l3 : Int32} {M : Mem} (hk_l0 : SHk l0 = 12) (h : NX12_does_68 Q l0 l1 l2 l3 M) : xX RX12 cX12_does 4 none 6 68 [(0, .ref l0), (1, .int l1), (2, .int l2), (3, .int l3)] [] M (xQv Q) := by
  unfold NX12_does_68 at h
  refine x_iload_n dX12_does_68 rfl 69 rfl ?_
  refine x_iconst dX12_does_69 kc_3 70 rfl ?_
  refine x_icmp_ne dX12_does_70 90 73 rfl rfl (fun hc => ?_) (fun hc => ?_)
  · have h := h.1 hc
    refine x_weak [(0, .ref l0), (2, .int l2), (3, .int l3)] [0, 2, 3] rfl ?_
    exact nX12_does_90 hk_l0 h
  · have h := h.2 hc
    refine x_aload_n dX12_does_73 rfl 74 rfl ?_
    refine gf12_1 dX12_does_74 77 rfl hk_l0 kw5_160 ?_
    refine x_bipush dX12_does_77 kb_63 79 rfl ?_
    refine x_iload_n dX12_does_79 rfl 80 rfl ?_
    refine x_iadd dX12_does_80 81 rfl ?_
    refine x_aload_n dX12_does_81 rfl 82 rfl ?_
    refine gf12_36 dX12_does_82 85 rfl hk_l0 kw5_195 ?_
    refine x_iload_n dX12_does_85 rfl 86 rfl ?_
    refine x_iconst dX12_does_86 kc_3 87 rfl ?_
    refine x_iadd dX12_does_87 88 rfl ?_
    obtain ⟨hin, h⟩ := h
    refine x_iaload dX12_does_88 (ly12_36 hk_l0) hin 89 rfl ?_
    obtain ⟨hin, h⟩ := h
    refine x_iastore dX12_does_89 (ly12_1 hk_l0) hin 90 rfl (x_mem (fun M2 hM2 => ?_))
    have h := h M2 hM2
    refine x_weak [(0, .ref l0), (2, .int l2), (3, .int l3)] [0, 2, 3] rfl ?_
    exact nX12_does_90 hk_l0 h
def NX12_does_49 (Q : Mem → Prop) (l0 : Nat) (l1 : Int32) (l2 : Int32) (l3 : Int32) (M : Mem) : Prop :=
  ((¬ l2 = 2 → NX12_does_68 Q l0 l1 l2 l3 M) ∧ (l2 = 2 → FX12_pillarOf (fun (r3 : Int32) => ((r3 = (-1) → NX12_does_68 Q l0 l1 l2 l3 M) ∧ (¬ r3 = (-1) → FX12_isDown (fun (M4 : Mem) => NX12_does_68 Q l0 l1 l2 l3 M4) l0 l3 M))) l0 l3 M))
theorem nX12_does_49 {Q : Mem → Prop} {l0 : Nat} {l1 : Int32} {l2 : Int32} {l3 : Int32} {M : Mem} (hk_l0 : SHk l0 = 12) (h : NX12_does_49 Q l0 l1 l2 l3 M) : xX RX12 cX12_does 4 none 6 49 [(0, .ref l0), (1, .int l1), (2, .int l2), (3, .int l3)] [] M (xQv Q) := by
  unfold NX12_does_49 at h
  refine x_iload_n dX12_does_49 rfl 50 rfl ?_
  refine x_iconst dX12_does_50 kc_2 51 rfl ?_
  refine x_icmp_ne dX12_does_51 68 54 rfl rfl (fun hc => ?_) (fun hc => ?_)
  · have h := h.1 hc
    exact nX12_does_68 hk_l0 h
  · have h := h.2 hc
    refine x_aload_n dX12_does_54 rfl 55 rfl ?_
    refine x_iload_n dX12_does_55 rfl 56 rfl ?_
    refine kX12_pillarOf dX12_does_56 59 rfl hk_l0 kw7_46 (Nat.le_of_ble_eq_true rfl) (Nat.le_of_ble_eq_true rfl) h (fun r3 h => ?_)
    refine x_iconst dX12_does_59 kc_m1 60 rfl ?_
    refine x_icmp_eq dX12_does_60 68 63 rfl rfl (fun hc => ?_) (fun hc => ?_)
    · have h := h.1 hc
      exact nX12_does_68 hk_l0 h
    · have h := h.2 hc
      refine x_aload_n dX12_does_63 rfl 64 rfl ?_
      refine x_iload_n dX12_does_64 rfl 65 rfl ?_
      refine kX12_isDown dX12_does_65 68 rfl hk_l0 kw7_66 (Nat.le_of_ble_eq_true rfl) (Nat.le_of_ble_eq_true rfl) h (fun M4 h => ?_)
      exact nX12_does_68 hk_l0 h
def NX12_does_29 (Q : Mem → Prop) (l0 : Nat) (l1 : Int32) (l2 : Int32) (l3 : Int32) (M : Mem) : Prop :=
  ((¬ l2 = 1 → NX12_does_49 Q l0 l1 l2 l3 M) ∧ (l2 = 1 → FX12_highest (fun (r5 : Int32) => ((r5 = (-1) → NX12_does_49 Q l0 l1 l2 l3 M) ∧ (¬ r5 = (-1) → FX12_acts (fun (M6 : Mem) => NX12_does_49 Q l0 l1 l2 l3 M6) l0 1 0 l3 M))) l0 M))
theorem nX12_does_29 {Q : Mem → Prop} {l0 : Nat} {l1 : Int32} {l2 : Int32} {l3 : Int32} {M : Mem} (hk_l0 : SHk l0 = 12) (h : NX12_does_29 Q l0 l1 l2 l3 M) : xX RX12 cX12_does 4 none 6 29 [(0, .ref l0), (1, .int l1), (2, .int l2), (3, .int l3)] [] M (xQv Q) := by
  unfold NX12_does_29 at h
  refine x_iload_n dX12_does_29 rfl 30 rfl ?_
  refine x_iconst dX12_does_30 kc_1 31 rfl ?_
  refine x_icmp_ne dX12_does_31 49 34 rfl rfl (fun hc => ?_) (fun hc => ?_)
  · have h := h.1 hc
    exact nX12_does_49 hk_l0 h
  · have h := h.2 hc
    refine x_aload_n dX12_does_34 rfl 35 rfl ?_
    refine kX12_highest dX12_does_35 38 rfl hk_l0 kw7_42 (Nat.le_of_ble_eq_true rfl) (Nat.le_of_ble_eq_true rfl) h (fun r5 h => ?_)
    refine x_iconst dX12_does_38 kc_m1 39 rfl ?_
    refine x_icmp_eq dX12_does_39 49 42 rfl rfl (fun hc => ?_) (fun hc => ?_)
    · have h := h.1 hc
      exact nX12_does_49 hk_l0 h
    · have h := h.2 hc
      refine x_aload_n dX12_does_42 rfl 43 rfl ?_
      refine x_iconst dX12_does_43 kc_1 44 rfl ?_
      refine x_iconst dX12_does_44 kc_0 45 rfl ?_
      refine x_iload_n dX12_does_45 rfl 46 rfl ?_
      refine kX12_acts dX12_does_46 49 rfl hk_l0 kw7_58 (Nat.le_of_ble_eq_true rfl) (Nat.le_of_ble_eq_true rfl) h (fun M6 h => ?_)
      exact nX12_does_49 hk_l0 h
def FX12_does (Q : Mem → Prop) (l0 : Nat) (l1 : Int32) (M : Mem) : Prop :=
  vp_in (l1 + 1) 128 ∧ ∀ y7 : Int32, y7 = M (l0 + 17) (ix (l1 + 1)) → vp_in (l1 + 2) 128 ∧ ∀ y8 : Int32, y8 = M (l0 + 17) (ix (l1 + 2)) → ((¬ y7 = 0 → NX12_does_29 Q l0 l1 y7 y8 M) ∧ (y7 = 0 → ∀ M9 : Mem, M9 = xu M (l0 + 1) (3) y8 → NX12_does_29 Q l0 l1 y7 y8 M9))
theorem eX12_does {Q : Mem → Prop} {l0 : Nat} {l1 : Int32} {M : Mem} (hk_l0 : SHk l0 = 12) (h : FX12_does Q l0 l1 M) : xX RX12 cX12_does 4 none 6 0 [(0, .ref l0), (1, .int l1)] [] M (xQv Q) := by
  unfold FX12_does at h
  refine x_aload_n dX12_does_0 rfl 1 rfl ?_
  refine gf12_36 dX12_does_1 4 rfl hk_l0 kw5_195 ?_
  refine x_iload_n dX12_does_4 rfl 5 rfl ?_
  refine x_iconst dX12_does_5 kc_1 6 rfl ?_
  refine x_iadd dX12_does_6 7 rfl ?_
  obtain ⟨hin, h⟩ := h
  refine x_iaload dX12_does_7 (ly12_36 hk_l0) hin 8 rfl ?_
  refine x_top (fun y7 hy7 => ?_)
  have h := h y7 hy7
  refine x_istore_n dX12_does_8 (Nat.le_of_ble_eq_true rfl) [(0, .ref l0), (1, .int l1), (2, .int y7)] rfl 9 rfl ?_
  refine x_aload_n dX12_does_9 rfl 10 rfl ?_
  refine gf12_36 dX12_does_10 13 rfl hk_l0 kw5_195 ?_
  refine x_iload_n dX12_does_13 rfl 14 rfl ?_
  refine x_iconst dX12_does_14 kc_2 15 rfl ?_
  refine x_iadd dX12_does_15 16 rfl ?_
  obtain ⟨hin, h⟩ := h
  refine x_iaload dX12_does_16 (ly12_36 hk_l0) hin 17 rfl ?_
  refine x_top (fun y8 hy8 => ?_)
  have h := h y8 hy8
  refine x_istore_n dX12_does_17 (Nat.le_of_ble_eq_true rfl) [(0, .ref l0), (1, .int l1), (2, .int y7), (3, .int y8)] rfl 18 rfl ?_
  refine x_iload_n dX12_does_18 rfl 19 rfl ?_
  refine x_if_ne dX12_does_19 29 22 rfl rfl (fun hc => ?_) (fun hc => ?_)
  · have h := h.1 hc
    exact nX12_does_29 hk_l0 h
  · have h := h.2 hc
    refine x_aload_n dX12_does_22 rfl 23 rfl ?_
    refine gf12_1 dX12_does_23 26 rfl hk_l0 kw5_160 ?_
    refine x_iconst dX12_does_26 kc_3 27 rfl ?_
    refine x_iload_n dX12_does_27 rfl 28 rfl ?_
    refine x_iastore dX12_does_28 (ly12_1 hk_l0) (by unfold vp_in; decide) 29 rfl (x_mem (fun M9 hM9 => ?_))
    have h := h M9 hM9
    exact nX12_does_29 hk_l0 h
theorem cX12_does_ {Q : Mem → Prop} {l0 : Nat} {l1 : Int32} {M : Mem} (hk_l0 : SHk l0 = 12) (h : FX12_does Q l0 l1 M) : xM yX12_does cX12_does 4 none 6 [.ref l0, .int l1] M (xQv Q) := xM_of (by decide +kernel) (Nat.le_of_ble_eq_true rfl) (eX12_does hk_l0 h)
theorem kX12_does {own : String} {cc : ByteArray} {nL : Nat} {rt : Option FieldType} {d pc ix : Nat} {L : List (Nat × Value)} {st : List Value} {M : Mem} {Rt : xGt → Array Value → State → Outcome → State → Prop} {Q : Mem → Prop} {l0 : Nat} {l1 : Int32} (hd : decode cc pc = .ok (.invokevirtual ix, 3)) (q : Nat) (hq : pc + 3 = q) (hk_l0 : SHk l0 = 12) (w1 : Cond.methodLink own ix yX12_does ∈ xTs) (hr : 6 < d) (hst : (st.map fun v => v.category).sum ≤ 8) (h : FX12_does Q l0 l1 M) (k : ∀ (N : Mem), Q N → xX own cc nL rt d q L st N Rt) : xX own cc nL rt d pc L (.int l1 :: .ref l0 :: st) M Rt :=
  x_callV_v (n := 1) (As := [.int l1]) hd q hq hk_l0 (by decide) rfl rfl w1 kw7_80 ks6_4 kw1_14 kw7_81 (by decide +kernel) rfl hr (by decide) hst _ rfl (cX12_does_ hk_l0 h) k
def NX12_eats_97 (Q : Mem → Prop) (s0 : Nat) (s1 : Int32) (s2 : Int32) (M : Mem) : Prop :=
  vp_in s1 (SHn s0) ∧ ∀ M1 : Mem, M1 = xu M s0 (ix s1) s2 → Q M1
theorem nX12_eats_97 {Q : Mem → Prop} {s0 : Nat} {s1 : Int32} {s2 : Int32} {M : Mem} (hk_s0 : SHk s0 = 13) (h : NX12_eats_97 Q s0 s1 s2 M) : xX RX12 cX12_eats 4 none 6 97 [] [.int s2, .int s1, .ref s0] M (xQv Q) := by
  unfold NX12_eats_97 at h
  obtain ⟨hin, h⟩ := h
  refine x_iastore dX12_eats_97 ⟨hk_s0, rfl⟩ hin 98 rfl (x_mem (fun M1 hM1 => ?_))
  have h := h M1 hM1
  exact x_vret dX12_eats_98 h
def NX12_eats_43 (Q : Mem → Prop) (l0 : Nat) (l1 : Int32) (l2 : Int32) (l3 : Int32) (M : Mem) : Prop :=
  ((¬ l3 = l2 → vp_in (35 + l1) 107 ∧ FX12_lesser (fun (r2 : Int32) => NX12_eats_97 Q (l0 + 1) (35 + l1) r2 M) l0 99 ((M (l0 + 1) (ix (35 + l1))) + (5 * (l2 - l3))) M) ∧ (l3 = l2 → vp_in (35 + l1) 107 ∧ FX12_greater (fun (r3 : Int32) => NX12_eats_97 Q (l0 + 1) (35 + l1) r3 M) l0 0 ((M (l0 + 1) (ix (35 + l1))) - 10) M))
theorem nX12_eats_43 {Q : Mem → Prop} {l0 : Nat} {l1 : Int32} {l2 : Int32} {l3 : Int32} {M : Mem} (hk_l0 : SHk l0 = 12) (h : NX12_eats_43 Q l0 l1 l2 l3 M) : xX RX12 cX12_eats 4 none 6 43 [(0, .ref l0), (1, .int l1), (2, .int l2), (3, .int l3)] [] M (xQv Q) := by
  unfold NX12_eats_43 at h
  refine x_aload_n dX12_eats_43 rfl 44 rfl ?_
  refine gf12_1 dX12_eats_44 47 rfl hk_l0 kw5_160 ?_
  refine x_bipush dX12_eats_47 kb_35 49 rfl ?_
  refine x_iload_n dX12_eats_49 rfl 50 rfl ?_
  refine x_iadd dX12_eats_50 51 rfl ?_
  refine x_iload_n dX12_eats_51 rfl 52 rfl ?_
  refine x_iload_n dX12_eats_52 rfl 53 rfl ?_
  refine x_icmp_ne dX12_eats_53 76 56 rfl rfl (fun hc => ?_) (fun hc => ?_)
  · have h := h.1 hc
    refine x_aload_n dX12_eats_76 rfl 77 rfl ?_
    refine x_bipush dX12_eats_77 kb_99 79 rfl ?_
    refine x_aload_n dX12_eats_79 rfl 80 rfl ?_
    refine gf12_1 dX12_eats_80 83 rfl hk_l0 kw5_160 ?_
    refine x_bipush dX12_eats_83 kb_35 85 rfl ?_
    refine x_iload_n dX12_eats_85 rfl 86 rfl ?_
    refine x_iadd dX12_eats_86 87 rfl ?_
    obtain ⟨hin, h⟩ := h
    refine x_iaload dX12_eats_87 (ly12_1 hk_l0) hin 88 rfl ?_
    refine x_iconst dX12_eats_88 kc_5 89 rfl ?_
    refine x_iload_n dX12_eats_89 rfl 90 rfl ?_
    refine x_iload_n dX12_eats_90 rfl 91 rfl ?_
    refine x_isub dX12_eats_91 92 rfl ?_
    refine x_imul dX12_eats_92 93 rfl ?_
    refine x_iadd dX12_eats_93 94 rfl ?_
    refine kX12_lesser dX12_eats_94 97 rfl hk_l0 kw7_62 (Nat.le_of_ble_eq_true rfl) (Nat.le_of_ble_eq_true rfl) h (fun r2 h => ?_)
    refine x_weak [] [] rfl ?_
    exact nX12_eats_97 (ly12_1 hk_l0).1 h
  · have h := h.2 hc
    refine x_aload_n dX12_eats_56 rfl 57 rfl ?_
    refine x_iconst dX12_eats_57 kc_0 58 rfl ?_
    refine x_aload_n dX12_eats_58 rfl 59 rfl ?_
    refine gf12_1 dX12_eats_59 62 rfl hk_l0 kw5_160 ?_
    refine x_bipush dX12_eats_62 kb_35 64 rfl ?_
    refine x_iload_n dX12_eats_64 rfl 65 rfl ?_
    refine x_iadd dX12_eats_65 66 rfl ?_
    obtain ⟨hin, h⟩ := h
    refine x_iaload dX12_eats_66 (ly12_1 hk_l0) hin 67 rfl ?_
    refine x_bipush dX12_eats_67 kb_10 69 rfl ?_
    refine x_isub dX12_eats_69 70 rfl ?_
    refine kX12_greater dX12_eats_70 73 rfl hk_l0 kw7_130 (Nat.le_of_ble_eq_true rfl) (Nat.le_of_ble_eq_true rfl) h (fun r3 h => ?_)
    refine x_goto dX12_eats_73 97 rfl ?_
    refine x_weak [] [] rfl ?_
    exact nX12_eats_97 (ly12_1 hk_l0).1 h
def FX12_eats (Q : Mem → Prop) (l0 : Nat) (l1 : Int32) (M : Mem) : Prop :=
  FX12_eatsOf (fun (r5 : Int32) (M4 : Mem) => FX12_lesser (fun (r6 : Int32) => ∀ M7 : Mem, M7 = xu M4 (l0 + 1) (3) ((M4 (l0 + 1) 3) - r6) → ((r6 ≤ 0 → NX12_eats_43 Q l0 l1 r5 r6 M7) ∧ (¬ r6 ≤ 0 → FX12_notes (fun (M8 : Mem) => NX12_eats_43 Q l0 l1 r5 r6 M8) l0 0 l1 r6 M7))) l0 r5 (M4 (l0 + 1) 3) M4) l0 l1 M
theorem eX12_eats {Q : Mem → Prop} {l0 : Nat} {l1 : Int32} {M : Mem} (hk_l0 : SHk l0 = 12) (h : FX12_eats Q l0 l1 M) : xX RX12 cX12_eats 4 none 6 0 [(0, .ref l0), (1, .int l1)] [] M (xQv Q) := by
  unfold FX12_eats at h
  refine x_aload_n dX12_eats_0 rfl 1 rfl ?_
  refine x_iload_n dX12_eats_1 rfl 2 rfl ?_
  refine kX12_eatsOf dX12_eats_2 5 rfl hk_l0 kw7_94 (Nat.le_of_ble_eq_true rfl) (Nat.le_of_ble_eq_true rfl) h (fun r5 M4 h => ?_)
  refine x_istore_n dX12_eats_5 (Nat.le_of_ble_eq_true rfl) [(0, .ref l0), (1, .int l1), (2, .int r5)] rfl 6 rfl ?_
  refine x_aload_n dX12_eats_6 rfl 7 rfl ?_
  refine x_iload_n dX12_eats_7 rfl 8 rfl ?_
  refine x_aload_n dX12_eats_8 rfl 9 rfl ?_
  refine gf12_1 dX12_eats_9 12 rfl hk_l0 kw5_160 ?_
  refine x_iconst dX12_eats_12 kc_3 13 rfl ?_
  refine x_iaload dX12_eats_13 (ly12_1 hk_l0) (by unfold vp_in; decide) 14 rfl ?_
  refine kX12_lesser dX12_eats_14 17 rfl hk_l0 kw7_62 (Nat.le_of_ble_eq_true rfl) (Nat.le_of_ble_eq_true rfl) h (fun r6 h => ?_)
  refine x_istore_n dX12_eats_17 (Nat.le_of_ble_eq_true rfl) [(0, .ref l0), (1, .int l1), (2, .int r5), (3, .int r6)] rfl 18 rfl ?_
  refine x_aload_n dX12_eats_18 rfl 19 rfl ?_
  refine gf12_1 dX12_eats_19 22 rfl hk_l0 kw5_160 ?_
  refine x_iconst dX12_eats_22 kc_3 23 rfl ?_
  refine x_aload_n dX12_eats_23 rfl 24 rfl ?_
  refine gf12_1 dX12_eats_24 27 rfl hk_l0 kw5_160 ?_
  refine x_iconst dX12_eats_27 kc_3 28 rfl ?_
  refine x_iaload dX12_eats_28 (ly12_1 hk_l0) (by unfold vp_in; decide) 29 rfl ?_
  refine x_iload_n dX12_eats_29 rfl 30 rfl ?_
  refine x_isub dX12_eats_30 31 rfl ?_
  refine x_iastore dX12_eats_31 (ly12_1 hk_l0) (by unfold vp_in; decide) 32 rfl (x_mem (fun M7 hM7 => ?_))
  have h := h M7 hM7
  refine x_iload_n dX12_eats_32 rfl 33 rfl ?_
  refine x_if_le dX12_eats_33 43 36 rfl rfl (fun hc => ?_) (fun hc => ?_)
  · have h := h.1 hc
    exact nX12_eats_43 hk_l0 h
  · have h := h.2 hc
    refine x_aload_n dX12_eats_36 rfl 37 rfl ?_
    refine x_iconst dX12_eats_37 kc_0 38 rfl ?_
    refine x_iload_n dX12_eats_38 rfl 39 rfl ?_
    refine x_iload_n dX12_eats_39 rfl 40 rfl ?_
    refine kX12_notes dX12_eats_40 43 rfl hk_l0 kw6_102 (Nat.le_of_ble_eq_true rfl) (Nat.le_of_ble_eq_true rfl) h (fun M8 h => ?_)
    exact nX12_eats_43 hk_l0 h
theorem cX12_eats_ {Q : Mem → Prop} {l0 : Nat} {l1 : Int32} {M : Mem} (hk_l0 : SHk l0 = 12) (h : FX12_eats Q l0 l1 M) : xM yX12_eats cX12_eats 4 none 6 [.ref l0, .int l1] M (xQv Q) := xM_of (by decide +kernel) (Nat.le_of_ble_eq_true rfl) (eX12_eats hk_l0 h)
theorem kX12_eats {own : String} {cc : ByteArray} {nL : Nat} {rt : Option FieldType} {d pc ix : Nat} {L : List (Nat × Value)} {st : List Value} {M : Mem} {Rt : xGt → Array Value → State → Outcome → State → Prop} {Q : Mem → Prop} {l0 : Nat} {l1 : Int32} (hd : decode cc pc = .ok (.invokevirtual ix, 3)) (q : Nat) (hq : pc + 3 = q) (hk_l0 : SHk l0 = 12) (w1 : Cond.methodLink own ix yX12_eats ∈ xTs) (hr : 6 < d) (hst : (st.map fun v => v.category).sum ≤ 8) (h : FX12_eats Q l0 l1 M) (k : ∀ (N : Mem), Q N → xX own cc nL rt d q L st N Rt) : xX own cc nL rt d pc L (.int l1 :: .ref l0 :: st) M Rt :=
  x_callV_v (n := 1) (As := [.int l1]) hd q hq hk_l0 (by decide) rfl rfl w1 kw7_92 ks6_7 kw1_14 kw7_93 (by decide +kernel) rfl hr (by decide) hst _ rfl (cX12_eats_ hk_l0 h) k
