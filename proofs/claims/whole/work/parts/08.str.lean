def sLn (w : Nat) : Nat := xSL.getD (w - 1000) 0
def sLen (w : Nat) : Int32 := Int32.ofNat (sLn w)
def sAt (w j : Nat) : Int32 := (((xSB.getD (w - 1000) []).getD j 0 &&& 255).toUInt32 % 65536).toInt32
theorem sK {w : Nat} (h : SHk w = 16) : ∃ k, k < 4 ∧ w = 1000 + k := by
  unfold SHk at h
  split at h
  · next hl =>
    exfalso
    by_cases h2 : w < 192
    · have : ∀ c, c < 192 → (xSH.getD c (99, 0)).1 ≠ 16 := by decide +kernel
      exact this w h2 h
    · rw [List.getD_eq_getElem?_getD, List.getElem?_eq_none (by show xSH.length ≤ w; have : xSH.length = 192 := by decide +kernel
                                                                omega)] at h
      simp at h
  · split at h
    · exact ⟨w - 1000, by omega, by omega⟩
    · omega
theorem cJ0_coder_ {k : Nat} (hk : k < 4) (M : Mem) : xM yJ0_coder_7d493 cJ0_coder_7d493 1 (some .byte) 1 [.ref (1000 + k)] M (xQi (xP M (fun r => r = 0))) := by
  refine xM_ofF (by decide +kernel) (Nat.le_of_ble_eq_true rfl) ?_
  show xX RJ0 _ _ _ _ _ [(0, .ref (1000 + k))] _ _ _
  refine x_strcs dJ0_coder_7d493_0 kw3_229 3 rfl ?_
  refine x_if_eq dJ0_coder_7d493_3 13 6 rfl rfl (fun hc => absurd hc (by decide)) (fun hc => ?_)
  refine x_aload_n dJ0_coder_7d493_6 rfl 7 rfl ?_
  refine x_strcod hk dJ0_coder_7d493_7 kw8_115 10 rfl ?_
  refine x_goto dJ0_coder_7d493_10 14 rfl ?_
  exact x_nret dJ0_coder_7d493_14 rfl ⟨rfl, rfl⟩
theorem cJ0_isLatin1_ {k : Nat} (hk : k < 4) (M : Mem) : xM yJ0_isLatin1_aae02 cJ0_isLatin1_aae02 1 (some .boolean) 1 [.ref (1000 + k)] M (xQi (xP M (fun r => r = 1))) := by
  refine xM_ofF (by decide +kernel) (Nat.le_of_ble_eq_true rfl) ?_
  show xX RJ0 _ _ _ _ _ [(0, .ref (1000 + k))] _ _ _
  refine x_strcs dJ0_isLatin1_aae02_0 kw3_229 3 rfl ?_
  refine x_if_eq dJ0_isLatin1_aae02_3 17 6 rfl rfl (fun hc => absurd hc (by decide)) (fun hc => ?_)
  refine x_aload_n dJ0_isLatin1_aae02_6 rfl 7 rfl ?_
  refine x_strcod hk dJ0_isLatin1_aae02_7 kw8_115 10 rfl ?_
  refine x_if_ne dJ0_isLatin1_aae02_10 17 13 rfl rfl (fun hc => absurd rfl hc) (fun hc => ?_)
  refine x_iconst (v := 1) dJ0_isLatin1_aae02_13 (by decide) 14 rfl ?_
  refine x_goto dJ0_isLatin1_aae02_14 18 rfl ?_
  exact x_nret dJ0_isLatin1_aae02_18 rfl ⟨rfl, rfl⟩
theorem cJ0_length_ {k : Nat} (hk : k < 4) (M : Mem) : xM yJ0_length_8abf5 cJ0_length_8abf5 1 (some .int) 2 [.ref (1000 + k)] M (xQi (xP M (fun r => r = sLen (1000 + k)))) := by
  refine xM_ofF (by decide +kernel) (Nat.le_of_ble_eq_true rfl) ?_
  show xX RJ0 _ _ _ _ _ [(0, .ref (1000 + k))] _ _ _
  refine x_aload_n dJ0_length_8abf5_0 rfl 1 rfl ?_
  refine x_strval hk dJ0_length_8abf5_1 kw8_114 4 rfl ?_
  refine x_strln hk dJ0_length_8abf5_4 5 rfl ?_
  refine x_aload_n dJ0_length_8abf5_5 rfl 6 rfl ?_
  refine x_callK_i (n := 0) (As := []) hk dJ0_length_8abf5_6 9 rfl rfl kw3_225 kw3_226 kw3_227 kw1_17 kw3_228 (by decide +kernel) rfl (by decide) (by decide) (Nat.le_of_ble_eq_true rfl) _ rfl (cJ0_coder_ hk M) (fun r N h => ?_)
  obtain ⟨rfl, rfl⟩ := h
  refine x_ishr dJ0_length_8abf5_9 10 rfl ?_
  refine x_iret dJ0_length_8abf5_10 ⟨rfl, ?_⟩
  have : ∀ k, k < 4 → Int32.ofNat (xSL.getD k 0) >>> ((0 : Int32) &&& 31) = sLen (1000 + k) := by decide +kernel
  exact this k hk
theorem cJ3_checkIndex_ {i n : Int32} {v : Value} (hv : v.category = 1) (h0 : ¬ i < 0) (h1 : i < n) (M : Mem) : xM yJ3_checkIndex_8e157 cJ3_checkIndex_8e157 3 (some .int) 1 [.int i, .int n, v] M (xQi (xP M (fun r => r = i))) := by
  refine xM_ofF (by decide +kernel) (by cases v <;> first | exact Nat.le_of_ble_eq_true rfl | (simp [Value.category] at hv)) ?_
  have e : lv_args 0 [.int i, .int n, v] = [(0, .int i), (1, .int n), (2, v)] := rfl
  rw [e]
  show xX RJ3 _ _ _ _ _ _ _ _ _
  refine x_iload_n dJ3_checkIndex_8e157_0 rfl 1 rfl ?_
  refine x_if_lt dJ3_checkIndex_8e157_1 9 4 rfl rfl (fun hc => absurd hc h0) (fun hc => ?_)
  refine x_iload_n dJ3_checkIndex_8e157_4 rfl 5 rfl ?_
  refine x_iload_n dJ3_checkIndex_8e157_5 rfl 6 rfl ?_
  refine x_icmp_lt dJ3_checkIndex_8e157_6 16 9 rfl rfl (fun hc => ?_) (fun hc => absurd h1 hc)
  refine x_iload_n dJ3_checkIndex_8e157_16 rfl 17 rfl ?_
  exact x_iret dJ3_checkIndex_8e157_17 ⟨rfl, rfl⟩
theorem cJ0_checkIndex_ {i n : Int32} (h0 : ¬ i < 0) (h1 : i < n) (M : Mem) : xM yJ0_checkIndex_df160 cJ0_checkIndex_df160 2 none 2 [.int i, .int n] M (xQv (fun N => N = M)) := by
  refine xM_ofF (by decide +kernel) (Nat.le_of_ble_eq_true rfl) ?_
  show xX RJ0 _ _ _ _ _ [(0, .int i), (1, .int n)] _ _ _
  refine x_iload_n dJ0_checkIndex_df160_0 rfl 1 rfl ?_
  refine x_iload_n dJ0_checkIndex_df160_1 rfl 2 rfl ?_
  refine x_fmt dJ0_checkIndex_df160_2 kw4_5 5 rfl (fun v hv => ?_)
  refine x_callS_i (n := 3) (As := [.int i, .int n, v]) dJ0_checkIndex_df160_5 8 rfl kw4_7 kw4_8 kw1_19 kw4_9 (by decide +kernel) rfl (by decide) (by decide) (Nat.le_of_ble_eq_true rfl) _ rfl (cJ3_checkIndex_ hv h0 h1 M) (fun r N h => ?_)
  obtain ⟨rfl, rfl⟩ := h
  refine x_pop dJ0_checkIndex_df160_8 rfl 9 rfl ?_
  exact x_vret dJ0_checkIndex_df160_9 rfl
theorem cJ1_charAt_ {k : Nat} {i : Int32} (hk : k < 4) (hin : vp_in i (sLn (1000 + k))) (M : Mem) : xM yJ1_charAt_3b067 cJ1_charAt_3b067 2 (some .char) 3 [.ref (2000 + k), .int i] M (xQi (xP M (fun r => r = sAt (1000 + k) i.toNatClampNeg))) := by
  have e1000 : 1000 + k - 1000 = k := by omega
  have hin2 : vp_in i (xSL.getD k 0) := by unfold sLn at hin; rwa [e1000] at hin
  have hlt : xSL.getD k 0 < 2 ^ 31 := by have : ∀ k, k < 4 → xSL.getD k 0 < 2 ^ 31 := by decide +kernel
                                         exact this k hk
  obtain ⟨j, hj, rfl⟩ := vp_in_of hin2 hlt
  refine xM_ofF (by decide +kernel) (Nat.le_of_ble_eq_true rfl) ?_
  show xX RJ1 _ _ _ _ _ [(0, .ref (2000 + k)), (1, .int (nI j))] _ _ _
  refine x_iload_n dJ1_charAt_3b067_0 rfl 1 rfl ?_
  refine x_aload_n dJ1_charAt_3b067_1 rfl 2 rfl ?_
  refine x_strln hk dJ1_charAt_3b067_2 3 rfl ?_
  refine x_callS_v (n := 2) (As := [.int (nI j), .int (Int32.ofNat (xSL.getD k 0))]) dJ1_charAt_3b067_3 6 rfl kw4_2 kw4_3 kw1_17 kw4_4 (by decide +kernel) rfl (by decide) (by decide) (Nat.le_of_ble_eq_true rfl) _ rfl (cJ0_checkIndex_ (nI_pos (by omega)) (nI_lt hj hlt) M) (fun N h => ?_)
  subst h
  refine x_aload_n dJ1_charAt_3b067_6 rfl 7 rfl ?_
  refine x_iload_n dJ1_charAt_3b067_7 rfl 8 rfl ?_
  refine x_strby hk hin2 dJ1_charAt_3b067_8 9 rfl ?_
  refine x_sipush (v := 255) dJ1_charAt_3b067_9 (by decide) 12 rfl ?_
  refine x_iand dJ1_charAt_3b067_12 13 rfl ?_
  refine x_i2c dJ1_charAt_3b067_13 14 rfl ?_
  refine x_nret dJ1_charAt_3b067_14 (pk_nc _) ⟨rfl, ?_⟩
  unfold sAt
  rw [e1000]
theorem cJ0_charAt_ {k : Nat} {i : Int32} (hk : k < 4) (hin : vp_in i (sLn (1000 + k))) (M : Mem) : xM yJ0_charAt_5068e cJ0_charAt_5068e 2 (some .char) 4 [.ref (1000 + k), .int i] M (xQi (xP M (fun r => r = sAt (1000 + k) i.toNatClampNeg))) := by
  refine xM_ofF (by decide +kernel) (Nat.le_of_ble_eq_true rfl) ?_
  show xX RJ0 _ _ _ _ _ [(0, .ref (1000 + k)), (1, .int i)] _ _ _
  refine x_aload_n dJ0_charAt_5068e_0 rfl 1 rfl ?_
  refine x_callK_i (n := 0) (As := []) hk dJ0_charAt_5068e_1 4 rfl rfl kw3_235 kw3_236 kw3_237 kw1_17 kw3_238 (by decide +kernel) rfl (by decide) (by decide) (Nat.le_of_ble_eq_true rfl) _ rfl (cJ0_isLatin1_ hk M) (fun r N h => ?_)
  obtain ⟨rfl, rfl⟩ := h
  refine x_if_eq dJ0_charAt_5068e_4 16 7 rfl rfl (fun hc => absurd hc (by decide)) (fun hc => ?_)
  refine x_aload_n dJ0_charAt_5068e_7 rfl 8 rfl ?_
  refine x_strval hk dJ0_charAt_5068e_8 kw8_114 11 rfl ?_
  refine x_iload_n dJ0_charAt_5068e_11 rfl 12 rfl ?_
  refine x_callS_i (n := 2) (As := [.ref (2000 + k), .int i]) dJ0_charAt_5068e_12 15 rfl kw3_239 kw4_0 kw1_18 kw4_1 (by decide +kernel) rfl (by decide) (by decide) (Nat.le_of_ble_eq_true rfl) _ rfl (cJ1_charAt_ hk hin N) (fun r N2 h => ?_)
  obtain ⟨rfl, rfl⟩ := h
  refine x_nret dJ0_charAt_5068e_15 ?_ ⟨rfl, rfl⟩
  unfold sAt
  exact pk_nc _
section STRC
variable {own : String} {cc : ByteArray} {nL : Nat} {rt : Option FieldType} {d pc ix w : Nat} {L : List (Nat × Value)} {st : List Value} {M : Mem} {Rt : xGt → Array Value → State → Outcome → State → Prop}
theorem x_strlen (hd : decode cc pc = .ok (.invokevirtual ix, 3)) (q : Nat) (hq : pc + 3 = q) (hk : SHk w = 16) (w1 : Cond.methodLink own ix yJ0_length_8abf5 ∈ xTs) (hr : 2 < d) (hst : (st.map fun v => v.category).sum ≤ 8) (k9 : xX own cc nL rt d q L (.int (sLen w) :: st) M Rt) : xX own cc nL rt d pc L (.ref w :: st) M Rt := by
  obtain ⟨k, hk4, rfl⟩ := sK hk
  refine x_callK_i (n := 0) (As := []) hk4 hd q hq rfl w1 kw3_222 kw3_223 kw1_17 kw3_224 (by decide +kernel) rfl hr (by decide) hst _ rfl (cJ0_length_ hk4 M) (fun r N h => ?_)
  obtain ⟨rfl, rfl⟩ := h
  exact k9
theorem x_charAt {i : Int32} (hd : decode cc pc = .ok (.invokevirtual ix, 3)) (q : Nat) (hq : pc + 3 = q) (hk : SHk w = 16) (hin : vp_in i (sLn w)) (w1 : Cond.methodLink own ix yJ0_charAt_5068e ∈ xTs) (hr : 4 < d) (hst : (st.map fun v => v.category).sum ≤ 8) (k9 : xX own cc nL rt d q L (.int (sAt w i.toNatClampNeg) :: st) M Rt) : xX own cc nL rt d pc L (.int i :: .ref w :: st) M Rt := by
  obtain ⟨k, hk4, rfl⟩ := sK hk
  refine x_callK_i (n := 1) (As := [.int i]) hk4 hd q hq rfl w1 kw3_232 kw3_233 kw1_17 kw3_234 (by decide +kernel) rfl hr (by decide) hst _ rfl (cJ0_charAt_ hk4 hin M) (fun r N h => ?_)
  obtain ⟨rfl, rfl⟩ := h
  exact k9
end STRC
