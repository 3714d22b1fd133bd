/-! THE IMAGE: which place of it holds which place of the reference -/
def locN (c i : Nat) : Nat :=
  if c = 167 then (if i < 107 then i else 9999)
  else if c = 166 then (if i = 6 then 107 else if i = 7 then 108 else if i = 33 then 109 else if i = 35 then 110 else if i = 37 then 111 else if i = 41 then 112 else 9999)
  else if c = 170 then (if i < 14 then 113 + i else 9999)
  else if c = 187 then (if i < 7 then 127 + 2 * i else 9999)
  else if c = 188 then (if i < 7 then 128 + 2 * i else 9999)
  else if c = 182 then (if i < 32 then 141 + 2 * i else 9999)
  else if c = 184 then (if i < 32 then 142 + 2 * i else 9999)
  else if c = 183 then (if i < 64 then 205 + i else 9999)
  else if c = 171 then (if i < 600 then 269 + i else 9999)
  else if c = 174 then (if i = 0 then 869 else 9999)
  else if c = 175 then (if i < 16 then 870 + 4 * i else 9999)
  else if c = 176 then (if i < 16 then 871 + 4 * i else 9999)
  else if c = 177 then (if i < 16 then 872 + 4 * i else 9999)
  else if c = 178 then (if i < 16 then 873 + 4 * i else 9999)
  else if c = 179 then (if i < 400 then 934 + 2 * i else 9999)
  else if c = 180 then (if i < 400 then 935 + 2 * i else 9999)
  else 9999
def locC (k : Nat) : Nat :=
  if k < 107 then 167
  else if k < 108 then 166
  else if k < 109 then 166
  else if k < 110 then 166
  else if k < 111 then 166
  else if k < 112 then 166
  else if k < 113 then 166
  else if k < 127 then 170
  else if k < 141 then 187 + (k - 127) % 2
  else if k < 205 then 182 + 2 * ((k - 141) % 2)
  else if k < 269 then 183
  else if k < 869 then 171
  else if k < 870 then 174
  else if k < 934 then 175 + (k - 870) % 4
  else 179 + (k - 934) % 2
def locI (k : Nat) : Nat :=
  if k < 107 then k
  else if k < 108 then 6
  else if k < 109 then 7
  else if k < 110 then 33
  else if k < 111 then 35
  else if k < 112 then 37
  else if k < 113 then 41
  else if k < 127 then k - 113
  else if k < 141 then (k - 127) / 2
  else if k < 205 then (k - 141) / 2
  else if k < 269 then k - 205
  else if k < 869 then k - 269
  else if k < 870 then 0
  else if k < 934 then (k - 870) / 4
  else (k - 934) / 2
theorem locN_167 {i : Nat} (h : i < 107) : locN 167 i = i := by simp [locN, h]
theorem loc_167 {i : Nat} (h : locN 167 i < 2000) : locC (locN 167 i) = 167 ∧ locI (locN 167 i) = i := by
  have hi : i < 107 := by
    by_cases q : i < 107
    · exact q
    · simp [locN, q] at h
  rw [locN_167 hi]
  unfold locC locI
  constructor
  · rw [if_pos (by omega)]
  · rw [if_pos (by omega)]
theorem locN_170 {i : Nat} (h : i < 14) : locN 170 i = 113 + i := by simp [locN, h]
theorem loc_170 {i : Nat} (h : locN 170 i < 2000) : locC (locN 170 i) = 170 ∧ locI (locN 170 i) = i := by
  have hi : i < 14 := by
    by_cases q : i < 14
    · exact q
    · simp [locN, q] at h
  rw [locN_170 hi]
  unfold locC locI
  constructor
  · rw [if_neg (by omega), if_neg (by omega), if_neg (by omega), if_neg (by omega), if_neg (by omega), if_neg (by omega), if_neg (by omega), if_pos (by omega)]
  · rw [if_neg (by omega), if_neg (by omega), if_neg (by omega), if_neg (by omega), if_neg (by omega), if_neg (by omega), if_neg (by omega), if_pos (by omega)]; omega
theorem locN_187 {i : Nat} (h : i < 7) : locN 187 i = 127 + 2 * i := by simp [locN, h]
theorem loc_187 {i : Nat} (h : locN 187 i < 2000) : locC (locN 187 i) = 187 ∧ locI (locN 187 i) = i := by
  have hi : i < 7 := by
    by_cases q : i < 7
    · exact q
    · simp [locN, q] at h
  rw [locN_187 hi]
  unfold locC locI
  constructor
  · rw [if_neg (by omega), if_neg (by omega), if_neg (by omega), if_neg (by omega), if_neg (by omega), if_neg (by omega), if_neg (by omega), if_neg (by omega), if_pos (by omega)]; omega
  · rw [if_neg (by omega), if_neg (by omega), if_neg (by omega), if_neg (by omega), if_neg (by omega), if_neg (by omega), if_neg (by omega), if_neg (by omega), if_pos (by omega)]; omega
theorem locN_188 {i : Nat} (h : i < 7) : locN 188 i = 128 + 2 * i := by simp [locN, h]
theorem loc_188 {i : Nat} (h : locN 188 i < 2000) : locC (locN 188 i) = 188 ∧ locI (locN 188 i) = i := by
  have hi : i < 7 := by
    by_cases q : i < 7
    · exact q
    · simp [locN, q] at h
  rw [locN_188 hi]
  unfold locC locI
  constructor
  · rw [if_neg (by omega), if_neg (by omega), if_neg (by omega), if_neg (by omega), if_neg (by omega), if_neg (by omega), if_neg (by omega), if_neg (by omega), if_pos (by omega)]; omega
  · rw [if_neg (by omega), if_neg (by omega), if_neg (by omega), if_neg (by omega), if_neg (by omega), if_neg (by omega), if_neg (by omega), if_neg (by omega), if_pos (by omega)]; omega
theorem locN_182 {i : Nat} (h : i < 32) : locN 182 i = 141 + 2 * i := by simp [locN, h]
theorem loc_182 {i : Nat} (h : locN 182 i < 2000) : locC (locN 182 i) = 182 ∧ locI (locN 182 i) = i := by
  have hi : i < 32 := by
    by_cases q : i < 32
    · exact q
    · simp [locN, q] at h
  rw [locN_182 hi]
  unfold locC locI
  constructor
  · rw [if_neg (by omega), if_neg (by omega), if_neg (by omega), if_neg (by omega), if_neg (by omega), if_neg (by omega), if_neg (by omega), if_neg (by omega), if_neg (by omega), if_pos (by omega)]; omega
  · rw [if_neg (by omega), if_neg (by omega), if_neg (by omega), if_neg (by omega), if_neg (by omega), if_neg (by omega), if_neg (by omega), if_neg (by omega), if_neg (by omega), if_pos (by omega)]; omega
theorem locN_184 {i : Nat} (h : i < 32) : locN 184 i = 142 + 2 * i := by simp [locN, h]
theorem loc_184 {i : Nat} (h : locN 184 i < 2000) : locC (locN 184 i) = 184 ∧ locI (locN 184 i) = i := by
  have hi : i < 32 := by
    by_cases q : i < 32
    · exact q
    · simp [locN, q] at h
  rw [locN_184 hi]
  unfold locC locI
  constructor
  · rw [if_neg (by omega), if_neg (by omega), if_neg (by omega), if_neg (by omega), if_neg (by omega), if_neg (by omega), if_neg (by omega), if_neg (by omega), if_neg (by omega), if_pos (by omega)]; omega
  · rw [if_neg (by omega), if_neg (by omega), if_neg (by omega), if_neg (by omega), if_neg (by omega), if_neg (by omega), if_neg (by omega), if_neg (by omega), if_neg (by omega), if_pos (by omega)]; omega
theorem locN_183 {i : Nat} (h : i < 64) : locN 183 i = 205 + i := by simp [locN, h]
theorem loc_183 {i : Nat} (h : locN 183 i < 2000) : locC (locN 183 i) = 183 ∧ locI (locN 183 i) = i := by
  have hi : i < 64 := by
    by_cases q : i < 64
    · exact q
    · simp [locN, q] at h
  rw [locN_183 hi]
  unfold locC locI
  constructor
  · rw [if_neg (by omega), if_neg (by omega), if_neg (by omega), if_neg (by omega), if_neg (by omega), if_neg (by omega), if_neg (by omega), if_neg (by omega), if_neg (by omega), if_neg (by omega), if_pos (by omega)]
  · rw [if_neg (by omega), if_neg (by omega), if_neg (by omega), if_neg (by omega), if_neg (by omega), if_neg (by omega), if_neg (by omega), if_neg (by omega), if_neg (by omega), if_neg (by omega), if_pos (by omega)]; omega
theorem locN_171 {i : Nat} (h : i < 600) : locN 171 i = 269 + i := by simp [locN, h]
theorem loc_171 {i : Nat} (h : locN 171 i < 2000) : locC (locN 171 i) = 171 ∧ locI (locN 171 i) = i := by
  have hi : i < 600 := by
    by_cases q : i < 600
    · exact q
    · simp [locN, q] at h
  rw [locN_171 hi]
  unfold locC locI
  constructor
  · rw [if_neg (by omega), if_neg (by omega), if_neg (by omega), if_neg (by omega), if_neg (by omega), if_neg (by omega), if_neg (by omega), if_neg (by omega), if_neg (by omega), if_neg (by omega), if_neg (by omega), if_pos (by omega)]
  · rw [if_neg (by omega), if_neg (by omega), if_neg (by omega), if_neg (by omega), if_neg (by omega), if_neg (by omega), if_neg (by omega), if_neg (by omega), if_neg (by omega), if_neg (by omega), if_neg (by omega), if_pos (by omega)]; omega
theorem locN_175 {i : Nat} (h : i < 16) : locN 175 i = 870 + 4 * i := by simp [locN, h]
theorem loc_175 {i : Nat} (h : locN 175 i < 2000) : locC (locN 175 i) = 175 ∧ locI (locN 175 i) = i := by
  have hi : i < 16 := by
    by_cases q : i < 16
    · exact q
    · simp [locN, q] at h
  rw [locN_175 hi]
  unfold locC locI
  constructor
  · rw [if_neg (by omega), if_neg (by omega), if_neg (by omega), if_neg (by omega), if_neg (by omega), if_neg (by omega), if_neg (by omega), if_neg (by omega), if_neg (by omega), if_neg (by omega), if_neg (by omega), if_neg (by omega), if_neg (by omega), if_pos (by omega)]; omega
  · rw [if_neg (by omega), if_neg (by omega), if_neg (by omega), if_neg (by omega), if_neg (by omega), if_neg (by omega), if_neg (by omega), if_neg (by omega), if_neg (by omega), if_neg (by omega), if_neg (by omega), if_neg (by omega), if_neg (by omega), if_pos (by omega)]; omega
theorem locN_176 {i : Nat} (h : i < 16) : locN 176 i = 871 + 4 * i := by simp [locN, h]
theorem loc_176 {i : Nat} (h : locN 176 i < 2000) : locC (locN 176 i) = 176 ∧ locI (locN 176 i) = i := by
  have hi : i < 16 := by
    by_cases q : i < 16
    · exact q
    · simp [locN, q] at h
  rw [locN_176 hi]
  unfold locC locI
  constructor
  · rw [if_neg (by omega), if_neg (by omega), if_neg (by omega), if_neg (by omega), if_neg (by omega), if_neg (by omega), if_neg (by omega), if_neg (by omega), if_neg (by omega), if_neg (by omega), if_neg (by omega), if_neg (by omega), if_neg (by omega), if_pos (by omega)]; omega
  · rw [if_neg (by omega), if_neg (by omega), if_neg (by omega), if_neg (by omega), if_neg (by omega), if_neg (by omega), if_neg (by omega), if_neg (by omega), if_neg (by omega), if_neg (by omega), if_neg (by omega), if_neg (by omega), if_neg (by omega), if_pos (by omega)]; omega
theorem locN_177 {i : Nat} (h : i < 16) : locN 177 i = 872 + 4 * i := by simp [locN, h]
theorem loc_177 {i : Nat} (h : locN 177 i < 2000) : locC (locN 177 i) = 177 ∧ locI (locN 177 i) = i := by
  have hi : i < 16 := by
    by_cases q : i < 16
    · exact q
    · simp [locN, q] at h
  rw [locN_177 hi]
  unfold locC locI
  constructor
  · rw [if_neg (by omega), if_neg (by omega), if_neg (by omega), if_neg (by omega), if_neg (by omega), if_neg (by omega), if_neg (by omega), if_neg (by omega), if_neg (by omega), if_neg (by omega), if_neg (by omega), if_neg (by omega), if_neg (by omega), if_pos (by omega)]; omega
  · rw [if_neg (by omega), if_neg (by omega), if_neg (by omega), if_neg (by omega), if_neg (by omega), if_neg (by omega), if_neg (by omega), if_neg (by omega), if_neg (by omega), if_neg (by omega), if_neg (by omega), if_neg (by omega), if_neg (by omega), if_pos (by omega)]; omega
theorem locN_178 {i : Nat} (h : i < 16) : locN 178 i = 873 + 4 * i := by simp [locN, h]
theorem loc_178 {i : Nat} (h : locN 178 i < 2000) : locC (locN 178 i) = 178 ∧ locI (locN 178 i) = i := by
  have hi : i < 16 := by
    by_cases q : i < 16
    · exact q
    · simp [locN, q] at h
  rw [locN_178 hi]
  unfold locC locI
  constructor
  · rw [if_neg (by omega), if_neg (by omega), if_neg (by omega), if_neg (by omega), if_neg (by omega), if_neg (by omega), if_neg (by omega), if_neg (by omega), if_neg (by omega), if_neg (by omega), if_neg (by omega), if_neg (by omega), if_neg (by omega), if_pos (by omega)]; omega
  · rw [if_neg (by omega), if_neg (by omega), if_neg (by omega), if_neg (by omega), if_neg (by omega), if_neg (by omega), if_neg (by omega), if_neg (by omega), if_neg (by omega), if_neg (by omega), if_neg (by omega), if_neg (by omega), if_neg (by omega), if_pos (by omega)]; omega
theorem locN_179 {i : Nat} (h : i < 400) : locN 179 i = 934 + 2 * i := by simp [locN, h]
theorem loc_179 {i : Nat} (h : locN 179 i < 2000) : locC (locN 179 i) = 179 ∧ locI (locN 179 i) = i := by
  have hi : i < 400 := by
    by_cases q : i < 400
    · exact q
    · simp [locN, q] at h
  rw [locN_179 hi]
  unfold locC locI
  constructor
  · rw [if_neg (by omega), if_neg (by omega), if_neg (by omega), if_neg (by omega), if_neg (by omega), if_neg (by omega), if_neg (by omega), if_neg (by omega), if_neg (by omega), if_neg (by omega), if_neg (by omega), if_neg (by omega), if_neg (by omega), if_neg (by omega)]; omega
  · rw [if_neg (by omega), if_neg (by omega), if_neg (by omega), if_neg (by omega), if_neg (by omega), if_neg (by omega), if_neg (by omega), if_neg (by omega), if_neg (by omega), if_neg (by omega), if_neg (by omega), if_neg (by omega), if_neg (by omega), if_neg (by omega)]; omega
theorem locN_180 {i : Nat} (h : i < 400) : locN 180 i = 935 + 2 * i := by simp [locN, h]
theorem loc_180 {i : Nat} (h : locN 180 i < 2000) : locC (locN 180 i) = 180 ∧ locI (locN 180 i) = i := by
  have hi : i < 400 := by
    by_cases q : i < 400
    · exact q
    · simp [locN, q] at h
  rw [locN_180 hi]
  unfold locC locI
  constructor
  · rw [if_neg (by omega), if_neg (by omega), if_neg (by omega), if_neg (by omega), if_neg (by omega), if_neg (by omega), if_neg (by omega), if_neg (by omega), if_neg (by omega), if_neg (by omega), if_neg (by omega), if_neg (by omega), if_neg (by omega), if_neg (by omega)]; omega
  · rw [if_neg (by omega), if_neg (by omega), if_neg (by omega), if_neg (by omega), if_neg (by omega), if_neg (by omega), if_neg (by omega), if_neg (by omega), if_neg (by omega), if_neg (by omega), if_neg (by omega), if_neg (by omega), if_neg (by omega), if_neg (by omega)]; omega
theorem loc_166 {i : Nat} (h : locN 166 i < 2000) : locC (locN 166 i) = 166 ∧ locI (locN 166 i) = i := by
  have hi : i = 6 ∨ i = 7 ∨ i = 33 ∨ i = 35 ∨ i = 37 ∨ i = 41 := by
    by_cases q : i = 6 ∨ i = 7 ∨ i = 33 ∨ i = 35 ∨ i = 37 ∨ i = 41
    · exact q
    · simp only [not_or] at q
      simp [locN, q] at h
  rcases hi with rfl | rfl | rfl | rfl | rfl | rfl <;> decide
theorem loc_174 {i : Nat} (h : locN 174 i < 2000) : locC (locN 174 i) = 174 ∧ locI (locN 174 i) = i := by
  have hi : i = 0 := by
    by_cases q : i = 0
    · exact q
    · simp [locN, q] at h
  subst hi; decide
theorem loc_inv {c i : Nat} (h : locN c i < 2000) : locC (locN c i) = c ∧ locI (locN c i) = i := by
  by_cases q167 : c = 167
  · subst q167; exact loc_167 h
  by_cases q166 : c = 166
  · subst q166; exact loc_166 h
  by_cases q170 : c = 170
  · subst q170; exact loc_170 h
  by_cases q187 : c = 187
  · subst q187; exact loc_187 h
  by_cases q188 : c = 188
  · subst q188; exact loc_188 h
  by_cases q182 : c = 182
  · subst q182; exact loc_182 h
  by_cases q184 : c = 184
  · subst q184; exact loc_184 h
  by_cases q183 : c = 183
  · subst q183; exact loc_183 h
  by_cases q171 : c = 171
  · subst q171; exact loc_171 h
  by_cases q174 : c = 174
  · subst q174; exact loc_174 h
  by_cases q175 : c = 175
  · subst q175; exact loc_175 h
  by_cases q176 : c = 176
  · subst q176; exact loc_176 h
  by_cases q177 : c = 177
  · subst q177; exact loc_177 h
  by_cases q178 : c = 178
  · subst q178; exact loc_178 h
  by_cases q179 : c = 179
  · subst q179; exact loc_179 h
  by_cases q180 : c = 180
  · subst q180; exact loc_180 h
  exfalso
  unfold locN at h
  rw [if_neg q167, if_neg q166, if_neg q170, if_neg q187, if_neg q188, if_neg q182, if_neg q184, if_neg q183, if_neg q171, if_neg q174, if_neg q175, if_neg q176, if_neg q177, if_neg q178, if_neg q179, if_neg q180] at h
  omega
theorem locN_inj {c i c2 i2 : Nat} (h : locN c i < 2000) (e : locN c2 i2 = locN c i) : c2 = c ∧ i2 = i := by
  have a := loc_inv h
  have b := loc_inv (c := c2) (i := i2) (by omega)
  rw [e] at b
  exact ⟨b.1.symm.trans a.1, b.2.symm.trans a.2⟩
/-- the image as a view -/
theorem imgV_loc {M : Mem} {c i : Nat} (h : vr c i = true) : imgV M c i = M 191 (locN c i) := by
  have hb : c = 166 ∨ (167 ≤ c ∧ c ≤ 188) := by rcases vr_ge h with q | q <;> omega
  rcases (show c = 166 ∨ c = 167 ∨ c = 168 ∨ c = 169 ∨ c = 170 ∨ c = 171 ∨ c = 172 ∨ c = 173 ∨ c = 174 ∨ c = 175 ∨ c = 176 ∨ c = 177 ∨ c = 178 ∨ c = 179 ∨ c = 180 ∨ c = 181 ∨ c = 182 ∨ c = 183 ∨ c = 184 ∨ c = 185 ∨ c = 186 ∨ c = 187 ∨ c = 188 by omega) with rfl | rfl | rfl | rfl | rfl | rfl | rfl | rfl | rfl | rfl | rfl | rfl | rfl | rfl | rfl | rfl | rfl | rfl | rfl | rfl | rfl | rfl | rfl
  all_goals simp [vr] at h
  all_goals first | (simp [imgV, locN, h]; done) | skip
  rcases h with ((((rfl | rfl) | rfl) | rfl) | rfl) | rfl <;> rfl
/-- the reference, while it takes (tk) or gives back the image: k places are done -/
def IMs (tk : Bool) (V : Mem) (k : Nat) : Mem := fun c i =>
  if c = 166 ∧ i = 48 then nI k
  else if tk = true then (if c = 191 ∧ i < k then V (locC i) (locI i) else V c i)
  else (if locN c i < k then V 191 (locN c i) else V c i)
theorem locN_n {c i : Nat} (h : c = 191 ∨ (c = 166 ∧ (i = 46 ∨ i = 47 ∨ i = 48 ∨ i = 3 ∨ i = 0)) ) : locN c i = 9999 := by
  rcases h with rfl | ⟨rfl, rfl | rfl | rfl | rfl | rfl⟩ <;> rfl
theorem s12_keeps1 {Q : Int32 → Mem → Prop} {V M0 M : Mem} {tk : Bool} {k c i : Nat} (hV : V 166 46 = if tk = true then 1 else 0) (hk : k < 2000) (hl : locN c i = k) (hc : 166 ≤ c) (n5 : c ≠ 185) (n6 : c ≠ 186) (hR : RV (IMs tk V k) M) (hL : LO M0 M) (h : ∀ r M1, RV (IMs tk V (k + 1)) (xu M1 c i r) → LO M0 (xu M1 c i r) → Q r M1) : FX12_keeps Q 166 (M c i) M := by
  have li := loc_inv (c := c) (i := i) (by omega)
  rw [hl] at li
  have c191 : c ≠ 191 := by rintro rfl; rw [locN_n (Or.inl rfl)] at hl; omega
  have c48 : ¬ (c = 166 ∧ i = 48) := by rintro ⟨rfl, rfl⟩; rw [locN_n (by decide)] at hl; omega
  have e48 : M 166 48 = nI k := by rw [hR.n 48]; unfold IMs; rw [if_pos ⟨rfl, rfl⟩]
  unfold FX12_keeps
  rw [e48, nI_1]
  rintro M1 rfl
  have e46 : xu M 166 48 (nI (k + 1)) 166 46 = if tk = true then 1 else 0 := by
    rw [xu_ne _ _ (by omega), hR.n 46]
    unfold IMs
    rw [if_neg (by omega), locN_n (by decide), ← hV]
    cases tk with
    | true => rw [if_pos rfl, if_neg (by omega)]
    | false => rw [if_neg (by decide), if_neg (by omega)]
  have l1 : LO M0 (xu M 166 48 (nI (k + 1))) := hL.up (by decide) _ _
  rw [e46, xu_same, nI_s1, ixn (by omega)]
  cases tk with
  | true =>
    refine ⟨fun _ => ⟨vp_in_nI (by omega) (by decide), ?_⟩, fun q => absurd q (by decide)⟩
    rintro M2 rfl
    refine h _ _ (fun a j z1 z2 z3 => ?_) ((l1.up (by decide) _ _).up hc _ _)
    have hM : M c i = V c i := by
      rw [hR c i hc n5 n6]
      unfold IMs
      rw [if_neg c48, if_pos rfl, if_neg (by omega)]
    unfold IMs
    rw [xu_if]
    by_cases e : a = c ∧ j = i
    · obtain ⟨rfl, rfl⟩ := e
      rw [if_pos ⟨rfl, rfl⟩, if_neg c48, if_pos rfl, if_neg (by omega)]; exact hM
    · rw [if_neg e, xu_if]
      by_cases e2 : a = 191 ∧ j = k
      · obtain ⟨rfl, rfl⟩ := e2
        rw [if_pos ⟨rfl, rfl⟩, if_neg (by omega), if_pos rfl, if_pos ⟨rfl, by omega⟩, li.1, li.2]; exact hM
      · rw [if_neg e2, xu_if]
        by_cases e3 : a = 166 ∧ j = 48
        · rw [if_pos e3, if_pos e3]
        · rw [if_neg e3, if_neg e3, if_pos rfl, hR a j z1 z2 z3]
          unfold IMs
          rw [if_neg e3, if_pos rfl]
          by_cases e4 : a = 191 ∧ j < k
          · rw [if_pos e4, if_pos ⟨e4.1, by omega⟩]
          · rw [if_neg e4, if_neg (by omega)]
  | false =>
    refine ⟨fun q => absurd rfl q, fun _ => ⟨vp_in_nI (by omega) (by decide), ?_⟩⟩
    have eV : xu M 166 48 (nI (k + 1)) (166 + 25) k = V 191 k := by
      rw [xu_ne _ _ (by omega)]
      refine (hR 191 k (by decide) (by decide) (by decide)).trans ?_
      unfold IMs
      rw [if_neg (by omega), if_neg (by decide), locN_n (Or.inl rfl), if_neg (by omega)]
    rw [eV]
    refine h _ _ (fun a j z1 z2 z3 => ?_) (l1.up hc _ _)
    unfold IMs
    rw [xu_if]
    by_cases e : a = c ∧ j = i
    · obtain ⟨rfl, rfl⟩ := e
      rw [if_pos ⟨rfl, rfl⟩, if_neg c48, if_neg (by decide), hl, if_pos (by omega)]
    · rw [if_neg e, xu_if]
      by_cases e3 : a = 166 ∧ j = 48
      · rw [if_pos e3, if_pos e3]
      · rw [if_neg e3, if_neg e3, if_neg (by decide), hR a j z1 z2 z3]
        unfold IMs
        rw [if_neg e3, if_neg (by decide)]
        by_cases e4 : locN a j < k
        · rw [if_pos e4, if_pos (by omega)]
        · have : locN a j ≠ k := fun q => e (locN_inj (c := c) (i := i) (by omega) (by omega))
          rw [if_neg e4, if_neg (by omega)]
