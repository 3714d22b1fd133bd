/-! the layout of all cells of class and reference, as their constructors make them: kind (0 .. 12: an object of vwCl; 13 ints; 14 bytes; 15 worlds; 16 a String constant) and size -/
abbrev Mem : Type := Nat → Nat → Int32
def xSH : List (Nat × Nat) := [(11, 9), (0, 6), (9, 19), (13, 10), (13, 10), (13, 10), (13, 14), (13, 14), (13, 14), (13, 14), (13, 14), (13, 600), (2, 8), (13, 400), (13, 16), (13, 16), (13, 16), (13, 16), (13, 32), (6, 3), (13, 16), (13, 16), (4, 5), (13, 16), (13, 16), (13, 16), (13, 16), (7, 3), (13, 16), (13, 16), (10, 4), (13, 7), (13, 7), (13, 7), (0, 6), (9, 19), (13, 10), (13, 10), (13, 10), (13, 14), (13, 14), (13, 14), (13, 14), (13, 14), (13, 600), (2, 8), (13, 400), (13, 16), (13, 16), (13, 16), (13, 16), (13, 32), (6, 3), (13, 16), (13, 16), (4, 5), (13, 16), (13, 16), (13, 16), (13, 16), (7, 3), (13, 16), (13, 16), (10, 4), (13, 7), (13, 7), (13, 7), (9, 19), (13, 10), (13, 10), (13, 10), (13, 14), (13, 14), (13, 14), (13, 14), (13, 14), (13, 0), (3, 2), (15, 6), (9, 19), (13, 10), (13, 10), (13, 10), (13, 14), (13, 14), (13, 14), (13, 14), (13, 14), (13, 0), (9, 19), (13, 10), (13, 10), (13, 10), (13, 14), (13, 14), (13, 14), (13, 14), (13, 14), (13, 0), (9, 19), (13, 10), (13, 10), (13, 10), (13, 14), (13, 14), (13, 14), (13, 14), (13, 14), (13, 0), (9, 19), (13, 10), (13, 10), (13, 10), (13, 14), (13, 14), (13, 14), (13, 14), (13, 14), (13, 0), (9, 19), (13, 10), (13, 10), (13, 10), (13, 14), (13, 14), (13, 14), (13, 14), (13, 14), (13, 0), (9, 19), (13, 10), (13, 10), (13, 10), (13, 14), (13, 14), (13, 14), (13, 14), (13, 14), (13, 0), (5, 12), (2, 8), (13, 400), (13, 16), (13, 16), (13, 16), (13, 16), (13, 32), (6, 3), (13, 16), (13, 16), (4, 5), (13, 16), (13, 16), (13, 16), (13, 16), (7, 3), (13, 16), (13, 16), (8, 4), (13, 401), (13, 401), (13, 401), (1, 2), (13, 10), (13, 10), (14, 400), (12, 50), (13, 107), (13, 642), (13, 107), (13, 14), (13, 600), (13, 400), (13, 125), (13, 2), (13, 48), (13, 48), (13, 48), (13, 48), (13, 1200), (13, 1200), (13, 40), (13, 64), (13, 128), (13, 64), (13, 9), (13, 420), (13, 7), (13, 7), (13, 10), (13, 10), (13, 2100)]
def xNC : Nat := 192
def SHk (c : Nat) : Nat := if c < 1000 then (xSH.getD c (99, 0)).1 else if c < 1004 then 16 else 99
def SHn (c : Nat) : Nat := (xSH.getD c (99, 0)).2
def xOFF : List (List Nat) := [[1, 11, 18, 21, 26, 29], [1, 2], [1, 2, 3, 4, 5, 6, 0, 0], [1, 0], [1, 2, 3, 4, 0], [1, 8, 11, 16, 19, 0, 0, 0, 0, 0, 0, 0], [1, 2, 0], [1, 2, 0], [1, 2, 3, 0], [9, 1, 2, 3, 4, 5, 6, 7, 8, 0, 0, 0, 0, 0, 0, 0, 0, 0, 0], [1, 2, 3, 0], [1, 34, 67, 77, 139, 162, 165, 0, 0], [0, 1, 2, 0, 3, 0, 0, 0, 4, 5, 6, 0, 0, 0, 0, 0, 7, 8, 9, 10, 11, 12, 13, 14, 0, 0, 0, 15, 0, 0, 0, 0, 0, 0, 16, 0, 17, 0, 18, 19, 20, 0, 21, 22, 23, 24, 0, 0, 0, 25]]
/-- how far behind an object of kind k the cell of its field j lies; 0: the field is a number -/
def xoff (k j : Nat) : Nat := (xOFF.getD k []).getD j 0
theorem xlt {c k : Nat} (h : SHk c = k) (hk : k < 16) : c < xNC := by
  by_cases h1 : c < xNC
  · exact h1
  · exfalso
    unfold SHk at h
    split at h
    · rw [List.getD_eq_getElem?_getD, List.getElem?_eq_none (by unfold xNC at h1; show xSH.length ≤ c; have : xSH.length = 192 := by decide +kernel
                                                                omega)] at h
      simp at h; omega
    · split at h <;> omega
theorem xall {P : Nat → Prop} (h : ∀ c, c < xNC → P c) {k : Nat} (hk : k < 16) : ∀ c, SHk c = k → P c := fun c e => h c (xlt e hk)
theorem ly0_0 {c : Nat} (h : SHk c = 0) : SHk (c + 1) = 9 ∧ SHn (c + 1) = 19 := xall (P := fun c => SHk c = 0 → SHk (c + 1) = 9 ∧ SHn (c + 1) = 19) (by decide +kernel) (by decide) c h h
theorem ly0_1 {c : Nat} (h : SHk c = 0) : SHk (c + 11) = 2 ∧ SHn (c + 11) = 8 := xall (P := fun c => SHk c = 0 → SHk (c + 11) = 2 ∧ SHn (c + 11) = 8) (by decide +kernel) (by decide) c h h
theorem ly0_2 {c : Nat} (h : SHk c = 0) : SHk (c + 18) = 6 ∧ SHn (c + 18) = 3 := xall (P := fun c => SHk c = 0 → SHk (c + 18) = 6 ∧ SHn (c + 18) = 3) (by decide +kernel) (by decide) c h h
theorem ly0_3 {c : Nat} (h : SHk c = 0) : SHk (c + 21) = 4 ∧ SHn (c + 21) = 5 := xall (P := fun c => SHk c = 0 → SHk (c + 21) = 4 ∧ SHn (c + 21) = 5) (by decide +kernel) (by decide) c h h
theorem ly0_4 {c : Nat} (h : SHk c = 0) : SHk (c + 26) = 7 ∧ SHn (c + 26) = 3 := xall (P := fun c => SHk c = 0 → SHk (c + 26) = 7 ∧ SHn (c + 26) = 3) (by decide +kernel) (by decide) c h h
theorem ly0_5 {c : Nat} (h : SHk c = 0) : SHk (c + 29) = 10 ∧ SHn (c + 29) = 4 := xall (P := fun c => SHk c = 0 → SHk (c + 29) = 10 ∧ SHn (c + 29) = 4) (by decide +kernel) (by decide) c h h
theorem lyn0 {c : Nat} (h : SHk c = 0) : SHn c = 6 := xall (P := fun c => SHk c = 0 → SHn c = 6) (by decide +kernel) (by decide) c h h
theorem ly1_0 {c : Nat} (h : SHk c = 1) : SHk (c + 1) = 13 ∧ SHn (c + 1) = 10 := xall (P := fun c => SHk c = 1 → SHk (c + 1) = 13 ∧ SHn (c + 1) = 10) (by decide +kernel) (by decide) c h h
theorem ly1_1 {c : Nat} (h : SHk c = 1) : SHk (c + 2) = 13 ∧ SHn (c + 2) = 10 := xall (P := fun c => SHk c = 1 → SHk (c + 2) = 13 ∧ SHn (c + 2) = 10) (by decide +kernel) (by decide) c h h
theorem lyn1 {c : Nat} (h : SHk c = 1) : SHn c = 2 := xall (P := fun c => SHk c = 1 → SHn c = 2) (by decide +kernel) (by decide) c h h
theorem ly2_0 {c : Nat} (h : SHk c = 2) : SHk (c + 1) = 13 ∧ SHn (c + 1) = 400 := xall (P := fun c => SHk c = 2 → SHk (c + 1) = 13 ∧ SHn (c + 1) = 400) (by decide +kernel) (by decide) c h h
theorem ly2_1 {c : Nat} (h : SHk c = 2) : SHk (c + 2) = 13 ∧ SHn (c + 2) = 16 := xall (P := fun c => SHk c = 2 → SHk (c + 2) = 13 ∧ SHn (c + 2) = 16) (by decide +kernel) (by decide) c h h
theorem ly2_2 {c : Nat} (h : SHk c = 2) : SHk (c + 3) = 13 ∧ SHn (c + 3) = 16 := xall (P := fun c => SHk c = 2 → SHk (c + 3) = 13 ∧ SHn (c + 3) = 16) (by decide +kernel) (by decide) c h h
theorem ly2_3 {c : Nat} (h : SHk c = 2) : SHk (c + 4) = 13 ∧ SHn (c + 4) = 16 := xall (P := fun c => SHk c = 2 → SHk (c + 4) = 13 ∧ SHn (c + 4) = 16) (by decide +kernel) (by decide) c h h
theorem ly2_4 {c : Nat} (h : SHk c = 2) : SHk (c + 5) = 13 ∧ SHn (c + 5) = 16 := xall (P := fun c => SHk c = 2 → SHk (c + 5) = 13 ∧ SHn (c + 5) = 16) (by decide +kernel) (by decide) c h h
theorem ly2_5 {c : Nat} (h : SHk c = 2) : SHk (c + 6) = 13 ∧ SHn (c + 6) = 32 := xall (P := fun c => SHk c = 2 → SHk (c + 6) = 13 ∧ SHn (c + 6) = 32) (by decide +kernel) (by decide) c h h
theorem lyn2 {c : Nat} (h : SHk c = 2) : SHn c = 8 := xall (P := fun c => SHk c = 2 → SHn c = 8) (by decide +kernel) (by decide) c h h
theorem ly3_0 {c : Nat} (h : SHk c = 3) : SHk (c + 1) = 15 ∧ SHn (c + 1) = 6 := xall (P := fun c => SHk c = 3 → SHk (c + 1) = 15 ∧ SHn (c + 1) = 6) (by decide +kernel) (by decide) c h h
theorem lyn3 {c : Nat} (h : SHk c = 3) : SHn c = 2 := xall (P := fun c => SHk c = 3 → SHn c = 2) (by decide +kernel) (by decide) c h h
theorem ly4_0 {c : Nat} (h : SHk c = 4) : SHk (c + 1) = 13 ∧ SHn (c + 1) = 16 := xall (P := fun c => SHk c = 4 → SHk (c + 1) = 13 ∧ SHn (c + 1) = 16) (by decide +kernel) (by decide) c h h
theorem ly4_1 {c : Nat} (h : SHk c = 4) : SHk (c + 2) = 13 ∧ SHn (c + 2) = 16 := xall (P := fun c => SHk c = 4 → SHk (c + 2) = 13 ∧ SHn (c + 2) = 16) (by decide +kernel) (by decide) c h h
theorem ly4_2 {c : Nat} (h : SHk c = 4) : SHk (c + 3) = 13 ∧ SHn (c + 3) = 16 := xall (P := fun c => SHk c = 4 → SHk (c + 3) = 13 ∧ SHn (c + 3) = 16) (by decide +kernel) (by decide) c h h
theorem ly4_3 {c : Nat} (h : SHk c = 4) : SHk (c + 4) = 13 ∧ SHn (c + 4) = 16 := xall (P := fun c => SHk c = 4 → SHk (c + 4) = 13 ∧ SHn (c + 4) = 16) (by decide +kernel) (by decide) c h h
theorem lyn4 {c : Nat} (h : SHk c = 4) : SHn c = 5 := xall (P := fun c => SHk c = 4 → SHn c = 5) (by decide +kernel) (by decide) c h h
theorem ly5_0 {c : Nat} (h : SHk c = 5) : SHk (c + 1) = 2 ∧ SHn (c + 1) = 8 := xall (P := fun c => SHk c = 5 → SHk (c + 1) = 2 ∧ SHn (c + 1) = 8) (by decide +kernel) (by decide) c h h
theorem ly5_1 {c : Nat} (h : SHk c = 5) : SHk (c + 8) = 6 ∧ SHn (c + 8) = 3 := xall (P := fun c => SHk c = 5 → SHk (c + 8) = 6 ∧ SHn (c + 8) = 3) (by decide +kernel) (by decide) c h h
theorem ly5_2 {c : Nat} (h : SHk c = 5) : SHk (c + 11) = 4 ∧ SHn (c + 11) = 5 := xall (P := fun c => SHk c = 5 → SHk (c + 11) = 4 ∧ SHn (c + 11) = 5) (by decide +kernel) (by decide) c h h
theorem ly5_3 {c : Nat} (h : SHk c = 5) : SHk (c + 16) = 7 ∧ SHn (c + 16) = 3 := xall (P := fun c => SHk c = 5 → SHk (c + 16) = 7 ∧ SHn (c + 16) = 3) (by decide +kernel) (by decide) c h h
theorem ly5_4 {c : Nat} (h : SHk c = 5) : SHk (c + 19) = 8 ∧ SHn (c + 19) = 4 := xall (P := fun c => SHk c = 5 → SHk (c + 19) = 8 ∧ SHn (c + 19) = 4) (by decide +kernel) (by decide) c h h
theorem lyn5 {c : Nat} (h : SHk c = 5) : SHn c = 12 := xall (P := fun c => SHk c = 5 → SHn c = 12) (by decide +kernel) (by decide) c h h
theorem ly6_0 {c : Nat} (h : SHk c = 6) : SHk (c + 1) = 13 ∧ SHn (c + 1) = 16 := xall (P := fun c => SHk c = 6 → SHk (c + 1) = 13 ∧ SHn (c + 1) = 16) (by decide +kernel) (by decide) c h h
theorem ly6_1 {c : Nat} (h : SHk c = 6) : SHk (c + 2) = 13 ∧ SHn (c + 2) = 16 := xall (P := fun c => SHk c = 6 → SHk (c + 2) = 13 ∧ SHn (c + 2) = 16) (by decide +kernel) (by decide) c h h
theorem lyn6 {c : Nat} (h : SHk c = 6) : SHn c = 3 := xall (P := fun c => SHk c = 6 → SHn c = 3) (by decide +kernel) (by decide) c h h
theorem ly7_0 {c : Nat} (h : SHk c = 7) : SHk (c + 1) = 13 ∧ SHn (c + 1) = 16 := xall (P := fun c => SHk c = 7 → SHk (c + 1) = 13 ∧ SHn (c + 1) = 16) (by decide +kernel) (by decide) c h h
theorem ly7_1 {c : Nat} (h : SHk c = 7) : SHk (c + 2) = 13 ∧ SHn (c + 2) = 16 := xall (P := fun c => SHk c = 7 → SHk (c + 2) = 13 ∧ SHn (c + 2) = 16) (by decide +kernel) (by decide) c h h
theorem lyn7 {c : Nat} (h : SHk c = 7) : SHn c = 3 := xall (P := fun c => SHk c = 7 → SHn c = 3) (by decide +kernel) (by decide) c h h
theorem ly8_0 {c : Nat} (h : SHk c = 8) : SHk (c + 1) = 13 ∧ SHn (c + 1) = 401 := xall (P := fun c => SHk c = 8 → SHk (c + 1) = 13 ∧ SHn (c + 1) = 401) (by decide +kernel) (by decide) c h h
theorem ly8_1 {c : Nat} (h : SHk c = 8) : SHk (c + 2) = 13 ∧ SHn (c + 2) = 401 := xall (P := fun c => SHk c = 8 → SHk (c + 2) = 13 ∧ SHn (c + 2) = 401) (by decide +kernel) (by decide) c h h
theorem ly8_2 {c : Nat} (h : SHk c = 8) : SHk (c + 3) = 13 ∧ SHn (c + 3) = 401 := xall (P := fun c => SHk c = 8 → SHk (c + 3) = 13 ∧ SHn (c + 3) = 401) (by decide +kernel) (by decide) c h h
theorem lyn8 {c : Nat} (h : SHk c = 8) : SHn c = 4 := xall (P := fun c => SHk c = 8 → SHn c = 4) (by decide +kernel) (by decide) c h h
theorem ly9_0 {c : Nat} (h : SHk c = 9) : SHk (c + 9) = 13 := xall (P := fun c => SHk c = 9 → SHk (c + 9) = 13) (by decide +kernel) (by decide) c h h
theorem ly9_1 {c : Nat} (h : SHk c = 9) : SHk (c + 1) = 13 ∧ SHn (c + 1) = 10 := xall (P := fun c => SHk c = 9 → SHk (c + 1) = 13 ∧ SHn (c + 1) = 10) (by decide +kernel) (by decide) c h h
theorem ly9_2 {c : Nat} (h : SHk c = 9) : SHk (c + 2) = 13 ∧ SHn (c + 2) = 10 := xall (P := fun c => SHk c = 9 → SHk (c + 2) = 13 ∧ SHn (c + 2) = 10) (by decide +kernel) (by decide) c h h
theorem ly9_3 {c : Nat} (h : SHk c = 9) : SHk (c + 3) = 13 ∧ SHn (c + 3) = 10 := xall (P := fun c => SHk c = 9 → SHk (c + 3) = 13 ∧ SHn (c + 3) = 10) (by decide +kernel) (by decide) c h h
theorem ly9_4 {c : Nat} (h : SHk c = 9) : SHk (c + 4) = 13 ∧ SHn (c + 4) = 14 := xall (P := fun c => SHk c = 9 → SHk (c + 4) = 13 ∧ SHn (c + 4) = 14) (by decide +kernel) (by decide) c h h
theorem ly9_5 {c : Nat} (h : SHk c = 9) : SHk (c + 5) = 13 ∧ SHn (c + 5) = 14 := xall (P := fun c => SHk c = 9 → SHk (c + 5) = 13 ∧ SHn (c + 5) = 14) (by decide +kernel) (by decide) c h h
theorem ly9_6 {c : Nat} (h : SHk c = 9) : SHk (c + 6) = 13 ∧ SHn (c + 6) = 14 := xall (P := fun c => SHk c = 9 → SHk (c + 6) = 13 ∧ SHn (c + 6) = 14) (by decide +kernel) (by decide) c h h
theorem ly9_7 {c : Nat} (h : SHk c = 9) : SHk (c + 7) = 13 ∧ SHn (c + 7) = 14 := xall (P := fun c => SHk c = 9 → SHk (c + 7) = 13 ∧ SHn (c + 7) = 14) (by decide +kernel) (by decide) c h h
theorem ly9_8 {c : Nat} (h : SHk c = 9) : SHk (c + 8) = 13 ∧ SHn (c + 8) = 14 := xall (P := fun c => SHk c = 9 → SHk (c + 8) = 13 ∧ SHn (c + 8) = 14) (by decide +kernel) (by decide) c h h
theorem lyn9 {c : Nat} (h : SHk c = 9) : SHn c = 19 := xall (P := fun c => SHk c = 9 → SHn c = 19) (by decide +kernel) (by decide) c h h
theorem ly10_0 {c : Nat} (h : SHk c = 10) : SHk (c + 1) = 13 ∧ SHn (c + 1) = 7 := xall (P := fun c => SHk c = 10 → SHk (c + 1) = 13 ∧ SHn (c + 1) = 7) (by decide +kernel) (by decide) c h h
theorem ly10_1 {c : Nat} (h : SHk c = 10) : SHk (c + 2) = 13 ∧ SHn (c + 2) = 7 := xall (P := fun c => SHk c = 10 → SHk (c + 2) = 13 ∧ SHn (c + 2) = 7) (by decide +kernel) (by decide) c h h
theorem ly10_2 {c : Nat} (h : SHk c = 10) : SHk (c + 3) = 13 ∧ SHn (c + 3) = 7 := xall (P := fun c => SHk c = 10 → SHk (c + 3) = 13 ∧ SHn (c + 3) = 7) (by decide +kernel) (by decide) c h h
theorem lyn10 {c : Nat} (h : SHk c = 10) : SHn c = 4 := xall (P := fun c => SHk c = 10 → SHn c = 4) (by decide +kernel) (by decide) c h h
theorem ly11_0 {c : Nat} (h : SHk c = 11) : SHk (c + 1) = 0 ∧ SHn (c + 1) = 6 := xall (P := fun c => SHk c = 11 → SHk (c + 1) = 0 ∧ SHn (c + 1) = 6) (by decide +kernel) (by decide) c h h
theorem ly11_1 {c : Nat} (h : SHk c = 11) : SHk (c + 34) = 0 ∧ SHn (c + 34) = 6 := xall (P := fun c => SHk c = 11 → SHk (c + 34) = 0 ∧ SHn (c + 34) = 6) (by decide +kernel) (by decide) c h h
theorem ly11_2 {c : Nat} (h : SHk c = 11) : SHk (c + 67) = 9 ∧ SHn (c + 67) = 19 := xall (P := fun c => SHk c = 11 → SHk (c + 67) = 9 ∧ SHn (c + 67) = 19) (by decide +kernel) (by decide) c h h
theorem ly11_3 {c : Nat} (h : SHk c = 11) : SHk (c + 77) = 3 ∧ SHn (c + 77) = 2 := xall (P := fun c => SHk c = 11 → SHk (c + 77) = 3 ∧ SHn (c + 77) = 2) (by decide +kernel) (by decide) c h h
theorem ly11_4 {c : Nat} (h : SHk c = 11) : SHk (c + 139) = 5 ∧ SHn (c + 139) = 12 := xall (P := fun c => SHk c = 11 → SHk (c + 139) = 5 ∧ SHn (c + 139) = 12) (by decide +kernel) (by decide) c h h
theorem ly11_5 {c : Nat} (h : SHk c = 11) : SHk (c + 162) = 1 ∧ SHn (c + 162) = 2 := xall (P := fun c => SHk c = 11 → SHk (c + 162) = 1 ∧ SHn (c + 162) = 2) (by decide +kernel) (by decide) c h h
theorem ly11_6 {c : Nat} (h : SHk c = 11) : SHk (c + 165) = 14 ∧ SHn (c + 165) = 400 := xall (P := fun c => SHk c = 11 → SHk (c + 165) = 14 ∧ SHn (c + 165) = 400) (by decide +kernel) (by decide) c h h
theorem lyn11 {c : Nat} (h : SHk c = 11) : SHn c = 9 := xall (P := fun c => SHk c = 11 → SHn c = 9) (by decide +kernel) (by decide) c h h
theorem ly12_1 {c : Nat} (h : SHk c = 12) : SHk (c + 1) = 13 ∧ SHn (c + 1) = 107 := xall (P := fun c => SHk c = 12 → SHk (c + 1) = 13 ∧ SHn (c + 1) = 107) (by decide +kernel) (by decide) c h h
theorem ly12_2 {c : Nat} (h : SHk c = 12) : SHk (c + 2) = 13 ∧ SHn (c + 2) = 642 := xall (P := fun c => SHk c = 12 → SHk (c + 2) = 13 ∧ SHn (c + 2) = 642) (by decide +kernel) (by decide) c h h
theorem ly12_4 {c : Nat} (h : SHk c = 12) : SHk (c + 3) = 13 ∧ SHn (c + 3) = 107 := xall (P := fun c => SHk c = 12 → SHk (c + 3) = 13 ∧ SHn (c + 3) = 107) (by decide +kernel) (by decide) c h h
theorem ly12_8 {c : Nat} (h : SHk c = 12) : SHk (c + 4) = 13 ∧ SHn (c + 4) = 14 := xall (P := fun c => SHk c = 12 → SHk (c + 4) = 13 ∧ SHn (c + 4) = 14) (by decide +kernel) (by decide) c h h
theorem ly12_9 {c : Nat} (h : SHk c = 12) : SHk (c + 5) = 13 ∧ SHn (c + 5) = 600 := xall (P := fun c => SHk c = 12 → SHk (c + 5) = 13 ∧ SHn (c + 5) = 600) (by decide +kernel) (by decide) c h h
theorem ly12_10 {c : Nat} (h : SHk c = 12) : SHk (c + 6) = 13 ∧ SHn (c + 6) = 400 := xall (P := fun c => SHk c = 12 → SHk (c + 6) = 13 ∧ SHn (c + 6) = 400) (by decide +kernel) (by decide) c h h
theorem ly12_16 {c : Nat} (h : SHk c = 12) : SHk (c + 7) = 13 ∧ SHn (c + 7) = 125 := xall (P := fun c => SHk c = 12 → SHk (c + 7) = 13 ∧ SHn (c + 7) = 125) (by decide +kernel) (by decide) c h h
theorem ly12_17 {c : Nat} (h : SHk c = 12) : SHk (c + 8) = 13 ∧ SHn (c + 8) = 2 := xall (P := fun c => SHk c = 12 → SHk (c + 8) = 13 ∧ SHn (c + 8) = 2) (by decide +kernel) (by decide) c h h
theorem ly12_18 {c : Nat} (h : SHk c = 12) : SHk (c + 9) = 13 ∧ SHn (c + 9) = 48 := xall (P := fun c => SHk c = 12 → SHk (c + 9) = 13 ∧ SHn (c + 9) = 48) (by decide +kernel) (by decide) c h h
theorem ly12_19 {c : Nat} (h : SHk c = 12) : SHk (c + 10) = 13 ∧ SHn (c + 10) = 48 := xall (P := fun c => SHk c = 12 → SHk (c + 10) = 13 ∧ SHn (c + 10) = 48) (by decide +kernel) (by decide) c h h
theorem ly12_20 {c : Nat} (h : SHk c = 12) : SHk (c + 11) = 13 ∧ SHn (c + 11) = 48 := xall (P := fun c => SHk c = 12 → SHk (c + 11) = 13 ∧ SHn (c + 11) = 48) (by decide +kernel) (by decide) c h h
theorem ly12_21 {c : Nat} (h : SHk c = 12) : SHk (c + 12) = 13 ∧ SHn (c + 12) = 48 := xall (P := fun c => SHk c = 12 → SHk (c + 12) = 13 ∧ SHn (c + 12) = 48) (by decide +kernel) (by decide) c h h
theorem ly12_22 {c : Nat} (h : SHk c = 12) : SHk (c + 13) = 13 ∧ SHn (c + 13) = 1200 := xall (P := fun c => SHk c = 12 → SHk (c + 13) = 13 ∧ SHn (c + 13) = 1200) (by decide +kernel) (by decide) c h h
theorem ly12_23 {c : Nat} (h : SHk c = 12) : SHk (c + 14) = 13 ∧ SHn (c + 14) = 1200 := xall (P := fun c => SHk c = 12 → SHk (c + 14) = 13 ∧ SHn (c + 14) = 1200) (by decide +kernel) (by decide) c h h
theorem ly12_27 {c : Nat} (h : SHk c = 12) : SHk (c + 15) = 13 ∧ SHn (c + 15) = 40 := xall (P := fun c => SHk c = 12 → SHk (c + 15) = 13 ∧ SHn (c + 15) = 40) (by decide +kernel) (by decide) c h h
theorem ly12_34 {c : Nat} (h : SHk c = 12) : SHk (c + 16) = 13 ∧ SHn (c + 16) = 64 := xall (P := fun c => SHk c = 12 → SHk (c + 16) = 13 ∧ SHn (c + 16) = 64) (by decide +kernel) (by decide) c h h
theorem ly12_36 {c : Nat} (h : SHk c = 12) : SHk (c + 17) = 13 ∧ SHn (c + 17) = 128 := xall (P := fun c => SHk c = 12 → SHk (c + 17) = 13 ∧ SHn (c + 17) = 128) (by decide +kernel) (by decide) c h h
theorem ly12_38 {c : Nat} (h : SHk c = 12) : SHk (c + 18) = 13 ∧ SHn (c + 18) = 64 := xall (P := fun c => SHk c = 12 → SHk (c + 18) = 13 ∧ SHn (c + 18) = 64) (by decide +kernel) (by decide) c h h
theorem ly12_39 {c : Nat} (h : SHk c = 12) : SHk (c + 19) = 13 ∧ SHn (c + 19) = 9 := xall (P := fun c => SHk c = 12 → SHk (c + 19) = 13 ∧ SHn (c + 19) = 9) (by decide +kernel) (by decide) c h h
theorem ly12_40 {c : Nat} (h : SHk c = 12) : SHk (c + 20) = 13 ∧ SHn (c + 20) = 420 := xall (P := fun c => SHk c = 12 → SHk (c + 20) = 13 ∧ SHn (c + 20) = 420) (by decide +kernel) (by decide) c h h
theorem ly12_42 {c : Nat} (h : SHk c = 12) : SHk (c + 21) = 13 ∧ SHn (c + 21) = 7 := xall (P := fun c => SHk c = 12 → SHk (c + 21) = 13 ∧ SHn (c + 21) = 7) (by decide +kernel) (by decide) c h h
theorem ly12_43 {c : Nat} (h : SHk c = 12) : SHk (c + 22) = 13 ∧ SHn (c + 22) = 7 := xall (P := fun c => SHk c = 12 → SHk (c + 22) = 13 ∧ SHn (c + 22) = 7) (by decide +kernel) (by decide) c h h
theorem ly12_44 {c : Nat} (h : SHk c = 12) : SHk (c + 23) = 13 ∧ SHn (c + 23) = 10 := xall (P := fun c => SHk c = 12 → SHk (c + 23) = 13 ∧ SHn (c + 23) = 10) (by decide +kernel) (by decide) c h h
theorem ly12_45 {c : Nat} (h : SHk c = 12) : SHk (c + 24) = 13 ∧ SHn (c + 24) = 10 := xall (P := fun c => SHk c = 12 → SHk (c + 24) = 13 ∧ SHn (c + 24) = 10) (by decide +kernel) (by decide) c h h
theorem ly12_49 {c : Nat} (h : SHk c = 12) : SHk (c + 25) = 13 ∧ SHn (c + 25) = 2100 := xall (P := fun c => SHk c = 12 → SHk (c + 25) = 13 ∧ SHn (c + 25) = 2100) (by decide +kernel) (by decide) c h h
theorem lyn12 {c : Nat} (h : SHk c = 12) : SHn c = 50 := xall (P := fun c => SHk c = 12 → SHn c = 50) (by decide +kernel) (by decide) c h h
