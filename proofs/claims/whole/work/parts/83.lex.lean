/-! the signs and the words of a text -/
def isL (c : Nat) : Bool := (decide (97 ≤ c) && decide (c ≤ 122)) || (decide (65 ≤ c) && decide (c ≤ 90))
def isD (c : Nat) : Bool := decide (48 ≤ c) && decide (c ≤ 57)
def isB (c : Nat) : Bool := decide (c = 32) || decide (c = 10)
def isM (c : Nat) : Bool := decide (c = 59) || decide (c = 43) || decide (c = 45) || decide (c = 42) || decide (c = 47) || decide (c = 40) || decide (c = 41) || decide (c = 60) || decide (c = 61) || decide (c = 62)
/-- where a run of signs ends -/
def rnE (b : Nat → Nat) (n : Nat) (f : Nat → Bool) : Nat → Nat → Nat
  | 0, p => p
  | r + 1, p => if p < n ∧ f (b p) = true then rnE b n f r (p + 1) else p
def ren (b : Nat → Nat) (n : Nat) (f : Nat → Bool) (p : Nat) : Nat := rnE b n f (n - p) p
theorem ren_go {b : Nat → Nat} {n : Nat} {f : Nat → Bool} {p : Nat} (h : p < n) (hf : f (b p) = true) : ren b n f p = ren b n f (p + 1) := by
  unfold ren
  have e : n - p = (n - (p + 1)) + 1 := by omega
  rw [e]
  show (if p < n ∧ f (b p) = true then _ else _) = _
  rw [if_pos ⟨h, hf⟩]
theorem ren_at {b : Nat → Nat} {n : Nat} {f : Nat → Bool} {p : Nat} (h : ¬ (p < n ∧ f (b p) = true)) : ren b n f p = p := by
  unfold ren
  cases e : n - p with
  | zero => rfl
  | succ r =>
    show (if p < n ∧ f (b p) = true then _ else _) = _
    rw [if_neg h]
theorem rnE_bd {b : Nat → Nat} {n : Nat} {f : Nat → Bool} : ∀ (r p : Nat), r = n - p → p ≤ n → p ≤ rnE b n f r p ∧ rnE b n f r p ≤ n ∧ (∀ j, p ≤ j → j < rnE b n f r p → f (b j) = true) ∧ (rnE b n f r p < n → f (b (rnE b n f r p)) = false) := by
  intro r
  induction r with
  | zero => intro p h1 h2; exact ⟨Nat.le_refl _, h2, fun j h3 h4 => absurd h4 (by show ¬ j < p; omega), fun h3 => absurd h3 (by show ¬ p < n; omega)⟩
  | succ r ih =>
    intro p h1 h2
    have hp : p < n := by omega
    by_cases hf : f (b p) = true
    · have e : rnE b n f (r + 1) p = rnE b n f r (p + 1) := if_pos ⟨hp, hf⟩
      rw [e]
      obtain ⟨a1, a2, a3, a4⟩ := ih (p + 1) (by omega) (by omega)
      refine ⟨by omega, a2, fun j h3 h4 => ?_, a4⟩
      by_cases hj : j = p
      · rw [hj]; exact hf
      · exact a3 j (by omega) h4
    · have e : rnE b n f (r + 1) p = p := if_neg (fun q => hf q.2)
      rw [e]
      refine ⟨Nat.le_refl _, h2, fun j h3 h4 => absurd h4 (by omega), fun _ => by simpa using hf⟩
theorem ren_bd {b : Nat → Nat} {n : Nat} {f : Nat → Bool} {p : Nat} (h : p ≤ n) : p ≤ ren b n f p ∧ ren b n f p ≤ n ∧ (∀ j, p ≤ j → j < ren b n f p → f (b j) = true) ∧ (ren b n f p < n → f (b (ren b n f p)) = false) := rnE_bd _ _ rfl h
/-- the tape of both -/
def BT (b : Nat → Nat) (n : Nat) (M : Mem) : Prop := ∀ i, i < n → b i < 256 ∧ M 172 i = nI (b i) ∧ M 165 i = (nI (b i)).toInt8.toInt32
theorem byt : ∀ c, c < 256 → (nI c).toInt8.toInt32 &&& 255 = nI c := by decide +kernel
theorem s8_signAt {b : Nat → Nat} {n i : Nat} {M : Mem} {Q : Int32 → Prop} (hb : BT b n M) (hn : n ≤ 400) (hi : i < n) (h : Q (nI (b i))) : FX8_signAt Q 165 (nI i) M := by
  obtain ⟨b1, -, b3⟩ := hb i hi
  unfold FX8_signAt
  refine ⟨fun h1 => absurd h1 (nI_pos (by omega)), fun _ => ⟨fun h1 => absurd ((nI_leI (a := 400) (b := i) (by omega) (by omega)).mp h1) (by omega), fun _ => ⟨vp_in_nI (N := 400) (by omega) (by omega), ?_⟩⟩⟩
  rw [ixn (by omega), b3, byt _ b1]
  exact h
theorem s8_isLetter {c : Nat} {M : Mem} {Q : Bool → Prop} (hc : c < 256) (h : Q (isL c)) : FX8_isLetter Q (nI c) M := by
  unfold FX8_isLetter NX8_isLetter_12
  have e : ∀ c, c < 256 → isL c = (if nI c < 97 then (if nI c < 65 then false else if 90 < nI c then false else true) else if nI c ≤ 122 then true else (if nI c < 65 then false else if 90 < nI c then false else true)) := by decide +kernel
  rw [e c hc] at h
  refine ⟨fun h1 => ⟨fun h2 => ?_, fun h2 => ⟨fun h3 => ?_, fun h3 => ?_⟩⟩, fun h1 => ⟨fun h2 => ?_, fun h2 => ⟨fun h3 => ?_, fun h3 => ⟨fun h4 => ?_, fun h4 => ?_⟩⟩⟩⟩ <;> simp_all
theorem s8_isDigit {c : Nat} {M : Mem} {Q : Bool → Prop} (hc : c < 256) (h : Q (isD c)) : FX8_isDigit Q (nI c) M := by
  unfold FX8_isDigit
  have e : ∀ c, c < 256 → isD c = (if nI c < 48 then false else if 57 < nI c then false else true) := by decide +kernel
  rw [e c hc] at h
  refine ⟨fun h1 => ?_, fun h1 => ⟨fun h2 => ?_, fun h2 => ?_⟩⟩ <;> simp_all
/-- raw of the reference, and what it says of a sign -/
theorem s12_raw {b : Nat → Nat} {n i : Nat} {M : Mem} {Q : Int32 → Prop} (hb : BT b n M) (hn : n ≤ 400) (hl : M 166 11 = nI n) (hi : i < n) (h : Q (nI (b i))) : FX12_raw Q 166 (nI i) M := by
  unfold FX12_raw
  rw [hl]
  refine ⟨fun h1 => absurd ((nI_leI (by omega) (by omega)).mp h1) (by omega), fun _ => ⟨vp_in_nI (by omega) (by omega), ?_⟩⟩
  rw [ixn (by omega), (hb i hi).2.1]
  exact h
theorem s12_rawE {n i : Nat} {M : Mem} {Q : Int32 → Prop} (hn : n ≤ 400) (hl : M 166 11 = nI n) (hi : i = n) (h : Q (-1)) : FX12_raw Q 166 (nI i) M := by
  subst hi
  unfold FX12_raw
  rw [hl]
  exact ⟨fun _ => h, fun h1 => absurd (Int32.le_refl _) h1⟩
theorem s12_isL {c : Nat} {M : Mem} {Q : Bool → Prop} (hc : c < 256) (h : Q (isL c)) : FX12_isLetter Q 166 (nI c) M := by
  unfold FX12_isLetter
  have e : ∀ c, c < 256 → isL c = (decide (97 ≤ nI c ∧ nI c ≤ 122) || decide (65 ≤ nI c ∧ nI c ≤ 90)) := by decide +kernel
  rw [e c hc] at h
  refine s12_isIn ?_
  refine ⟨fun h1 => ?_, fun h1 => s12_isIn ⟨fun h2 => ?_, fun h2 => ?_⟩⟩
  · rwa [h1, Bool.true_or] at h
  · rwa [h1, h2, Bool.or_self] at h
  · rwa [h1, h2, Bool.or_true] at h
theorem s12_isD {c : Nat} {M : Mem} {Q : Bool → Prop} (hc : c < 256) (h : Q (isD c)) : FX12_isDigit Q 166 (nI c) M := by
  unfold FX12_isDigit
  have e : ∀ c, c < 256 → isD c = decide (48 ≤ nI c ∧ nI c ≤ 57) := by decide +kernel
  rw [e c hc] at h
  exact s12_isIn h
theorem s12_isLm {M : Mem} {Q : Bool → Prop} (h : Q false) : FX12_isLetter Q 166 (-1) M := by
  unfold FX12_isLetter
  refine s12_isIn ?_
  rw [show decide ((97 : Int32) ≤ -1 ∧ (-1 : Int32) ≤ 122) = false by decide]
  refine ⟨fun q => (by cases q), fun _ => s12_isIn ?_⟩
  rw [show decide ((65 : Int32) ≤ -1 ∧ (-1 : Int32) ≤ 90) = false by decide]
  exact ⟨fun _ => h, fun q => (by cases q)⟩
theorem s12_isDm {M : Mem} {Q : Bool → Prop} (h : Q false) : FX12_isDigit Q 166 (-1) M := by
  unfold FX12_isDigit
  refine s12_isIn ?_
  rw [show decide ((48 : Int32) ≤ -1 ∧ (-1 : Int32) ≤ 57) = false by decide]
  exact h
theorem s12_isMk {c : Nat} {M : Mem} {Q : Bool → Prop} (hc : c < 256) (h : Q (isM c)) : FX12_isMarkSign Q 166 (nI c) M := by
  unfold FX12_isMarkSign
  have e : ∀ c, c < 256 → isM c = (decide (nI c = 59) || decide (nI c = 43) || decide (nI c = 45) || decide (nI c = 42) || decide (nI c = 47) || decide (nI c = 40) || decide (nI c = 41) || decide (nI c = 60) || decide (nI c = 61) || decide (nI c = 62)) := by decide +kernel
  rw [e c hc] at h
  refine ⟨fun h1 => ?_, fun h1 => ⟨fun h2 => ?_, fun h2 => ⟨fun h3 => ?_, fun h3 => ⟨fun h4 => ?_, fun h4 => ⟨fun h5 => ?_, fun h5 => ⟨fun h6 => ?_, fun h6 => ⟨fun h7 => ?_, fun h7 => ⟨fun h8 => ?_, fun h8 => ⟨fun h9 => ?_, fun h9 => ⟨fun h10 => ?_, fun h10 => ?_⟩⟩⟩⟩⟩⟩⟩⟩⟩⟩
  all_goals simpa [*] using h
/-- the words -/
def gWords : List (List Nat) := [[101, 97, 116, 115], [100, 105, 101, 115], [108, 101, 97, 110, 115], [119, 104, 101, 110], [111, 114], [97, 110, 100], [110, 111, 116], [97, 103, 101], [102, 97, 105, 116, 104], [100, 111, 99, 116, 114, 105, 110, 101], [104, 117, 110, 103, 101, 114], [112, 108, 97, 99, 101], [116, 97, 108, 108], [119, 101, 97, 116, 104, 101, 114], [97, 98, 111, 118, 101], [100, 97, 121], [105, 115], [111, 110], [108, 111, 97, 118, 101, 115], [115, 97, 121], [100, 111, 119, 110], [98, 117, 105, 108, 100], [99, 117, 114, 115, 101], [115, 111]]
def gl (k : Nat) : List Nat := [[0, 1, 2, 3, 4, 5, 6, 7, 8, 9, 10, 11, 12, 13, 14, 15], [15, 16], [17, 18, 19, 20, 21, 22], [5, 23]].getD k []
def cWords (k : Nat) : List (List Nat) := (gl k).map (fun g => gWords.getD g [])
def wix : List (List Nat) → List Nat → Nat → Option Nat
  | [], _, _ => none
  | x :: L, w, j => if x = w then some j else wix L w (j + 1)
def cat : List (List Nat) → List Nat
  | [] => []
  | x :: L => x ++ 32 :: cat L
def slc (b : Nat → Nat) (p e : Nat) : List Nat := (List.range (e - p)).map (fun i => b (p + i))
theorem slc_len (b : Nat → Nat) (p e : Nat) : (slc b p e).length = e - p := by simp [slc]
theorem slc_at {b : Nat → Nat} {p e q : Nat} (h : p + q < e) : (slc b p e)[q]? = some (b (p + q)) := by
  simp [slc, List.getElem?_map, List.getElem?_range (show q < e - p by omega)]
/-- the scan of a list of words, as the class goes -/
def cw (w : List Nat) : List Nat → Nat → Option Nat → Option Nat
  | [], _, _ => none
  | c :: s, j, none => if c = 32 then cw w s (j + 1) (some 0) else cw w s j none
  | c :: s, j, some q => if c = 32 then (if q = w.length then some j else cw w s (j + 1) (some 0)) else if w[q]? = some c then cw w s j (some (q + 1)) else cw w s j none
theorem cw_none (w : List Nat) (s : List Nat) (j : Nat) : ∀ x : List Nat, 32 ∉ x → cw w (x ++ 32 :: s) j none = cw w s (j + 1) (some 0)
  | [], _ => by simp [cw]
  | c :: x, h => by
    have h1 : ¬ c = 32 := fun e => h (by simp [e])
    show (if c = 32 then _ else cw w (x ++ 32 :: s) j none) = _
    rw [if_neg h1]
    exact cw_none w s j x (fun q => h (by simp [q]))
theorem cw_some (w : List Nat) (s : List Nat) (j : Nat) : ∀ (x : List Nat) (q : Nat), q ≤ w.length → 32 ∉ x → cw w (x ++ 32 :: s) j (some q) = if x = w.drop q then some j else cw w s (j + 1) (some 0)
  | [], q, hq, _ => by
    show (if (32 : Nat) = 32 then (if q = w.length then some j else cw w s (j + 1) (some 0)) else _) = _
    rw [if_pos rfl]
    by_cases e : q = w.length
    · rw [if_pos e, if_pos (by rw [e]; simp)]
    · rw [if_neg e, if_neg (fun h => e (by have := congrArg List.length h; simp at this; omega))]
  | c :: x, q, hq, h => by
    have h1 : ¬ c = 32 := fun e => h (by simp [e])
    have h2 : 32 ∉ x := fun q => h (by simp [q])
    show (if c = 32 then _ else if w[q]? = some c then cw w (x ++ 32 :: s) j (some (q + 1)) else cw w (x ++ 32 :: s) j none) = _
    rw [if_neg h1]
    by_cases e : w[q]? = some c
    · obtain ⟨hl, he⟩ := List.getElem?_eq_some_iff.mp e
      rw [if_pos e, cw_some w s j x (q + 1) hl h2, List.drop_eq_getElem_cons hl, he]
      simp
    · rw [if_neg e, cw_none w s j x h2, if_neg]
      intro hx
      refine e ?_
      have := congrArg (fun l => l[0]?) hx
      simp at this
      exact this.symm
theorem cw_wix (w : List Nat) : ∀ (L : List (List Nat)) (j : Nat), (∀ x ∈ L, 32 ∉ x) → cw w (cat L) j (some 0) = wix L w j
  | [], _, _ => rfl
  | x :: L, j, h => by
    show cw w (x ++ 32 :: cat L) j (some 0) = _
    rw [cw_some w _ j x 0 (Nat.zero_le _) (h x (by simp)), cw_wix w L (j + 1) (fun y hy => h y (by simp [hy]))]
    simp [wix]
theorem cWords_32 : ∀ k, k < 4 → ∀ x ∈ cWords k, 32 ∉ x := by decide +kernel
theorem sLn_cat : ∀ k, k < 4 → sLn (1000 + k) = (cat (cWords k)).length := by decide +kernel
theorem sAt_cat : ∀ k, k < 4 → ∀ i, i < 87 → i < (cat (cWords k)).length → sAt (1000 + k) i = nI ((cat (cWords k)).getD i 0) ∧ (cat (cWords k)).getD i 0 < 256 := by decide +kernel
theorem cat_le : ∀ k, k < 4 → (cat (cWords k)).length ≤ 87 := by decide +kernel
theorem s8_wordOf {b : Nat → Nat} {n k p e : Nat} {M : Mem} {Q : Int32 → Prop} (hb : BT b n M) (hn : n ≤ 400) (hk : k < 4) (hp : p ≤ e) (he : e ≤ n) (h : Q (oI (wix (cWords k) (slc b p e) 0))) : FX8_wordOf Q 165 (nI p) (nI e) (1000 + k) M := by
  unfold FX8_wordOf NX8_wordOf_9
  rw [← cw_wix _ _ _ (cWords_32 k hk)] at h
  have hL := cat_le k hk
  refine xlp_for (fun r (a : Int32 × Int32 × Int32) => ∃ i j m, i + r = (cat (cWords k)).length ∧ j ≤ i ∧ (∀ q, m = some q → q ≤ e - p) ∧ a = (nI j, oI m, nI i) ∧ Q (oI (cw (slc b p e) ((cat (cWords k)).drop i) j m))) ?_ ?_ (cat (cWords k)).length _ ⟨0, 0, some 0, by omega, by omega, fun q hq => by cases hq; omega, rfl, h⟩
  · rintro a B ⟨i, j, m, hi, hj, hm, rfl, hq⟩
    show lbX8_wordOf_9 _ _ _ _ _ _ _ _ _ _
    unfold lbX8_wordOf_9
    have e1 : sLen (1000 + k) ≤ nI i := by
      show nI (sLn (1000 + k)) ≤ nI i
      rw [sLn_cat k hk]
      exact (nI_leI (by omega) (by omega)).mpr (by omega)
    refine ⟨fun _ => ?_, fun q => absurd e1 q⟩
    rw [List.drop_eq_nil_of_le (by omega)] at hq
    exact hq
  · rintro r a B ⟨i, j, m, hi, hj, hm, rfl, hq⟩ hB
    show lbX8_wordOf_9 Q 165 (nI p) (nI e) (1000 + k) M (fun l4 l5 l6 => B (l4, l5, l6)) (nI j) (oI m) (nI i)
    unfold lbX8_wordOf_9
    have hi2 : i < (cat (cWords k)).length := by omega
    have e1 : ¬ sLen (1000 + k) ≤ nI i := by
      show ¬ nI (sLn (1000 + k)) ≤ nI i
      rw [sLn_cat k hk]
      exact fun q => absurd ((nI_leI (by omega) (by omega)).mp q) (by omega)
    refine ⟨fun q => absurd q e1, fun _ => ⟨vp_in_nI (by rw [sLn_cat k hk]; exact hi2) (by rw [sLn_cat k hk]; omega), ?_⟩⟩
    rw [ixn (by omega)]
    obtain ⟨s1, s2⟩ := sAt_cat k hk i (by omega) hi2
    rw [s1]
    generalize hc : (cat (cWords k)).getD i 0 = c at *
    have hd : (cat (cWords k)).drop i = c :: (cat (cWords k)).drop (i + 1) := by
      rw [List.drop_eq_getElem_cons hi2, ← hc, List.getD_eq_getElem?_getD, List.getElem?_eq_getElem hi2]
      rfl
    rw [hd] at hq
    rw [nI_1 i]
    have no : ¬ c = 32 → (cw (slc b p e) (c :: (cat (cWords k)).drop (i + 1)) j m = cw (slc b p e) ((cat (cWords k)).drop (i + 1)) j none) → B (nI j, -1, nI (i + 1)) := by
      intro h1 h2
      rw [h2] at hq
      exact hB _ ⟨i + 1, j, none, by omega, by omega, fun q hq => (by cases hq), rfl, hq⟩
    refine ⟨fun h1 => ?_, fun h1 => ?_⟩
    · have h1' : ¬ c = 32 := fun q => h1 (by rw [q]; rfl)
      cases m with
      | none => exact ⟨fun _ => no h1' (by simp [cw, h1']), fun q => absurd rfl q⟩
      | some t =>
        have ht := hm t rfl
        show (nI t = -1 → _) ∧ (¬ nI t = -1 → _)
        refine ⟨fun q => absurd q (m1_ne (by omega)), fun _ => ?_⟩
        rw [show nI p + oI (some t) = nI (p + t) from nI_add p t]
        refine ⟨fun h2 => no h1' ?_, fun h2 => ?_⟩
        · have h2' := (nI_leI (by omega) (by omega)).mp h2
          have : (slc b p e)[t]? = none := List.getElem?_eq_none (by rw [slc_len]; omega)
          simp [cw, h1', this]
        · have h2' : p + t < e := by
            have := mt (nI_leI (a := e) (b := p + t) (by omega) (by omega)).mpr h2
            omega
          refine s8_signAt hb hn (by omega) ?_
          have hbt := (hb (p + t) (by omega)).1
          refine ⟨fun h3 => no h1' ?_, fun h3 => ?_⟩
          · have : ¬ b (p + t) = c := fun q => h3 (by rw [q])
            simp [cw, h1', slc_at h2', this]
          · have h3' : b (p + t) = c := (nI_eq (by omega) (by omega)).mp h3
            rw [show oI (some t) + 1 = nI (t + 1) from nI_1 t]
            refine hB _ ⟨i + 1, j, some (t + 1), by omega, by omega, fun q hq => by cases hq; omega, rfl, ?_⟩
            have : cw (slc b p e) (c :: (cat (cWords k)).drop (i + 1)) j (some t) = cw (slc b p e) ((cat (cWords k)).drop (i + 1)) j (some (t + 1)) := by
              simp [cw, h1', slc_at h2', h3']
            rw [this] at hq
            exact hq
    · have h1' : c = 32 := (nI_eq (b := 32) (by omega) (by omega)).mp h1
      subst h1'
      rw [pk_sub hp, nI_1 j]
      refine ⟨fun h2 => ?_, fun h2 => ?_⟩
      · refine hB _ ⟨i + 1, j + 1, some 0, by omega, by omega, fun q hq => by cases hq; omega, rfl, ?_⟩
        cases m with
        | none => simpa [cw] using hq
        | some t =>
          have : ¬ t = (slc b p e).length := fun q => h2 (by rw [q, slc_len]; rfl)
          simpa [cw, this] using hq
      · cases m with
        | none => exact absurd h2.symm (m1_ne (by omega))
        | some t =>
          have ht := hm t rfl
          have : t = (slc b p e).length := by rw [slc_len]; exact (nI_eq (by omega) (by omega)).mp h2
          simpa [cw, this, oI] using hq
theorem xW_cat : ∀ i, i < 125 → xWords.getD i 0 = nI ((32 :: cat gWords).getD i 0) ∧ (32 :: cat gWords).getD i 0 < 256 := by decide +kernel
theorem gW_len : (cat gWords).length = 124 := by decide +kernel
theorem gW_L : ∀ x ∈ gWords, ∀ c ∈ x, isL c = true := by decide +kernel
theorem gW_n : gWords.length = 24 := rfl
theorem isL_32 {c : Nat} (h : isL c = true) : ¬ c = 32 := by rintro rfl; exact absurd h (by decide)
/-- the word at a place of the table: a sign of it, and the blank behind it -/
theorem cat_in {x : List Nat} {L : List (List Nat)} {q : Nat} (h : q < x.length) : (cat (x :: L)).getD q 0 = x.getD q 0 := by
  show (x ++ 32 :: cat L).getD q 0 = _
  simp [List.getD_eq_getElem?_getD, List.getElem?_append_left h]
theorem cat_bl {x : List Nat} {L : List (List Nat)} : (cat (x :: L)).getD x.length 0 = 32 := by
  show (x ++ 32 :: cat L).getD _ 0 = _
  simp [List.getD_eq_getElem?_getD, List.getElem?_append_right (Nat.le_refl _)]
theorem getD_drop {l : List Nat} (p q : Nat) : (l.drop p).getD q 0 = l.getD (p + q) 0 := by
  simp [List.getD_eq_getElem?_getD, List.getElem?_drop]
theorem s12_wordAt {b : Nat → Nat} {n p e : Nat} {M : Mem} {Q : Int32 → Prop} (hb : BT b n M) (hx : IX M) (hn : n ≤ 400) (hp : p < e) (he : e ≤ n) (hl : ∀ j, p ≤ j → j < e → isL (b j) = true) (h : Q (oI (wix gWords (slc b p e) 0))) : FX12_wordAt Q 166 (nI p) (nI e) M := by
  unfold FX12_wordAt NX12_wordAt_5
  have sgn : ∀ i, i < 125 → M 173 i = nI ((32 :: cat gWords).getD i 0) := fun i hi => (hx.1 i hi).trans (xW_cat i hi).1
  refine xlp_for (fun r (a : Int32 × Int32) => ∃ L g i, (∀ x ∈ L, ∀ c ∈ x, isL c = true) ∧ L.length = r ∧ (cat gWords).drop i = cat L ∧ i + (cat L).length = 124 ∧ a = (nI g - 1, nI i) ∧ g ≤ 24 ∧ g + r = 24 ∧ Q (oI (wix L (slc b p e) g))) ?_ ?_ 24 _ ⟨gWords, 0, 0, gW_L, rfl, rfl, by rw [gW_len], rfl, by omega, by omega, h⟩
  · rintro a B ⟨L, g, i, -, hL, h1, h2, rfl, -, -, hq⟩
    have : L = [] := List.length_eq_zero_iff.mp hL
    subst this
    show lbX12_wordAt_5 Q 166 (nI p) (nI e) M (fun l3 l4 => B (l3, l4)) (nI g - 1) (nI i)
    unfold lbX12_wordAt_5
    have hi : i = 124 := by simpa [cat] using h2
    subst hi
    exact ⟨fun _ => hq, fun q => absurd (Int32.le_refl _) q⟩
  · rintro r a B ⟨L, g, i, hLL, hL, h1, h2, rfl, hg, hg2, hq⟩ hB
    obtain ⟨x, L', rfl⟩ : ∃ x L', L = x :: L' := by
      cases L with
      | nil => simp at hL
      | cons x L' => exact ⟨x, L', rfl⟩
    have hxl : (cat (x :: L')).length = x.length + 1 + (cat L').length := by
      show (x ++ 32 :: cat L').length = _
      simp; omega
    show lbX12_wordAt_5 Q 166 (nI p) (nI e) M (fun l3 l4 => B (l3, l4)) (nI g - 1) (nI i)
    unfold lbX12_wordAt_5
    have hW : ∀ q, q ≤ x.length → M 173 (i + 1 + q) = nI ((cat (x :: L')).getD q 0) := by
      intro q hq2
      rw [sgn _ (by omega), ← h1, getD_drop]
      rw [show i + 1 + q = (i + q) + 1 by omega]
      simp [List.getD_eq_getElem?_getD]
    have hWb : M 173 (i + 1 + x.length) = 32 := by rw [hW _ (Nat.le_refl _), cat_bl]; rfl
    have hWc : ∀ q, q < x.length → M 173 (i + 1 + q) = nI (x.getD q 0) ∧ isL (x.getD q 0) = true ∧ x.getD q 0 < 256 := by
      intro q hq2
      refine ⟨by rw [hW _ (by omega), cat_in hq2], ?_⟩
      have hm : x.getD q 0 ∈ x := by
        rw [List.getD_eq_getElem?_getD, List.getElem?_eq_getElem hq2]
        exact List.getElem_mem hq2
      have hl2 := hLL x (by simp) _ hm
      refine ⟨hl2, ?_⟩
      revert hl2
      generalize x.getD q 0 = c
      intro hl2
      simp [isL] at hl2
      omega
    refine ⟨fun q => absurd ((nI_leI (a := 124) (by omega) (by omega)).mp q) (by omega), fun _ => ?_⟩
    rw [show nI g - 1 + 1 = nI g by simp]
    -- on to the next blank
    have onw : ∀ q, q ≤ x.length → (x ≠ slc b p e) → xlp (fun (B5 : Int32 → Prop) a => lbX12_wordAt_93 Q (fun l3 l4 => B (l3, l4)) 166 (nI p) (nI e) (nI g) M (fun l4 => B5 l4) a) (nI (i + 1 + (x.length - q))) := by
      intro q hq2 hne
      refine xlp_for (fun r (a : Int32) => ∃ t, t + r = x.length ∧ a = nI (i + 1 + t)) ?_ ?_ q _ ⟨x.length - q, by omega, rfl⟩
      · rintro a B2 ⟨t, ht, rfl⟩
        unfold lbX12_wordAt_93
        refine ⟨vp_in_nI (by omega) (by omega), ?_⟩
        rw [ixn (by omega)]
        have ht2 : t = x.length := by omega
        subst ht2
        refine ⟨fun _ => hB _ ⟨L', g + 1, i + 1 + x.length, fun y hy => hLL y (by simp [hy]), by simpa using hL, ?_, by omega, by rw [nI_s1], by omega, by omega, ?_⟩, fun q => absurd hWb q⟩
        · rw [show i + 1 + x.length = i + (x.length + 1) by omega, ← List.drop_drop, h1]
          show (x ++ 32 :: cat L').drop (x.length + 1) = _
          simp [List.drop_append]
        · simpa [wix, hne] using hq
      · rintro r a B2 ⟨t, ht, rfl⟩ hB2
        unfold lbX12_wordAt_93
        refine ⟨vp_in_nI (by omega) (by omega), ?_⟩
        rw [ixn (by omega)]
        obtain ⟨c1, c2, c3⟩ := hWc t (by omega)
        refine ⟨fun q => ?_, fun _ => ?_⟩
        · exact absurd ((nI_eq (b := 32) (by omega) (by omega)).mp (c1.symm.trans q)) (isL_32 c2)
        · rw [nI_1]
          exact hB2 _ ⟨t + 1, by omega, by rw [Nat.add_assoc]⟩
    have onw0 : (x ≠ slc b p e) → NX12_wordAt_93 Q (fun l3 l4 => B (l3, l4)) 166 (nI p) (nI e) (nI g) (nI (i + 1)) M := by
      intro hne
      have := onw x.length (Nat.le_refl _) hne
      rw [Nat.sub_self, Nat.add_zero] at this
      exact this
    -- what follows the match of q signs
    have fin : ∀ q, q ≤ x.length → p + q ≤ e → (∀ j, j < q → x.getD j 0 = b (p + j)) → (p + q = e ∨ M 173 (i + 1 + q) ≠ nI (b (p + q))) → NX12_wordAt_60 Q (fun l3 l4 => B (l3, l4)) 166 (nI p) (nI e) (nI g) (nI i) (nI q) M := by
      intro q hq1 hq2 hq3 hq4
      unfold NX12_wordAt_60
      rw [nI_add p q, nI_1 i, nI_add (i + 1) q]
      refine ⟨fun h5 => onw0 ?_, fun h5 => ⟨vp_in_nI (by omega) (by omega), ?_⟩⟩
      · rintro rfl
        have h6 : ¬ p + q = e := fun w => h5 (by rw [w])
        rcases hq4 with h7 | h7
        · exact h6 h7
        · refine h7 ?_
          have hq5 : q < (slc b p e).length := by rw [slc_len]; omega
          rw [(hWc q hq5).1, List.getD_eq_getElem?_getD, slc_at (by omega)]
          rfl
      · have h5' : p + q = e := (nI_eq (by omega) (by omega)).mp h5
        rw [ixn (by omega)]
        refine ⟨fun h6 => onw0 ?_, fun h6 => ?_⟩
        · rintro rfl
          refine h6 ?_
          have : q = (slc b p e).length := by rw [slc_len]; omega
          rw [this]
          exact hWb
        · have hq6 : q = x.length := by
            by_cases hq7 : q < x.length
            · obtain ⟨c1, c2, c3⟩ := hWc q hq7
              exact absurd ((nI_eq (b := 32) (by omega) (by omega)).mp (c1.symm.trans h6)) (isL_32 c2)
            · omega
          have : x = slc b p e := by
            apply List.ext_getElem?
            intro j
            by_cases hj : j < x.length
            · rw [slc_at (by omega), ← hq3 j (by omega), List.getD_eq_getElem?_getD, List.getElem?_eq_getElem hj]
              rfl
            · rw [List.getElem?_eq_none (by omega), List.getElem?_eq_none (by rw [slc_len]; omega)]
          simpa [wix, this, oI] using hq
    unfold NX12_wordAt_19
    refine xlp_for (fun r (a : Int32) => ∃ q, q + r = e - p ∧ q ≤ x.length ∧ (∀ j, j < q → x.getD j 0 = b (p + j)) ∧ a = nI q) ?_ ?_ (e - p) _ ⟨0, by omega, by omega, fun j hj => absurd hj (by omega), rfl⟩
    · rintro a B2 ⟨q, hq1, hq2, hq3, rfl⟩
      unfold lbX12_wordAt_19
      refine ⟨fun _ => fin q hq2 (by omega) hq3 (Or.inl (by omega)), fun h5 => absurd ?_ h5⟩
      rw [nI_add]
      exact (nI_leI (by omega) (by omega)).mpr (by omega)
    · rintro r a B2 ⟨q, hq1, hq2, hq3, rfl⟩ hB2
      unfold lbX12_wordAt_19
      rw [nI_add p q, nI_1 i, nI_add (i + 1) q]
      refine ⟨fun h5 => absurd ((nI_leI (by omega) (by omega)).mp h5) (by omega), fun _ => ⟨vp_in_nI (by omega) (by omega), vp_in_nI (by omega) (by omega), ?_⟩⟩
      rw [ixn (by omega), ixn (by omega)]
      have hbq := hb (p + q) (by omega)
      show (¬ M 173 (i + 1 + q) = M 172 (p + q) → _) ∧ (M 173 (i + 1 + q) = M 172 (p + q) → _)
      rw [hbq.2.1]
      refine ⟨fun h5 => fin q hq2 (by omega) hq3 (Or.inr h5), fun h5 => ?_⟩
      have hq5 : q < x.length := by
        by_cases hq7 : q < x.length
        · exact hq7
        · have hqe : q = x.length := by omega
          have h9 := hbq.1
          rw [hqe] at h9
          rw [hqe, hWb] at h5
          have h6 : b (p + x.length) = 32 := ((nI_eq (a := 32) (by omega) (by omega)).mp h5).symm
          exact absurd h6 (isL_32 (hl _ (by omega) (by omega)))
      obtain ⟨c1, c2, c3⟩ := hWc q hq5
      rw [nI_1]
      refine hB2 _ ⟨q + 1, by omega, by omega, fun j hj => ?_, rfl⟩
      by_cases hj2 : j = q
      · rw [hj2]
        exact (nI_eq (by omega) (by have := hbq.1; omega)).mp (c1.symm.trans h5)
      · exact hq3 j (by omega)
