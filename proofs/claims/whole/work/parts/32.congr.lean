/-! what the invariant reads -/
/-- places of a view that count -/
def vr (c i : Nat) : Bool :=
  if c = 166 then i == 6 || i == 7 || i == 33 || i == 35 || i == 37 || i == 41
  else if c = 167 then decide (i < 107)
  else if c = 170 then decide (i < 14)
  else if c = 171 then decide (i < 600)
  else if c = 174 then i == 0
  else if c = 175 ∨ c = 176 ∨ c = 177 ∨ c = 178 then decide (i < 16)
  else if c = 179 ∨ c = 180 then decide (i < 400)
  else if c = 182 ∨ c = 184 then decide (i < 32)
  else if c = 183 then decide (i < 64)
  else if c = 187 ∨ c = 188 then decide (i < 7)
  else false
def VA (V V2 : Mem) : Prop := ∀ c i, vr c i = true → V2 c i = V c i
theorem VA.r {V V2 : Mem} (h : VA V V2) {i : Nat} (hi : i < 107) : V2 167 i = V 167 i := h 167 i (by simp [vr, hi])
theorem VA.n {V V2 : Mem} (h : VA V V2) {i : Nat} (hi : i = 6 ∨ i = 7 ∨ i = 33 ∨ i = 35 ∨ i = 37 ∨ i = 41) : V2 166 i = V 166 i := h 166 i (by rcases hi with rfl | rfl | rfl | rfl | rfl | rfl <;> rfl)
/-- the places of a view but the world's -/
def vl (c i : Nat) : Bool := vr c i && (!(c == 167 || c == 170 || c == 171) && !(c == 166 && (i == 6 || i == 7)))
def VL (V V2 : Mem) : Prop := ∀ c i, vl c i = true → V2 c i = V c i
theorem VA.L {V V2 : Mem} (h : VA V V2) : VL V V2 := fun c i e => h c i (by simp [vl] at e; exact e.1)
theorem VL.m {V V2 : Mem} (h : VL V V2) {i : Nat} (hi : i = 33 ∨ i = 35 ∨ i = 37 ∨ i = 41) : V2 166 i = V 166 i := h 166 i (by rcases hi with rfl | rfl | rfl | rfl <;> rfl)
/-- the places of a row on which its soundness rests -/
def wfr (i : Nat) : Bool := i == 2 || i == 6 || (decide (21 ≤ i) && decide (i < 35)) || (decide (49 ≤ i) && decide (i < 84)) || (decide (93 ≤ i) && decide (i < 107))
theorem dset_congr {f g : Nat → Int32} : ∀ {n : Nat}, (∀ k, k < n → f k = g k) → dset f n = dset g n
  | 0, _ => rfl
  | n + 1, h => by
    have ih := dset_congr (n := n) (fun k hk => h k (by omega))
    simp only [dset, ih, h n (by omega)]
theorem cnt_congr {f g : Nat → Bool} : ∀ {n : Nat}, (∀ k, k < n → f k = g k) → cnt f n = cnt g n
  | 0, _ => rfl
  | n + 1, h => by
    have ih := cnt_congr (n := n) (fun k hk => h k (by omega))
    simp only [cnt, ih, h n (by omega)]
theorem kRun_congr {op op2 ar ar2 : Nat → Int32} : ∀ {k i : Nat} {st : List Bool}, (∀ j, j < i + k → op2 j = op j ∧ ar2 j = ar j) → kRun op2 ar2 i k st = kRun op ar i k st
  | 0, _, _, _ => rfl
  | k + 1, i, st, h => by
    have e1 := (h i (by omega)).1
    have e2 := h (i - 1) (by omega)
    simp only [kRun, e1, e2.1, e2.2]
    cases kStep (op i) (op (i - 1)) (ar (i - 1)) st with
    | none => rfl
    | some st2 => exact kRun_congr (fun j hj => h j (by omega))
theorem WFa_congr2 {V V2 : Mem} {P N g : Nat} (n6 : V2 166 6 = V 166 6) (n7 : V2 166 7 = V 166 7) (h : ∀ i, wfr i = true → V2 167 i = V 167 i) (hw : WFa V P N g) : WFa V2 P N g := by
  obtain ⟨⟨a1, a2, a3, a4, a5, a6⟩, ⟨n, b1, b2⟩, c1, c2, c3, c4, c5, c6, c7⟩ := hw
  refine ⟨⟨by rw [n6]; exact a1, by rw [n7]; exact a2, by rw [h _ (by decide)]; exact a3, a4, a5, a6⟩, ⟨n, b1, by rw [h _ (by decide)]; exact b2⟩, fun p hp => ?_, fun p hp => ?_, fun k hk => ?_, fun t ht => ?_, fun t ht => ?_, fun t ht ht2 => ?_, fun hp => ?_⟩
  · rw [h _ (by simp [wfr]; omega)]; exact c1 p hp
  · rw [h _ (by simp [wfr]; omega)]; exact c2 p hp
  · rw [h _ (by simp [wfr]; omega)]; exact c3 k hk
  · rw [h _ (by simp [wfr]; omega)]; exact c4 t ht
  · rw [h _ (by simp [wfr]; omega)]; exact c5 t ht
  · rw [h _ (by simp [wfr]; omega)]; exact c6 t ht ht2
  · rw [h 83 (by decide)]; exact c7 hp
theorem WFb_congr2 {V V2 : Mem} {P N g : Nat} (hP : P ≤ 10) (hN : N ≤ 14) (hg : g ≤ 14) (h : ∀ i, wfr i = true → V2 167 i = V 167 i) (hw : WFb V P N g) : WFb V2 P N g := by
  obtain ⟨b1, b2, b3, b4, b5, b6, b7⟩ := hw
  refine ⟨fun t ht hd => ?_, fun p q hp hq e => ?_, fun p k hp hk => ?_, fun j k hj hk => ?_, fun p t hp ht => ?_, fun k t hk ht => ?_, ?_⟩
  · rw [h _ (by simp [wfr]; omega)] at hd
    rcases b1 t ht hd with ⟨p, hp, e⟩ | ⟨k, hk, e⟩
    · exact Or.inl ⟨p, hp, by rw [h _ (by simp [wfr]; omega)]; exact e⟩
    · exact Or.inr ⟨k, hk, by rw [h _ (by simp [wfr]; omega)]; exact e⟩
  · rw [h _ (by simp [wfr]; omega), h _ (by simp [wfr]; omega)] at e
    rw [h _ (by simp [wfr]; omega)]
    exact b2 p q hp hq e
  · rw [h _ (by simp [wfr]; omega), h _ (by simp [wfr]; omega)]; exact b3 p k hp hk
  · rw [h _ (by simp [wfr]; omega), h _ (by simp [wfr]; omega)]; exact b4 j k hj hk
  · rw [h _ (by simp [wfr]; omega), h _ (by simp [wfr]; omega)]; exact b5 p t hp ht
  · rw [h _ (by simp [wfr]; omega), h _ (by simp [wfr]; omega)]; exact b6 k t hk ht
  · rw [cnt_congr (g := fun p => decide (V 167 (73 + p) ≠ 0)) (fun k hk => by rw [h _ (by simp [wfr]; omega)]), cnt_congr (n := N) (g := fun t => decide (V 167 (49 + t) = 1)) (fun k hk => by rw [h _ (by simp [wfr]; omega)])]
    exact b7
theorem WFz_congr2 {V V2 : Mem} {P : Nat} (hP : P ≤ 10) (h : ∀ i, wfr i = true → V2 167 i = V 167 i) (hw : WFz V P) : WFz V2 P := fun p hp e => by
  rw [h _ (by decide)]
  rw [h _ (by simp [wfr]; omega)] at e
  exact hw p hp e
theorem VA.wf {V V2 : Mem} (h : VA V V2) : ∀ i, wfr i = true → V2 167 i = V 167 i := fun i hi => h.r (by simp [wfr] at hi; omega)
theorem WFa_congr {V V2 : Mem} {P N g : Nat} (h : VA V V2) (hw : WFa V P N g) : WFa V2 P N g := WFa_congr2 (h.n (by decide)) (h.n (by decide)) h.wf hw
theorem WFb_congr {V V2 : Mem} {P N g : Nat} (hP : P ≤ 10) (hN : N ≤ 14) (hg : g ≤ 14) (h : VA V V2) (hw : WFb V P N g) : WFb V2 P N g := WFb_congr2 hP hN hg h.wf hw
theorem WFp_congr {V V2 : Mem} {P N : Nat} (h : VL V V2) (hw : WFp V P N) : WFp V2 P N := by
  obtain ⟨n, h1, h2, h3⟩ := hw
  refine ⟨n, h1, by rw [h.m (by decide)]; exact h2, fun l hl => ?_⟩
  obtain ⟨w, a, e1, e2, e3, e4, e5⟩ := h3 l hl
  refine ⟨w, a, e1, by rw [h 183 _ (by simp [vl, vr]; omega)]; exact e2, by rw [h 183 _ (by simp [vl, vr]; omega)]; exact e3, e4, fun hw3 => ?_⟩
  rw [h 183 _ (by simp [vl, vr]; omega)]
  exact e5 hw3
theorem WFl_congr {V V2 : Mem} (h : VL V V2) (hw : WFl V) : WFl V2 := by
  obtain ⟨n, h1, h2, h3⟩ := hw
  refine ⟨n, h1, by rw [h 174 0 rfl]; exact h2, fun l hl => ?_⟩
  obtain ⟨e0, a, b, c, e1, e2, e3, e4, e5, e6, e7, e8⟩ := h3 l hl
  have r1 : ∀ c, (c = 175 ∨ c = 176 ∨ c = 177 ∨ c = 178) → V2 c l = V c l := fun c hc => h c l (by rcases hc with rfl | rfl | rfl | rfl <;> simp [vl, vr] <;> omega)
  have r2 : ∀ j, j < 400 → V2 179 j = V 179 j ∧ V2 180 j = V 180 j := fun j hj => ⟨h 179 j (by simp [vl, vr, hj]), h 180 j (by simp [vl, vr, hj])⟩
  refine ⟨by rw [r1 175 (by decide)]; exact e0, a, b, c, e1, e2, e3, by rw [r1 176 (by decide)]; exact e4, by rw [r1 177 (by decide)]; exact e5, by rw [r1 178 (by decide)]; exact e6, ?_, fun hbc => ?_⟩
  · rw [kRun_congr (fun j hj => r2 j (by omega))]; exact e7
  · rw [kRun_congr (fun j hj => r2 j (by omega))]; exact e8 hbc
theorem WFt_congr {V V2 : Mem} (h : VL V V2) (hw : WFt V) : WFt V2 := by
  obtain ⟨n, h1, h2, h3⟩ := hw
  refine ⟨n, h1, by rw [h.m (by decide)]; exact h2, fun l hl => ?_⟩
  rw [h 184 _ (by simp [vl, vr]; omega), h 184 (2 * l + 1) (by simp [vl, vr]; omega)]
  exact h3 l hl
theorem WFy_congr {V V2 : Mem} (h : VL V V2) (hw : WFy V) : WFy V2 := by
  obtain ⟨n, h1, h2, h3⟩ := hw
  refine ⟨n, h1, by rw [h.m (by decide)]; exact h2, fun l hl => ?_⟩
  rw [h 187 _ (by simp [vl, vr]; omega), h 188 _ (by simp [vl, vr]; omega)]
  exact h3 l hl
theorem WFw_congr {V V2 : Mem} (h : VA V V2) (hw : WFw V) : WFw V2 := by
  obtain ⟨P, N, g, ha, hb, hz⟩ := hw
  exact ⟨P, N, g, WFa_congr h ha, WFb_congr ha.1.2.2.2.1 ha.1.2.2.2.2.1 ha.1.2.2.2.2.2 h hb, WFz_congr2 ha.1.2.2.2.1 h.wf hz⟩
theorem VW_congr {V V2 : Mem} (h : VA V V2) (hw : VW V) : VW V2 := by
  obtain ⟨⟨P, N, g, ha, hb, hp, hz⟩, hl, ⟨n, s1, s2⟩, ht, hy⟩ := hw
  exact ⟨⟨P, N, g, WFa_congr h ha, WFb_congr ha.1.2.2.2.1 ha.1.2.2.2.2.1 ha.1.2.2.2.2.2 h hb, WFp_congr h.L hp, WFz_congr2 ha.1.2.2.2.1 h.wf hz⟩, WFl_congr h.L hl, ⟨n, s1, by rw [h.n (by decide)]; exact s2⟩, WFt_congr h.L ht, WFy_congr h.L hy⟩
/-- places of a Desert at cell d of the class that count, by the distance -/
def wr (d i : Nat) : Bool := if d = 0 then decide (9 ≤ i) else decide (d ≤ 8)
theorem CW_congr {w : Nat} {V V2 M M2 : Mem} (h : VA V V2) (hm : ∀ d i, wr d i = true → M2 (w + d) i = M (w + d) i) (hc : CW w V M) : CW w V2 M2 := by
  obtain ⟨⟨a1, a2, a3, a4, a5, a6, a7, a8, a9, a10⟩, ht, hp⟩ := hc
  have m0 : ∀ i, 9 ≤ i → M2 w i = M w i := fun i hi => hm 0 i (by simp [wr, hi])
  have m1 : ∀ d i, d ≤ 8 → 0 < d → M2 (w + d) i = M (w + d) i := fun d i hd h0 => hm d i (by simp [wr, hd]; omega)
  refine ⟨⟨?_, ?_, ?_, ?_, ?_, ?_, ?_, ?_, ?_, ?_⟩, fun t ht2 => ?_, fun p hp2 => ?_⟩
  · rw [m0 10 (by decide), h.n (by decide)]; exact a1
  · rw [m0 11 (by decide), h.n (by decide)]; exact a2
  · rw [m0 15 (by decide), h.r (by decide)]; exact a3
  · rw [m0 17 (by decide), h.r (by decide)]; exact a4
  · rw [m0 18 (by decide), h.r (by decide)]; exact a5
  · rw [m0 13 (by decide), h.r (by decide)]; exact a6
  · rw [m0 16 (by decide), h.r (by decide)]; exact a7
  · rw [m0 14 (by decide), h.r (by decide)]; exact a8
  · rw [m0 9 (by decide), h.r (by decide)]; exact a9
  · rw [m0 12 (by decide), dset_congr (g := fun t => V 167 (49 + t)) (fun k hk => h.r (by omega))]; exact a10
  · rw [m1 4 t (by decide) (by decide), m1 5 t (by decide) (by decide), m1 6 t (by decide) (by decide), m1 7 t (by decide) (by decide), m1 8 t (by decide) (by decide), h.r (by omega), h.r (i := 21 + t) (by omega), h.r (i := 35 + t) (by omega), h.r (i := 93 + t) (by omega), h 170 t (by simp [vr, ht2])]
    exact ht t ht2
  · rw [m1 1 p (by decide) (by decide), m1 2 p (by decide) (by decide), m1 3 p (by decide) (by decide), h.r (by omega), h.r (i := 73 + p) (by omega), h.r (i := 83 + p) (by omega)]
    exact hp p hp2
/-- places of the rest of a Desert (law, sky, plan, tenets, yard, the book) that count, by the distance from it -/
def dr (d i : Nat) : Bool :=
  if d = 10 then decide (i < 600)
  else if d = 11 then i == 7
  else if d = 12 then decide (i < 400)
  else if d = 13 ∨ d = 14 ∨ d = 15 ∨ d = 16 then decide (i < 16)
  else if d = 18 ∨ d = 26 then i == 2
  else if d = 21 then i == 4
  else if d = 29 then i == 3
  else if d = 19 ∨ d = 20 ∨ d = 22 ∨ d = 23 ∨ d = 24 ∨ d = 25 ∨ d = 27 ∨ d = 28 then decide (i < 16)
  else if d = 30 ∨ d = 31 then decide (i < 7)
  else false
theorem CL_congr {d : Nat} {V V2 M M2 : Mem} (h : VL V V2) (hm : ∀ e i, dr e i = true → 11 ≤ e → M2 (d + e) i = M (d + e) i) (hc : CL (d + 11) V M) : CL (d + 11) V2 M2 := by
  obtain ⟨h1, h2⟩ := hc
  refine ⟨by rw [hm 11 7 rfl (by decide), h 174 0 rfl]; exact h1, fun l hl hl2 => ?_⟩
  rw [h 174 0 rfl] at hl2
  obtain ⟨e1, e2, e3, e4, e5⟩ := h2 l hl hl2
  have r1 : ∀ c, (c = 175 ∨ c = 176 ∨ c = 177 ∨ c = 178) → V2 c l = V c l := fun c hc => h c l (by rcases hc with rfl | rfl | rfl | rfl <;> simp [vl, vr] <;> omega)
  have r3 : ∀ e, (e = 13 ∨ e = 14 ∨ e = 15 ∨ e = 16) → M2 (d + e) l = M (d + e) l := fun e he => hm e l (by rcases he with rfl | rfl | rfl | rfl <;> simp [dr] <;> omega) (by omega)
  refine ⟨?_, ?_, ?_, ?_, fun i hi ha hb => ?_⟩
  · show M2 (d + 13) l = _; rw [r3 13 (by decide), r1 175 (by decide)]; exact e1
  · show M2 (d + 14) l = _; rw [r3 14 (by decide), r1 176 (by decide)]; exact e2
  · show M2 (d + 15) l = _; rw [r3 15 (by decide), r1 177 (by decide)]; exact e3
  · show M2 (d + 16) l = _; rw [r3 16 (by decide), r1 178 (by decide)]; exact e4
  · rw [r1 176 (by decide)] at ha
    rw [r1 178 (by decide)] at hb
    show cRel (M2 (d + 12) i) _ _
    rw [hm 12 i (by simp [dr, hi]) (by decide), h 179 i (by simp [vl, vr, hi]), h 180 i (by simp [vl, vr, hi])]
    exact e5 i hi ha hb
theorem CS_congr {d : Nat} {V V2 M M2 : Mem} (h : VL V V2) (hm : ∀ e i, dr e i = true → 11 ≤ e → M2 (d + e) i = M (d + e) i) (hc : CS (d + 18) V M) : CS (d + 18) V2 M2 := by
  obtain ⟨h1, h2⟩ := hc
  refine ⟨by rw [hm 18 2 rfl (by decide), h.m (by decide)]; exact h1, fun l hl hl2 => ?_⟩
  rw [h.m (by decide)] at hl2
  have := h2 l hl hl2
  show M2 (d + 19) l = _ ∧ M2 (d + 20) l = _
  rw [hm 19 l (by simp [dr, hl]) (by decide), hm 20 l (by simp [dr, hl]) (by decide), h 182 _ (by simp [vl, vr]; omega), h 182 (2 * l + 1) (by simp [vl, vr]; omega)]
  exact this
theorem CT_congr {d : Nat} {V V2 M M2 : Mem} (h : VL V V2) (hm : ∀ e i, dr e i = true → 11 ≤ e → M2 (d + e) i = M (d + e) i) (hc : CT (d + 26) V M) : CT (d + 26) V2 M2 := by
  obtain ⟨h1, h2⟩ := hc
  refine ⟨by rw [hm 26 2 rfl (by decide), h.m (by decide)]; exact h1, fun l hl hl2 => ?_⟩
  rw [h.m (by decide)] at hl2
  have := h2 l hl hl2
  show M2 (d + 27) l = _ ∧ M2 (d + 28) l = _
  rw [hm 27 l (by simp [dr, hl]) (by decide), hm 28 l (by simp [dr, hl]) (by decide), h 184 _ (by simp [vl, vr]; omega), h 184 (2 * l + 1) (by simp [vl, vr]; omega)]
  exact this
theorem CY_congr {d : Nat} {V V2 M M2 : Mem} (h : VL V V2) (hm : ∀ e i, dr e i = true → 11 ≤ e → M2 (d + e) i = M (d + e) i) (hc : CY (d + 29) V M) : CY (d + 29) V2 M2 := by
  obtain ⟨h1, h2⟩ := hc
  refine ⟨by rw [hm 29 3 rfl (by decide), h.m (by decide)]; exact h1, fun l hl hl2 => ?_⟩
  rw [h.m (by decide)] at hl2
  have := h2 l hl hl2
  show M2 (d + 30) l = _ ∧ M2 (d + 31) l = _
  rw [hm 30 l (by simp [dr, hl]) (by decide), hm 31 l (by simp [dr, hl]) (by decide), h 187 _ (by simp [vl, vr, hl]), h 188 _ (by simp [vl, vr, hl])]
  exact this
theorem CP_congr {d : Nat} {V V2 M M2 : Mem} (h : VL V V2) (hm : ∀ e i, dr e i = true → 11 ≤ e → M2 (d + e) i = M (d + e) i) (hc : CP (d + 21) V M) : CP (d + 21) V2 M2 := by
  obtain ⟨h1, h2⟩ := hc
  refine ⟨by rw [hm 21 4 rfl (by decide), h.m (by decide)]; exact h1, fun l hl hl2 => ?_⟩
  rw [h.m (by decide)] at hl2
  have := h2 l hl hl2
  have r : ∀ j, j < 4 → V2 183 (4 * l + j) = V 183 (4 * l + j) := fun j hj => h 183 _ (by simp [vl, vr]; omega)
  have r0 : V2 183 (4 * l) = V 183 (4 * l) := r 0 (by decide)
  show M2 (d + 22) l = _ ∧ M2 (d + 23) l = _ ∧ (_ → M2 (d + 25) l = _) ∧ (_ → M2 (d + 24) l = _) ∧ (_ → M2 (d + 25) l = _)
  rw [hm 22 l (by simp [dr, hl]) (by decide), hm 23 l (by simp [dr, hl]) (by decide), hm 24 l (by simp [dr, hl]) (by decide), hm 25 l (by simp [dr, hl]) (by decide), r0, r 1 (by decide), r 2 (by decide), r 3 (by decide)]
  exact this
theorem DR_congr {d : Nat} {V V2 M M2 : Mem} (h : VA V V2) (hw : ∀ e i, wr e i = true → M2 (d + 1 + e) i = M (d + 1 + e) i) (hm : ∀ e i, dr e i = true → M2 (d + e) i = M (d + e) i) (hc : DR d V M) : DR d V2 M2 := by
  obtain ⟨c1, c2, c3, c4, c5, c6, c7⟩ := hc
  refine ⟨CW_congr h hw c1, CL_congr h.L (fun e i h1 _ => hm e i h1) c2, CS_congr h.L (fun e i h1 _ => hm e i h1) c3, CP_congr h.L (fun e i h1 _ => hm e i h1) c4, CT_congr h.L (fun e i h1 _ => hm e i h1) c5, CY_congr h.L (fun e i h1 _ => hm e i h1) c6, fun i hi => ?_⟩
  rw [hm 10 i (by simp [dr, hi]), h 171 i (by simp [vr, hi])]
  exact c7 i hi
/-- places that do not count: what a step may change freely -/
def sc (c i : Nat) : Bool :=
  if c = 0 then !(i == 7 || i == 8)
  else if 2 ≤ c ∧ c ≤ 10 then (c == 2 && decide (i < 9))
  else if c ≤ 33 then !(dr (c - 1) i)
  else if 35 ≤ c ∧ c ≤ 43 then (c == 35 && decide (i < 9))
  else if c ≤ 66 then !(dr (c - 34) i)
  else if c ≤ 76 then true
  else if c = 77 then !(i == 1)
  else if c ≤ 138 then false
  else if c = 139 then !(i == 10 || i == 11)
  else if c ≤ 164 then true
  else if c = 165 then false
  else if c = 166 then !(i == 3 || i == 5 || i == 6 || i == 7 || i == 11 || i == 31 || i == 32 || i == 33 || i == 35 || i == 37 || i == 41 || i == 47)
  else if c = 168 ∨ c = 172 ∨ c = 173 ∨ c = 191 then false
  else !(vr c i)
def SA (M M2 : Mem) : Prop := ∀ c i, sc c i = false → M2 c i = M c i
theorem SA.refl (M : Mem) : SA M M := fun _ _ _ => rfl
theorem SA.trans {M M2 M3 : Mem} (h : SA M M2) (h2 : SA M2 M3) : SA M M3 := fun c i e => (h2 c i e).trans (h c i e)
theorem SA.up {M M2 : Mem} (h : SA M M2) {c i : Nat} (v : Int32) (hs : sc c i = true) : SA M (xu M2 c i v) := fun a j e => by
  rw [xu_ne M2 v (fun q => by rw [q.1, q.2, hs] at e; cases e)]
  exact h a j e
theorem vr_ge {c i : Nat} (hv : vr c i = true) : c = 166 ∨ (167 ≤ c ∧ c ≤ 188 ∧ c ≠ 168 ∧ c ≠ 172 ∧ c ≠ 173) := by
  unfold vr at hv
  repeat' split at hv
  all_goals first | omega | cases hv
theorem SA.VA {M M2 : Mem} (h : SA M M2) : VA M M2 := by
  intro c i hv
  apply h
  rcases vr_ge hv with rfl | ⟨h1, h2, h3, h4, h5⟩
  · simp [vr] at hv
    simp [sc]
    omega
  · unfold sc
    rw [if_neg (by omega), if_neg (by omega), if_neg (by omega), if_neg (by omega), if_neg (by omega), if_neg (by omega), if_neg (by omega), if_neg (by omega), if_neg (by omega), if_neg (by omega), if_neg (by omega), if_neg (by omega), if_neg (by omega), hv]
    rfl
theorem dr_le {e i : Nat} (h : dr e i = true) : 10 ≤ e ∧ e ≤ 31 := by
  unfold dr at h
  repeat' split at h
  all_goals first | omega | cases h
theorem sc_w {d e i : Nat} (hd : d = 1 ∨ d = 34) (h : wr e i = true) : sc (d + 1 + e) i = false := by
  unfold wr at h
  split at h
  · next e0 =>
    subst e0
    have h9 : 9 ≤ i := of_decide_eq_true h
    have : ¬ i < 9 := by omega
    rcases hd with rfl | rfl <;> simp [sc, this]
  · next e0 =>
    have h8 : e ≤ 8 := of_decide_eq_true h
    rcases hd with rfl | rfl
    · unfold sc
      rw [if_neg (by omega), if_pos (by omega)]
      simp
      omega
    · unfold sc
      rw [if_neg (by omega), if_neg (by omega), if_neg (by omega), if_pos (by omega)]
      simp
      omega
theorem sc_d {d e i : Nat} (hd : d = 1 ∨ d = 34) (h : dr e i = true) : sc (d + e) i = false := by
  obtain ⟨h1, h2⟩ := dr_le h
  rcases hd with rfl | rfl
  · unfold sc
    rw [if_neg (by omega), if_neg (by omega), if_pos (by omega), show 1 + e - 1 = e by omega, h]
    rfl
  · unfold sc
    rw [if_neg (by omega), if_neg (by omega), if_neg (by omega), if_neg (by omega), if_pos (by omega), show 34 + e - 34 = e by omega, h]
    rfl
theorem sc_k {c i : Nat} (h1 : 78 ≤ c) (h2 : c ≤ 138) : sc c i = false := by
  unfold sc
  rw [if_neg (by omega), if_neg (by omega), if_neg (by omega), if_neg (by omega), if_neg (by omega), if_neg (by omega), if_neg (by omega), if_pos (by omega)]
theorem IP_congr {M M2 : Mem} (h : SA M M2) (hP : IP M) : IP M2 := by
  obtain ⟨n, h1, h2, h3, σ, h4, h5, h6⟩ := hP
  refine ⟨n, h1, by rw [h 166 3 rfl]; exact h2, by rw [h 77 1 rfl]; exact h3, σ, fun k hk => ⟨(h4 k hk).1, by rw [h 78 k (sc_k (by decide) (by decide))]; exact (h4 k hk).2⟩, h5, fun k hk => ?_⟩
  have hr : VA (rowV k M) (rowV k M2) := by
    intro c i hv
    unfold rowV
    split
    · exact h 168 _ rfl
    · exact h.VA c i hv
  obtain ⟨w1, w2⟩ := h6 k hk
  refine ⟨WFw_congr hr w1, CW_congr hr (fun d i hd => h _ _ (sc_k (by omega) ?_)) w2⟩
  have := (h4 k (by omega)).1
  unfold wr at hd
  split at hd
  · omega
  · have := of_decide_eq_true hd
    omega
theorem II_congr {M M2 : Mem} (h : SA M M2) (hi : II M) : II M2 := by
  obtain ⟨h1, h2⟩ := hi
  have e1 : M2 0 8 = M 0 8 := h 0 8 rfl
  have e2 : M2 166 47 = M 166 47 := h 166 47 rfl
  have e3 : imgV M2 = imgV M := by
    funext c i
    have r : ∀ j, M2 191 j = M 191 j := fun j => h 191 j rfl
    simp only [imgV, r]
  refine ⟨by rw [e1, e2]; exact h1, ?_⟩
  rw [e1, e3]
  rcases h2 with h2 | ⟨h2, h3, h4⟩
  · exact Or.inl h2
  · exact Or.inr ⟨h2, h3, DR_congr (fun _ _ _ => rfl) (fun e i he => h _ _ (sc_w (Or.inr rfl) he)) (fun e i he => h _ _ (sc_d (Or.inr rfl) he)) h4⟩
theorem Inv_congr {M M2 : Mem} (h : SA M M2) (hI : Inv M) : Inv M2 := by
  obtain ⟨hV, hD, hP, ⟨⟨n, t1, t2, t3, t4⟩, t5, t6⟩, ⟨x1, x2⟩, hi⟩ := hI
  have hVA := h.VA
  refine ⟨VW_congr hVA hV, DR_congr hVA (fun e i he => h _ _ (sc_w (Or.inl rfl) he)) (fun e i he => h _ _ (sc_d (Or.inl rfl) he)) hD, IP_congr h hP, ⟨⟨n, t1, by rw [h 0 7 rfl]; exact t2, by rw [h 166 11 rfl]; exact t3, fun i hi => ?_⟩, by rw [h 139 10 rfl, h 166 31 rfl]; exact t5, by rw [h 139 11 rfl, h 166 32 rfl]; exact t6⟩, ⟨fun i hi => by rw [h 173 i rfl]; exact x1 i hi, by rw [h 166 5 rfl]; exact x2⟩, II_congr h hi⟩
  rw [h 172 i rfl, h 165 i rfl]
  exact t4 i hi
theorem Inv_told {M : Mem} (h : Inv M) (v : Int32) : Inv (xu M 166 0 v) := Inv_congr ((SA.refl M).up v rfl) h
/-- the places of the world that is now, and of the past -/
def sw (c i : Nat) : Bool := (decide (2 ≤ c) && decide (c ≤ 11)) || (decide (77 ≤ c) && decide (c ≤ 138)) || (c == 166 && (i == 3 || i == 6 || i == 7)) || c == 167 || c == 168 || c == 170 || c == 171
theorem sc_vl {c i : Nat} (hv : vl c i = true) : sc c i = false ∧ sw c i = false := by
  have hv1 : vr c i = true := by simp [vl] at hv; exact hv.1
  have hv2 := hv
  simp [vl] at hv2
  constructor
  · rcases vr_ge hv1 with rfl | ⟨h1, h2, h3, h4, h5⟩
    · simp [vr] at hv1
      simp [sc]
      omega
    · unfold sc
      rw [if_neg (by omega), if_neg (by omega), if_neg (by omega), if_neg (by omega), if_neg (by omega), if_neg (by omega), if_neg (by omega), if_neg (by omega), if_neg (by omega), if_neg (by omega), if_neg (by omega), if_neg (by omega), if_neg (by omega), hv1]
      rfl
  · rcases vr_ge hv1 with rfl | ⟨h1, h2, h3, h4, h5⟩
    · simp [vr] at hv1
      simp [sw]
      omega
    · simp [sw]
      omega
/-- a step on the world that is now: the rest as it was -/
theorem Inv_world {M M2 : Mem} (hI : Inv M) (hs : ∀ c i, sc c i = false → sw c i = false → M2 c i = M c i) (hV : ∃ P N g : Nat, WFa M2 P N g ∧ WFb M2 P N g ∧ WFp M2 P N ∧ WFz M2 P) (hc : CW 2 M2 M2) (hb : ∀ i, i < 600 → M2 11 i = M2 171 i) (hP : IP M2) : Inv M2 := by
  obtain ⟨⟨-, v1, ⟨n0, v2, v3⟩, v4, v5⟩, ⟨-, c2, c3, c4, c5, c6, -⟩, -, ⟨⟨n, t1, t2, t3, t4⟩, t5, t6⟩, ⟨x1, x2⟩, i1, i2⟩ := hI
  have hL : VL M M2 := fun c i e => hs c i (sc_vl e).1 (sc_vl e).2
  have hm : ∀ e i, dr e i = true → 11 ≤ e → M2 (1 + e) i = M (1 + e) i := fun e i h he => hs _ _ (sc_d (Or.inl rfl) h) (by have := dr_le h; simp [sw]; omega)
  have c2' := CL_congr (d := 1) hL hm c2
  have c3' := CS_congr (d := 1) hL hm c3
  have c4' := CP_congr (d := 1) hL hm c4
  have c5' := CT_congr (d := 1) hL hm c5
  have c6' := CY_congr (d := 1) hL hm c6
  have e1 : M2 0 8 = M 0 8 := hs 0 8 rfl rfl
  have e3 : imgV M2 = imgV M := by
    funext c i
    have r : ∀ j, M2 191 j = M 191 j := fun j => hs 191 j rfl rfl
    simp only [imgV, r]
  refine ⟨⟨hV, WFl_congr hL v1, ⟨n0, v2, by rw [hL.m (by decide)]; exact v3⟩, WFt_congr hL v4, WFy_congr hL v5⟩, ⟨hc, c2', c3', c4', c5', c6', hb⟩, hP, ⟨⟨n, t1, by rw [hs 0 7 rfl rfl]; exact t2, by rw [hs 166 11 rfl rfl]; exact t3, fun i hi => ?_⟩, by rw [hs 139 10 rfl rfl, hs 166 31 rfl rfl]; exact t5, by rw [hs 139 11 rfl rfl, hs 166 32 rfl rfl]; exact t6⟩, ⟨fun i hi => by rw [hs 173 i rfl rfl]; exact x1 i hi, by rw [hs 166 5 rfl rfl]; exact x2⟩, by rw [e1, hs 166 47 rfl rfl]; exact i1, ?_⟩
  · rw [hs 172 i rfl rfl, hs 165 i rfl rfl]
    exact t4 i hi
  · rw [e1, e3]
    rcases i2 with i2 | ⟨i2, i3, i4⟩
    · exact Or.inl i2
    · refine Or.inr ⟨i2, i3, DR_congr (fun _ _ _ => rfl) (fun e i he => hs _ _ (sc_w (Or.inr rfl) he) ?_) (fun e i he => hs _ _ (sc_d (Or.inr rfl) he) ?_) i4⟩
      · unfold wr at he
        split at he
        · simp [sw]; omega
        · have := of_decide_eq_true he
          simp [sw]; omega
      · have := dr_le he
        simp [sw]; omega
/-- the past forgotten -/
theorem IP_none {M M2 : Mem} (hP : IP M) (h1 : M2 166 3 = 0) (h2 : M2 77 1 = 0) (h3 : ∀ k, k < 6 → M2 78 k = M 78 k) : IP M2 := by
  obtain ⟨n, -, -, -, σ, h4, h5, -⟩ := hP
  exact ⟨0, by omega, h1, h2, σ, fun k hk => ⟨(h4 k hk).1, by rw [h3 k hk]; exact (h4 k hk).2⟩, h5, fun k hk => by omega⟩
