/-! image -/
theorem vr_loc {c i : Nat} (h : vr c i = true) : locN c i < 1734 := by
  have hb : c = 166 ∨ (167 ≤ c ∧ c ≤ 188) := by rcases vr_ge h with q | q <;> omega
  rcases (show c = 166 ∨ c = 167 ∨ c = 168 ∨ c = 169 ∨ c = 170 ∨ c = 171 ∨ c = 172 ∨ c = 173 ∨ c = 174 ∨ c = 175 ∨ c = 176 ∨ c = 177 ∨ c = 178 ∨ c = 179 ∨ c = 180 ∨ c = 181 ∨ c = 182 ∨ c = 183 ∨ c = 184 ∨ c = 185 ∨ c = 186 ∨ c = 187 ∨ c = 188 by omega) with rfl | rfl | rfl | rfl | rfl | rfl | rfl | rfl | rfl | rfl | rfl | rfl | rfl | rfl | rfl | rfl | rfl | rfl | rfl | rfl | rfl | rfl | rfl
  all_goals simp [vr] at h
  all_goals first | (simp [locN, h]; done) | (simp [locN, h]; omega) | skip
  rcases h with ((((rfl | rfl) | rfl) | rfl) | rfl) | rfl <;> decide
/-- a Desert's picture is a Desert -/
theorem DR_take {V V2 M M2 : Mem} (hV : VA V V2) (q0 : ∀ i, 9 ≤ i → i ≤ 18 → M2 (34 + 1) i = M (1 + 1) i) (q1 : ∀ e i, 1 ≤ e → e ≤ 3 → i < 10 → M2 (34 + 1 + e) i = M (1 + 1 + e) i) (q2 : ∀ e i, 4 ≤ e → e ≤ 8 → i < 14 → M2 (34 + 1 + e) i = M (1 + 1 + e) i) (q3 : ∀ e i, dr e i = true → M2 (34 + e) i = M (1 + e) i) (h : DR 1 V M) : DR 34 V2 M2 := by
  obtain ⟨c1, c2, c3, c4, c5, c6, c7⟩ := h
  have q3' : ∀ e i, dr e i = true → 11 ≤ e → (fun c i => M2 (c + 33) i : Mem) (1 + e) i = M (1 + e) i := fun e i h1 _ => by
    show M2 (1 + e + 33) i = _
    rw [show 1 + e + 33 = 34 + e by omega]; exact q3 e i h1
  refine ⟨CW_congr hV (fun _ _ _ => rfl) (CW_copy (w := 35) (u := 2) q0 q1 q2 c1), ?_, ?_, ?_, ?_, ?_, fun i hi => ?_⟩
  · exact CL_congr (d := 1) (M2 := fun c i => M2 (c + 33) i) hV.L q3' c2
  · exact CS_congr (d := 1) (M2 := fun c i => M2 (c + 33) i) hV.L q3' c3
  · exact CP_congr (d := 1) (M2 := fun c i => M2 (c + 33) i) hV.L q3' c4
  · exact CT_congr (d := 1) (M2 := fun c i => M2 (c + 33) i) hV.L q3' c5
  · exact CY_congr (d := 1) (M2 := fun c i => M2 (c + 33) i) hV.L q3' c6
  · rw [q3 10 i (by simp [dr, hi]), hV 171 i (by simp [vr, hi])]; exact c7 i hi
theorem DR_give {V V2 M M2 : Mem} (hV : VA V V2) (q0 : ∀ i, 9 ≤ i → i ≤ 18 → M2 (1 + 1) i = M (34 + 1) i) (q1 : ∀ e i, 1 ≤ e → e ≤ 3 → i < 10 → M2 (1 + 1 + e) i = M (34 + 1 + e) i) (q2 : ∀ e i, 4 ≤ e → e ≤ 8 → i < 14 → M2 (1 + 1 + e) i = M (34 + 1 + e) i) (q3 : ∀ e i, dr e i = true → M2 (1 + e) i = M (34 + e) i) (h : DR 34 V M) : DR 1 V2 M2 := by
  obtain ⟨c1, c2, c3, c4, c5, c6, c7⟩ := h
  have q3' : ∀ e i, dr e i = true → 11 ≤ e → M2 (1 + e) i = (fun c i => M (c + 33) i : Mem) (1 + e) i := fun e i h1 _ => by
    show _ = M (1 + e + 33) i
    rw [show 1 + e + 33 = 34 + e by omega]; exact q3 e i h1
  refine ⟨CW_congr hV (fun _ _ _ => rfl) (CW_copy (w := 2) (u := 35) q0 q1 q2 c1), ?_, ?_, ?_, ?_, ?_, fun i hi => ?_⟩
  · exact CL_congr (d := 1) (M := fun c i => M (c + 33) i) hV.L q3' c2
  · exact CS_congr (d := 1) (M := fun c i => M (c + 33) i) hV.L q3' c3
  · exact CP_congr (d := 1) (M := fun c i => M (c + 33) i) hV.L q3' c4
  · exact CT_congr (d := 1) (M := fun c i => M (c + 33) i) hV.L q3' c5
  · exact CY_congr (d := 1) (M := fun c i => M (c + 33) i) hV.L q3' c6
  · rw [q3 10 i (by simp [dr, hi]), hV 171 i (by simp [vr, hi])]; exact c7 i hi
theorem sc_166 {c i : Nat} (h : sc c i = false) : ¬ (c = 166 ∧ (i = 0 ∨ i = 46 ∨ i = 48)) ∧ c ≠ 185 ∧ c ≠ 186 := by
  refine ⟨?_, ?_, ?_⟩
  · rintro ⟨rfl, rfl | rfl | rfl⟩ <;> simp [sc] at h
  · rintro rfl; simp [sc, vr] at h
  · rintro rfl; simp [sc, vr] at h
/-- the reference's start of image -/
theorem s12_imgs {Q : Bool → Mem → Prop} {M M1 : Mem} {x : Int32} {tk : Bool} (hx : x = if tk = true then 1 else 0) (hf : ∀ c i, 166 ≤ c → M1 c i = M c i) (h : ∀ M', RV (IMs tk (xu (xu (xu M 166 0 0) 166 46 x) 166 47 1) 1734) M' → LO M1 M' → ((¬ x = 0 → Q true M') ∧ (x = 0 → ∀ M2 : Mem, M2 = xu M' 166 3 0 → Q true M2))) : NX12_image_18 Q 166 x (xu M1 166 0 0) := by
  unfold NX12_image_18
  refine ⟨by cases tk <;> simp [hx], ?_⟩
  rintro M2 rfl M3 rfl M4 rfl
  refine im_now (V := xu (xu (xu M 166 0 0) 166 46 x) 166 47 1) (M0 := M1) (tk := tk) ?_ (fun c i z1 z2 z3 => ?_) ((((LO.refl M1).up (by decide) _ _).up (by decide) _ _).up (by decide) _ _ |>.up (by decide) _ _) h
  · rw [xu_ne _ _ (by omega), xu_same]; exact hx
  · unfold IMs
    rw [xu_if]
    by_cases e : c = 166 ∧ i = 48
    · rw [if_pos e, if_pos e]; rfl
    · rw [if_neg e, if_neg e]
      have e2 : xu (xu (xu M1 166 0 0) 166 46 x) 166 47 1 c i = xu (xu (xu M 166 0 0) 166 46 x) 166 47 1 c i := by
        simp only [xu_if]
        rw [hf c i z1]
      rw [e2]
      cases tk with
      | true => rw [if_pos rfl, if_neg (by omega)]
      | false => rw [if_neg (by decide), if_neg (by omega)]
theorem q_image : lq_image Inv := by
  intro M a ha hI
  have I1 := Inv_told hI 0
  unfold FX11_image
  rcases ha with rfl | rfl
  · refine ⟨fun _ => ⟨fun h8 => ?_, fun h8 => ?_⟩, fun q => absurd rfl q⟩
    · have h8' : ¬ M 0 8 = 0 := h8
      obtain ⟨i1, i2 | ⟨i2, i3, i4⟩⟩ := id hI.2.2.2.2.2
      · exact absurd i2 h8'
      · refine s0_copyFrom (d := 0 + 1) (u := 0 + 34) (Or.inr ⟨rfl, rfl⟩) (fun M1 q0 q1 q2 q3 q5 => ?_)
        unfold FX3_forget
        rintro M2 rfl
        have f2 : ∀ c i, ¬ (2 ≤ c ∧ c ≤ 32) → ¬ (c = 77 ∧ i = 1) → xu M1 77 1 0 c i = M c i := fun c i z1 z2 => by
          rw [xu_ne _ _ z2]; exact q5 c i (by omega)
        unfold FX12_image
        rintro M3 rfl
        have e47 : xu (xu M1 (0 + 77) 1 0) 166 0 0 166 47 = 1 := by
          rw [xu_ne _ _ (by omega), f2 166 47 (by omega) (by omega), ← i1]; exact i2
        rw [e47]
        refine ⟨fun q => absurd rfl q, fun _ => ⟨fun _ => ?_, fun q => absurd q (by decide)⟩⟩
        refine s12_imgs (M := M) (tk := false) rfl (fun c i z => f2 c i (by omega) (by omega)) (fun M4 r4 l4 => ⟨fun q => absurd rfl q, fun _ => ?_⟩)
        rintro M5 rfl
        refine ⟨rfl, ?_⟩
        have l5 : LO (xu M1 77 1 0) (xu M4 166 3 0) := l4.up (by decide) _ _
        -- what the reference holds now
        have rv : ∀ c i, 166 ≤ c → c ≠ 185 → c ≠ 186 → ¬ (c = 166 ∧ (i = 0 ∨ i = 3 ∨ i = 46 ∨ i = 47 ∨ i = 48)) → xu M4 166 3 0 c i = if locN c i < 1734 then M 191 (locN c i) else M c i := by
          intro c i z1 z2 z3 z4
          rw [xu_ne _ _ (by omega), r4 c i z1 z2 z3]
          unfold IMs
          rw [if_neg (by omega), if_neg (by decide)]
          split
          · rw [xu_ne _ _ (by omega), xu_ne _ _ (by omega), xu_ne _ _ (by omega)]
          · rw [xu_ne _ _ (by omega), xu_ne _ _ (by omega), xu_ne _ _ (by omega)]
        have va : VA (imgV M) (xu M4 166 3 0) := fun c i hv => by
          have hl := vr_loc hv
          have hb : c = 166 ∨ (167 ≤ c ∧ c ≤ 188) := by rcases vr_ge hv with q | q <;> omega
          rw [rv c i (by omega) (by rintro rfl; simp [vr] at hv) (by rintro rfl; simp [vr] at hv) (by rintro ⟨rfl, rfl | rfl | rfl | rfl | rfl⟩ <;> simp [vr] at hv), if_pos hl, imgV_loc hv]
        have same : ∀ c i, sc c i = false → locN c i = 9999 → 166 ≤ c → ¬ (c = 166 ∧ (i = 3 ∨ i = 47)) → xu M4 166 3 0 c i = M c i := fun c i h1 h2 h3 h4 => by
          obtain ⟨z1, z2, z3⟩ := sc_166 h1
          rw [rv c i h3 z2 z3 (by omega), h2, if_neg (by omega)]
        have lo : ∀ c i, c < 166 → ¬ (2 ≤ c ∧ c ≤ 32) → ¬ (c = 77 ∧ i = 1) → xu M4 166 3 0 c i = M c i := fun c i z1 z2 z3 => by
          rw [l5 c i z1]; exact f2 c i z2 z3
        have e191 : ∀ j, xu M4 166 3 0 191 j = M 191 j := fun j => same 191 j rfl rfl (by decide) (by omega)
        have eimg : imgV (xu M4 166 3 0) = imgV M := by
          funext c i
          simp only [imgV, e191]
        have e0 : xu M4 166 3 0 166 47 = 1 := by
          rw [xu_ne _ _ (by omega), r4.n 47]
          unfold IMs
          rw [if_neg (by omega), if_neg (by decide), locN_n (by decide), if_neg (by omega), xu_same]
        have cl : ∀ c i, 2 ≤ c → c ≤ 32 → xu M4 166 3 0 c i = M1 c i := fun c i z1 z2 => by
          rw [l5 c i (by omega), xu_ne _ _ (by omega)]
        obtain ⟨hV, hD, hP, ⟨⟨n, t1, t2, t3, t4⟩, t5, t6⟩, ⟨x1, x2⟩, -⟩ := id hI
        refine ⟨VW_congr va i3, ?_, IP_none hP (xu_same _ _ _ _) ?_ (fun k hk => lo 78 k (by decide) (by omega) (by omega)), ⟨⟨n, t1, ?_, ?_, fun i hi => ?_⟩, ?_, ?_⟩, ⟨fun i hi => ?_, ?_⟩, ?_, ?_⟩
        · refine DR_give va (fun i z1 z2 => ?_) (fun e i z1 z2 z3 => ?_) (fun e i z1 z2 z3 => ?_) (fun e i hd => ?_) i4
          · exact (cl 2 i (by decide) (by decide)).trans (q0 i z1 z2)
          · exact (cl _ i (by omega) (by omega)).trans (q1 e i z1 z2 z3)
          · exact (cl _ i (by omega) (by omega)).trans (q2 e i z1 z2 z3)
          · have := dr_le hd
            exact (cl _ i (by omega) (by omega)).trans (q3 e i hd)
        · rw [l5 77 1 (by decide), xu_same]
        · rw [lo 0 7 (by decide) (by omega) (by omega)]; exact t2
        · rw [same 166 11 rfl rfl (by decide) (by omega)]; exact t3
        · rw [same 172 i rfl rfl (by decide) (by omega), lo 165 i (by decide) (by omega) (by omega)]; exact t4 i hi
        · rw [lo 139 10 (by decide) (by omega) (by omega), same 166 31 rfl rfl (by decide) (by omega)]; exact t5
        · rw [lo 139 11 (by decide) (by omega) (by omega), same 166 32 rfl rfl (by decide) (by omega)]; exact t6
        · rw [same 173 i rfl rfl (by decide) (by omega)]; exact x1 i hi
        · rw [same 166 5 rfl rfl (by decide) (by omega)]; exact x2
        · rw [lo 0 8 (by decide) (by omega) (by omega), e0]; exact i2
        · rw [lo 0 8 (by decide) (by omega) (by omega), eimg]
          refine Or.inr ⟨i2, i3, DR_congr (fun _ _ _ => rfl) (fun e i he => lo _ _ ?_ ?_ ?_) (fun e i he => lo _ _ ?_ ?_ ?_) i4⟩
          · simp only [wr] at he; grind
          · omega
          · simp only [wr] at he; grind
          · have := dr_le he; omega
          · omega
          · have := dr_le he; omega
    · unfold FX12_image
      rintro M1 rfl
      have e47 : xu M 166 0 0 166 47 = 0 := by rw [told_ne (by decide), ← hI.2.2.2.2.2.1]; exact h8
      rw [e47]
      exact ⟨fun q => absurd rfl q, fun _ => ⟨fun q => absurd rfl q, fun _ => ⟨rfl, I1⟩⟩⟩
  · refine ⟨fun q => absurd q (by decide), fun _ => s0_copyFrom (d := 0 + 34) (u := 0 + 1) (Or.inl ⟨rfl, rfl⟩) (fun M1 q0 q1 q2 q3 q5 => ?_)⟩
    rintro M2 rfl
    have f2 : ∀ c i, ¬ (35 ≤ c ∧ c ≤ 65) → ¬ (c = 0 ∧ i = 8) → xu M1 0 8 1 c i = M c i := fun c i z1 z2 => by
      rw [xu_ne _ _ z2]; exact q5 c i (by omega)
    unfold FX12_image
    rintro M3 rfl
    refine ⟨fun _ => ?_, fun q => absurd q (by decide)⟩
    refine s12_imgs (M := M) (tk := true) rfl (fun c i z => f2 c i (by omega) (by omega)) (fun M4 r4 l4 => ⟨fun _ => ⟨rfl, ?_⟩, fun q => absurd q (by decide)⟩)
    have l4 : LO (xu M1 0 8 1) M4 := l4
    have rv : ∀ c i, 166 ≤ c → c ≠ 185 → c ≠ 186 → c ≠ 191 → ¬ (c = 166 ∧ (i = 0 ∨ i = 46 ∨ i = 47 ∨ i = 48)) → M4 c i = M c i := by
      intro c i z1 z2 z3 z4 z5
      rw [r4 c i z1 z2 z3]
      unfold IMs
      rw [if_neg (by omega), if_pos rfl, if_neg (by omega), xu_ne _ _ (by omega), xu_ne _ _ (by omega), xu_ne _ _ (by omega)]
    have lo : ∀ c i, c < 166 → ¬ (35 ≤ c ∧ c ≤ 65) → ¬ (c = 0 ∧ i = 8) → M4 c i = M c i := fun c i z1 z2 z3 => by
      rw [l4 c i z1]; exact f2 c i z2 z3
    have same : ∀ c i, sc c i = false → 166 ≤ c → c ≠ 191 → ¬ (c = 166 ∧ i = 47) → M4 c i = M c i := fun c i h1 h2 h3 h4 => by
      obtain ⟨z1, z2, z3⟩ := sc_166 h1
      exact rv c i h2 z2 z3 h3 (by omega)
    have vam : VA M M4 := fun c i hv => by
      have hb : c = 166 ∨ (167 ≤ c ∧ c ≤ 188) := by rcases vr_ge hv with q | q <;> omega
      exact rv c i (by omega) (by rintro rfl; simp [vr] at hv) (by rintro rfl; simp [vr] at hv) (by omega) (by rintro ⟨rfl, rfl | rfl | rfl | rfl⟩ <;> simp [vr] at hv)
    have vai : VA M (imgV M4) := fun c i hv => by
      have hl := vr_loc hv
      have li := loc_inv (c := c) (i := i) (by omega)
      have hb : c = 166 ∨ (167 ≤ c ∧ c ≤ 188) := by rcases vr_ge hv with q | q <;> omega
      rw [imgV_loc hv, r4 191 _ (by decide) (by decide) (by decide)]
      unfold IMs
      rw [if_neg (by omega), if_pos rfl, if_pos ⟨rfl, hl⟩, li.1, li.2, xu_ne _ _ (by rintro ⟨rfl, rfl⟩; simp [vr] at hv), xu_ne _ _ (by rintro ⟨rfl, rfl⟩; simp [vr] at hv), xu_ne _ _ (by rintro ⟨rfl, rfl⟩; simp [vr] at hv)]
    have e8 : M4 0 8 = 1 := by rw [l4 0 8 (by decide), xu_same]
    have e47 : M4 166 47 = 1 := by
      rw [r4.n 47]
      unfold IMs
      rw [if_neg (by omega), if_pos rfl, if_neg (by omega), xu_same]
    have cl : ∀ c i, 35 ≤ c → c ≤ 65 → M4 c i = M1 c i := fun c i z1 z2 => by
      rw [l4 c i (by omega), xu_ne _ _ (by omega)]
    obtain ⟨hV, hD, hP, ⟨⟨n, t1, t2, t3, t4⟩, t5, t6⟩, ⟨x1, x2⟩, -⟩ := id hI
    refine ⟨VW_congr vam hV, DR_congr vam (fun e i he => lo _ _ ?_ ?_ ?_) (fun e i he => lo _ _ ?_ ?_ ?_) hD, IP_congr2 vam (same 166 3 rfl (by decide) (by decide) (by omega)) (lo 77 1 (by decide) (by omega) (by omega)) (fun c i z1 z2 => lo c i (by omega) (by omega) (by omega)) (fun i => same 168 i rfl (by decide) (by decide) (by omega)) hP, ⟨⟨n, t1, ?_, ?_, fun i hi => ?_⟩, ?_, ?_⟩, ⟨fun i hi => ?_, ?_⟩, by rw [e8, e47], Or.inr ⟨e8, VW_congr vai hV, ?_⟩⟩
    · simp only [wr] at he; grind
    · simp only [wr] at he; grind
    · omega
    · have := dr_le he; omega
    · have := dr_le he; omega
    · omega
    · rw [lo 0 7 (by decide) (by omega) (by omega)]; exact t2
    · rw [same 166 11 rfl (by decide) (by decide) (by omega)]; exact t3
    · rw [same 172 i rfl (by decide) (by decide) (by omega), lo 165 i (by decide) (by omega) (by omega)]; exact t4 i hi
    · rw [lo 139 10 (by decide) (by omega) (by omega), same 166 31 rfl (by decide) (by decide) (by omega)]; exact t5
    · rw [lo 139 11 (by decide) (by omega) (by omega), same 166 32 rfl (by decide) (by decide) (by omega)]; exact t6
    · rw [same 173 i rfl (by decide) (by decide) (by omega)]; exact x1 i hi
    · rw [same 166 5 rfl (by decide) (by decide) (by omega)]; exact x2
    · refine DR_take vai (fun i z1 z2 => ?_) (fun e i z1 z2 z3 => ?_) (fun e i z1 z2 z3 => ?_) (fun e i hd => ?_) hD
      · exact (cl 35 i (by decide) (by decide)).trans (q0 i z1 z2)
      · exact (cl _ i (by omega) (by omega)).trans (q1 e i z1 z2 z3)
      · exact (cl _ i (by omega) (by omega)).trans (q2 e i z1 z2 z3)
      · have := dr_le hd
        exact (cl _ i (by omega) (by omega)).trans (q3 e i hd)
