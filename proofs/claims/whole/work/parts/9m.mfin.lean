/-! the reference's house behind each statement -/
section MFin
variable {τ : mm_Mem} {r : Nat → Int} {n bi : Nat} {a : Nat} {β : mm_Mem} {cd cd' : List Int}
theorem sH.cb {β' τ' : mm_Mem} (h : sH bi β τ) (e0 : ∀ i, 3 ≤ i → i ≤ 12 → β' 0 i = β 0 i) (e : ∀ o, 142 ≤ o → o ≤ 164 → τ' o = τ o) : sH bi β' τ' := by
  obtain ⟨h1, h2, h3, h4, h5, h6, h7, h8⟩ := h
  refine ⟨?_, ?_, ?_, ?_, ?_, fun j hj => ?_, ?_, ?_⟩
  · rw [e 142 (by omega) (by omega), e0 3 (by omega) (by omega)]; exact h1
  · rw [e 143 (by omega) (by omega), e0 4 (by omega) (by omega)]; exact h2
  · rw [e 144 (by omega) (by omega), e0 5 (by omega) (by omega)]; exact h3
  · rw [e 152 (by omega) (by omega), e0 6 (by omega) (by omega)]; exact h4
  · rw [e 157 (by omega) (by omega), e0 7 (by omega) (by omega)]; exact h5
  · rw [e 148 (by omega) (by omega), e0 _ (by omega) (by omega)]; exact h6 j hj
  · rw [e 163 (by omega) (by omega), e0 11 (by omega) (by omega)]; exact h7
  · rw [e 164 (by omega) (by omega), e0 12 (by omega) (by omega)]; exact h8
theorem wo_finM {τ' : mm_Mem} {x y : Int} (B : HbM bi β τ) (e : ∀ o, 142 ≤ o → o ≤ 162 → τ' o = τ o) (e1 : τ' 163 bi = x) (e2 : τ' 164 bi = y) : HbM bi (woE β x y) τ' := by
  obtain ⟨⟨h1, h2, h3, h4, h5, h6, h7, h8⟩, N, D, P, T, R⟩ := B
  have G : ∀ o, o ≠ 0 → woE β x y o = β o := fun o h => by unfold woE; rw [wr_obj h, wr_obj h]
  have G0 : ∀ i, i ≠ 11 → i ≠ 12 → woE β x y 0 i = β 0 i := fun i h1 h2 => by unfold woE; rw [wr_row h2, wr_row h1]
  refine ⟨⟨?_, ?_, ?_, ?_, ?_, fun j hj => ?_, ?_, ?_⟩, ?_, ?_, ?_, ?_, fun k j hk hj => ?_⟩
  · rw [e 142 (by omega) (by omega), G0 3 (by omega) (by omega)]; exact h1
  · rw [e 143 (by omega) (by omega), G0 4 (by omega) (by omega)]; exact h2
  · rw [e 144 (by omega) (by omega), G0 5 (by omega) (by omega)]; exact h3
  · rw [e 152 (by omega) (by omega), G0 6 (by omega) (by omega)]; exact h4
  · rw [e 157 (by omega) (by omega), G0 7 (by omega) (by omega)]; exact h5
  · rw [e 148 (by omega) (by omega), G0 _ (by omega) (by omega)]; exact h6 j hj
  · rw [e1]; unfold woE; rw [wr_row (by omega), wr_same]
  · rw [e2]; unfold woE; rw [wr_same]
  · unfold sN; rw [e 145 (by omega) (by omega), e 153 (by omega) (by omega), e 158 (by omega) (by omega), G0 5 (by omega) (by omega), G0 6 (by omega) (by omega), G0 7 (by omega) (by omega), G 2 (by omega), G 3 (by omega), G 4 (by omega)]; exact N
  · unfold sD; rw [e 154 (by omega) (by omega), e 155 (by omega) (by omega), e 156 (by omega) (by omega), G0 6 (by omega) (by omega), G 5 (by omega), G 6 (by omega), G 7 (by omega)]; exact D
  · unfold sP; rw [e 159 (by omega) (by omega), e 160 (by omega) (by omega), e 161 (by omega) (by omega), e 162 (by omega) (by omega), G0 7 (by omega) (by omega), G 8 (by omega), G 9 (by omega), G 10 (by omega), G 11 (by omega)]; exact P
  · unfold hTm; rw [e 146 (by omega) (by omega), e 147 (by omega) (by omega), G0 5 (by omega) (by omega), G0 4 (by omega) (by omega), G 30 (by omega), G 31 (by omega)]; exact T
  · rw [G0 _ (by omega) (by omega)] at hj
    rw [e 149 (by omega) (by omega), e 150 (by omega) (by omega), e 151 (by omega) (by omega), G 43 (by omega), G 44 (by omega), G 45 (by omega)]; exact R k j hk hj
theorem tu_finM {τ' β2 : mm_Mem} {t : Nat} {w v : Int} (B : HbM bi β τ) (hs : siH β) (et : β 0 5 = (t : Int)) (e : ∀ o, 142 ≤ o → o ≤ 164 → o ≠ 144 → o ≠ 145 → o ≠ 146 → o ≠ 147 → τ' o = τ o) (e1 : ∀ i, i ≠ 3 * bi + t → τ' 145 i = τ 145 i ∧ τ' 147 i = τ 147 i) (e6 : ∀ i, i < 15 * bi + 5 * t → τ' 146 i = τ 146 i) (x4 : τ' 144 bi = (t : Int) + 1) (x5 : τ' 145 (3 * bi + t) = w) (x6 : ∀ i : Nat, (i : Int) < β 0 4 → τ' 146 (15 * bi + (5 * t + i)) = β2 30 (5 * t + i)) (x7 : τ' 147 (3 * bi + t) = v) (f0 : ∀ o, o ≠ 30 → o ≠ 2 → β2 o = β o) (f2 : ∀ i, β2 2 i = if i = t then w else β 2 i) (f3 : ∀ j, j < 5 * t → β2 30 j = β 30 j) : HbM bi (tuE β2 t v) τ' := by
  have s := hs.1
  obtain ⟨⟨h1, h2, h3, h4, h5, h6, h7, h8⟩, ⟨N1, N2, N3⟩, D, P, T, R⟩ := B
  have G : ∀ o, o ≠ 30 → o ≠ 2 → o ≠ 31 → o ≠ 0 → tuE β2 t v o = β o := fun o h1 h2 h3 h4 => by unfold tuE; rw [wr_obj h4, wr_obj h3, f0 o h1 h2]
  have G0 : ∀ i, i ≠ 5 → tuE β2 t v 0 i = β 0 i := fun i h => by unfold tuE; rw [wr_row h, wr_obj (by omega), f0 0 (by omega) (by omega)]
  have G5 : tuE β2 t v 0 5 = (t : Int) + 1 := by unfold tuE; exact wr_same
  have G2 : ∀ i, tuE β2 t v 2 i = if i = t then w else β 2 i := fun i => by unfold tuE; rw [wr_obj (by omega), wr_obj (by omega), f2]
  have G30 : tuE β2 t v 30 = β2 30 := by unfold tuE; rw [wr_obj (by omega), wr_obj (by omega)]
  have G31 : ∀ i, tuE β2 t v 31 i = if i = t then v else β 31 i := fun i => by
    unfold tuE; rw [wr_obj (by omega)]
    by_cases h : i = t
    · subst h; rw [wr_same, if_pos rfl]
    · rw [wr_row h, if_neg h, f0 31 (by omega) (by omega)]
  refine ⟨⟨?_, ?_, ?_, ?_, ?_, fun j hj => ?_, ?_, ?_⟩, ⟨fun i q => ?_, fun i q => ?_, fun i q => ?_⟩, ?_, ?_, fun i q => ?_, fun k j hk hj => ?_⟩
  · rw [e 142 (by omega) (by omega) (by omega) (by omega) (by omega) (by omega), G0 3 (by omega)]; exact h1
  · rw [e 143 (by omega) (by omega) (by omega) (by omega) (by omega) (by omega), G0 4 (by omega)]; exact h2
  · rw [x4, G5]
  · rw [e 152 (by omega) (by omega) (by omega) (by omega) (by omega) (by omega), G0 6 (by omega)]; exact h4
  · rw [e 157 (by omega) (by omega) (by omega) (by omega) (by omega) (by omega), G0 7 (by omega)]; exact h5
  · rw [e 148 (by omega) (by omega) (by omega) (by omega) (by omega) (by omega), G0 _ (by omega)]; exact h6 j hj
  · rw [e 163 (by omega) (by omega) (by omega) (by omega) (by omega) (by omega), G0 11 (by omega)]; exact h7
  · rw [e 164 (by omega) (by omega) (by omega) (by omega) (by omega) (by omega), G0 12 (by omega)]; exact h8
  · rw [G5] at q
    rw [G2]
    by_cases h : i = t
    · subst h; rw [if_pos rfl]; exact x5
    · rw [if_neg h, (e1 _ (by omega)).1]; exact N1 i (by omega)
  · rw [G0 6 (by omega)] at q; rw [e 153 (by omega) (by omega) (by omega) (by omega) (by omega) (by omega), G 3 (by omega) (by omega) (by omega) (by omega)]; exact N2 i q
  · rw [G0 7 (by omega)] at q; rw [e 158 (by omega) (by omega) (by omega) (by omega) (by omega) (by omega), G 4 (by omega) (by omega) (by omega) (by omega)]; exact N3 i q
  · unfold sD; rw [e 154 (by omega) (by omega) (by omega) (by omega) (by omega) (by omega), e 155 (by omega) (by omega) (by omega) (by omega) (by omega) (by omega), e 156 (by omega) (by omega) (by omega) (by omega) (by omega) (by omega), G0 6 (by omega), G 5 (by omega) (by omega) (by omega) (by omega), G 6 (by omega) (by omega) (by omega) (by omega), G 7 (by omega) (by omega) (by omega) (by omega)]; exact D
  · unfold sP; rw [e 159 (by omega) (by omega) (by omega) (by omega) (by omega) (by omega), e 160 (by omega) (by omega) (by omega) (by omega) (by omega) (by omega), e 161 (by omega) (by omega) (by omega) (by omega) (by omega) (by omega), e 162 (by omega) (by omega) (by omega) (by omega) (by omega) (by omega), G0 7 (by omega), G 8 (by omega) (by omega) (by omega) (by omega), G 9 (by omega) (by omega) (by omega) (by omega), G 10 (by omega) (by omega) (by omega) (by omega), G 11 (by omega) (by omega) (by omega) (by omega)]; exact P
  · rw [G5] at q
    rw [G0 4 (by omega), G30, G31]
    by_cases h : i = t
    · subst h; rw [if_pos rfl]; exact ⟨x6, x7⟩
    · rw [if_neg h, (e1 _ (by omega)).2]
      obtain ⟨y1, y2⟩ := T i (by omega)
      exact ⟨fun j hj => by rw [e6 _ (by omega), f3 _ (by omega)]; exact y1 j hj, y2⟩
  · rw [G0 _ (by omega)] at hj
    rw [e 149 (by omega) (by omega) (by omega) (by omega) (by omega) (by omega), e 150 (by omega) (by omega) (by omega) (by omega) (by omega) (by omega), e 151 (by omega) (by omega) (by omega) (by omega) (by omega) (by omega), G 43 (by omega) (by omega) (by omega) (by omega), G 44 (by omega) (by omega) (by omega) (by omega), G 45 (by omega) (by omega) (by omega) (by omega)]; exact R k j hk hj
theorem ru_finM {τ' : mm_Mem} {kd j l0 l1 l2 m0 m1 m2 : Nat} (B : HbM bi β τ) (hs : siH β) (hk : kd < 3) (ej : β 0 (8 + kd) = (j : Int)) (hj : j < 6) (e : ∀ o, 142 ≤ o → o ≤ 164 → o ≠ 148 → o ≠ 149 → o ≠ 150 → o ≠ 151 → τ' o = τ o) (e1 : ∀ i, i ≠ 18 * bi + (6 * kd + j) → τ' 149 i = τ 149 i ∧ τ' 150 i = τ 150 i ∧ τ' 151 i = τ 151 i) (e8 : ∀ i, i ≠ 3 * bi + kd → τ' 148 i = τ 148 i) (x8 : τ' 148 (3 * bi + kd) = (j : Int) + 1) (x9 : τ' 149 (18 * bi + (6 * kd + j)) = (m0 : Int)) (x10 : τ' 150 (18 * bi + (6 * kd + j)) = (m1 : Int)) (x11 : τ' 151 (18 * bi + (6 * kd + j)) = (m2 : Int)) : HbM bi (ruE β kd l0 l1 l2 m0 m1 m2) τ' := by
  obtain ⟨s, s2, s3⟩ := hs
  obtain ⟨⟨h1, h2, h3, h4, h5, h6, h7, h8⟩, N, D, P, T, R⟩ := B
  have G : ∀ o, o ≠ 0 → o < 40 → ruE β kd l0 l1 l2 m0 m1 m2 o = β o := fun o h1 h2 => by
    unfold ruE; rw [wr_obj h1, wr_obj (by omega), wr_obj (by omega), wr_obj (by omega), wr_obj (by omega), wr_obj (by omega), wr_obj (by omega)]
  have G0 : ∀ i, i ≠ 8 + kd → ruE β kd l0 l1 l2 m0 m1 m2 0 i = β 0 i := fun i h1 => by
    unfold ruE; rw [wr_row h1, wr_obj (by omega), wr_obj (by omega), wr_obj (by omega), wr_obj (by omega), wr_obj (by omega), wr_obj (by omega)]
  have G8 : ruE β kd l0 l1 l2 m0 m1 m2 0 (8 + kd) = (j : Int) + 1 := by unfold ruE; rw [wr_same, ej]
  have Gi : ∀ o i, i ≠ 6 * kd + j → 40 ≤ o → ruE β kd l0 l1 l2 m0 m1 m2 o i = β o i := fun o i h1 h2 => by
    unfold ruE
    rw [ej, Int.toNat_natCast, wr_obj (by omega)]
    simp [wr, h1]
  have G43 : ruE β kd l0 l1 l2 m0 m1 m2 43 (6 * kd + j) = (m0 : Int) := by
    unfold ruE; rw [ej, Int.toNat_natCast, wr_obj (by omega), wr_obj (by omega), wr_obj (by omega), wr_same]
  have G44 : ruE β kd l0 l1 l2 m0 m1 m2 44 (6 * kd + j) = (m1 : Int) := by
    unfold ruE; rw [ej, Int.toNat_natCast, wr_obj (by omega), wr_obj (by omega), wr_same]
  have G45 : ruE β kd l0 l1 l2 m0 m1 m2 45 (6 * kd + j) = (m2 : Int) := by
    unfold ruE; rw [ej, Int.toNat_natCast, wr_obj (by omega), wr_same]
  refine ⟨⟨?_, ?_, ?_, ?_, ?_, fun i hi => ?_, ?_, ?_⟩, ?_, ?_, ?_, ?_, fun k i hkk q => ?_⟩
  · rw [e 142 (by omega) (by omega) (by omega) (by omega) (by omega) (by omega), G0 3 (by omega)]; exact h1
  · rw [e 143 (by omega) (by omega) (by omega) (by omega) (by omega) (by omega), G0 4 (by omega)]; exact h2
  · rw [e 144 (by omega) (by omega) (by omega) (by omega) (by omega) (by omega), G0 5 (by omega)]; exact h3
  · rw [e 152 (by omega) (by omega) (by omega) (by omega) (by omega) (by omega), G0 6 (by omega)]; exact h4
  · rw [e 157 (by omega) (by omega) (by omega) (by omega) (by omega) (by omega), G0 7 (by omega)]; exact h5
  · by_cases h : i = kd
    · subst h; rw [x8, G8]
    · rw [e8 _ (by omega), G0 _ (by omega)]; exact h6 i hi
  · rw [e 163 (by omega) (by omega) (by omega) (by omega) (by omega) (by omega), G0 11 (by omega)]; exact h7
  · rw [e 164 (by omega) (by omega) (by omega) (by omega) (by omega) (by omega), G0 12 (by omega)]; exact h8
  · unfold sN; rw [e 145 (by omega) (by omega) (by omega) (by omega) (by omega) (by omega), e 153 (by omega) (by omega) (by omega) (by omega) (by omega) (by omega), e 158 (by omega) (by omega) (by omega) (by omega) (by omega) (by omega), G0 5 (by omega), G0 6 (by omega), G0 7 (by omega), G 2 (by omega) (by omega), G 3 (by omega) (by omega), G 4 (by omega) (by omega)]; exact N
  · unfold sD; rw [e 154 (by omega) (by omega) (by omega) (by omega) (by omega) (by omega), e 155 (by omega) (by omega) (by omega) (by omega) (by omega) (by omega), e 156 (by omega) (by omega) (by omega) (by omega) (by omega) (by omega), G0 6 (by omega), G 5 (by omega) (by omega), G 6 (by omega) (by omega), G 7 (by omega) (by omega)]; exact D
  · unfold sP; rw [e 159 (by omega) (by omega) (by omega) (by omega) (by omega) (by omega), e 160 (by omega) (by omega) (by omega) (by omega) (by omega) (by omega), e 161 (by omega) (by omega) (by omega) (by omega) (by omega) (by omega), e 162 (by omega) (by omega) (by omega) (by omega) (by omega) (by omega), G0 7 (by omega), G 8 (by omega) (by omega), G 9 (by omega) (by omega), G 10 (by omega) (by omega), G 11 (by omega) (by omega)]; exact P
  · unfold hTm; rw [e 146 (by omega) (by omega) (by omega) (by omega) (by omega) (by omega), e 147 (by omega) (by omega) (by omega) (by omega) (by omega) (by omega), G0 5 (by omega), G0 4 (by omega), G 30 (by omega) (by omega), G 31 (by omega) (by omega)]; exact T
  · by_cases h : k = kd ∧ i = j
    · obtain ⟨y1, y2⟩ := h
      subst y1; subst y2
      exact ⟨by rw [x9, G43], by rw [x10, G44], by rw [x11, G45]⟩
    · have q' : (i : Int) < β 0 (8 + k) := by
        by_cases h1 : k = kd
        · subst h1; rw [G8] at q; rw [ej]; omega
        · rw [G0 _ (by omega)] at q; exact q
      have i6 : i < 6 := by
        have : k = 0 ∨ k = 1 ∨ k = 2 := by omega
        rcases this with h | h | h <;> subst h
        · have q' : (i : Int) < β 0 8 := q'; omega
        · have q' : (i : Int) < β 0 9 := q'; omega
        · have q' : (i : Int) < β 0 10 := q'; omega
      have ne : 6 * k + i ≠ 6 * kd + j := by omega
      have ne2 : 18 * bi + (6 * k + i) ≠ 18 * bi + (6 * kd + j) := by omega
      rw [(e1 _ ne2).1, (e1 _ ne2).2.1, (e1 _ ne2).2.2, Gi 43 _ ne (by omega), Gi 44 _ ne (by omega), Gi 45 _ ne (by omega)]
      exact R k i hkk q'
theorem do_finM {τ' : mm_Mem} {dd : Nat} {w kd one two : Int} (B : HbM bi β τ) (hs : siH β) (ed : β 0 6 = (dd : Int)) (e : ∀ o, 142 ≤ o → o ≤ 164 → o ≠ 152 → ¬ (153 ≤ o ∧ o ≤ 156) → τ' o = τ o) (e1 : ∀ o i, 153 ≤ o → o ≤ 156 → i ≠ 4 * bi + dd → τ' o i = τ o i) (x2 : τ' 152 bi = (dd : Int) + 1) (x3 : τ' 153 (4 * bi + dd) = w) (x4 : τ' 154 (4 * bi + dd) = kd) (x5 : τ' 155 (4 * bi + dd) = one) (x6 : τ' 156 (4 * bi + dd) = two) : HbM bi (doE β w kd one two) τ' := by
  have s := hs.1
  obtain ⟨⟨h1, h2, h3, h4, h5, h6, h7, h8⟩, ⟨N1, N2, N3⟩, D, P, T, R⟩ := B
  have G : ∀ o, o ≠ 0 → o ≠ 3 → o ≠ 5 → o ≠ 6 → o ≠ 7 → doE β w kd one two o = β o := fun o h1 h2 h3 h4 h5 => by
    unfold doE; rw [wr_obj h1, wr_obj h5, wr_obj h4, wr_obj h3, wr_obj h2]
  have G0 : ∀ i, i ≠ 6 → doE β w kd one two 0 i = β 0 i := fun i h1 => by
    unfold doE; rw [wr_row h1, wr_obj (by omega), wr_obj (by omega), wr_obj (by omega), wr_obj (by omega)]
  have G6 : doE β w kd one two 0 6 = (dd : Int) + 1 := by unfold doE; rw [wr_same, ed]
  have E3 : ∀ i, doE β w kd one two 3 i = if i = dd then w else β 3 i := fun i => by
    unfold doE; rw [ed, Int.toNat_natCast]; simp [wr]
  have E5 : ∀ i, doE β w kd one two 5 i = if i = dd then kd else β 5 i := fun i => by
    unfold doE; rw [ed, Int.toNat_natCast]; simp [wr]
  have E6 : ∀ i, doE β w kd one two 6 i = if i = dd then one else β 6 i := fun i => by
    unfold doE; rw [ed, Int.toNat_natCast]; simp [wr]
  have E7 : ∀ i, doE β w kd one two 7 i = if i = dd then two else β 7 i := fun i => by
    unfold doE; rw [ed, Int.toNat_natCast]; simp [wr]
  refine ⟨⟨?_, ?_, ?_, ?_, ?_, fun j hj => ?_, ?_, ?_⟩, ⟨fun i q => ?_, fun i q => ?_, fun i q => ?_⟩, fun i q => ?_, ?_, ?_, fun k j hk hj => ?_⟩
  · rw [e 142 (by omega) (by omega) (by omega) (by omega), G0 3 (by omega)]; exact h1
  · rw [e 143 (by omega) (by omega) (by omega) (by omega), G0 4 (by omega)]; exact h2
  · rw [e 144 (by omega) (by omega) (by omega) (by omega), G0 5 (by omega)]; exact h3
  · rw [x2, G6]
  · rw [e 157 (by omega) (by omega) (by omega) (by omega), G0 7 (by omega)]; exact h5
  · rw [e 148 (by omega) (by omega) (by omega) (by omega), G0 _ (by omega)]; exact h6 j hj
  · rw [e 163 (by omega) (by omega) (by omega) (by omega), G0 11 (by omega)]; exact h7
  · rw [e 164 (by omega) (by omega) (by omega) (by omega), G0 12 (by omega)]; exact h8
  · rw [G0 5 (by omega)] at q; rw [e 145 (by omega) (by omega) (by omega) (by omega), G 2 (by omega) (by omega) (by omega) (by omega) (by omega)]; exact N1 i q
  · rw [G6] at q
    rw [E3]
    by_cases h : i = dd
    · subst h; rw [if_pos rfl]; exact x3
    · rw [if_neg h, e1 153 _ (by omega) (by omega) (by omega)]; exact N2 i (by omega)
  · rw [G0 7 (by omega)] at q; rw [e 158 (by omega) (by omega) (by omega) (by omega), G 4 (by omega) (by omega) (by omega) (by omega) (by omega)]; exact N3 i q
  · rw [G6] at q
    rw [E5, E6, E7]
    by_cases h : i = dd
    · subst h; rw [if_pos rfl, if_pos rfl, if_pos rfl]; exact ⟨x4, x5, x6⟩
    · rw [if_neg h, if_neg h, if_neg h, e1 154 _ (by omega) (by omega) (by omega), e1 155 _ (by omega) (by omega) (by omega), e1 156 _ (by omega) (by omega) (by omega)]; exact D i (by omega)
  · unfold sP; rw [e 159 (by omega) (by omega) (by omega) (by omega), e 160 (by omega) (by omega) (by omega) (by omega), e 161 (by omega) (by omega) (by omega) (by omega), e 162 (by omega) (by omega) (by omega) (by omega), G0 7 (by omega), G 8 (by omega) (by omega) (by omega) (by omega) (by omega), G 9 (by omega) (by omega) (by omega) (by omega) (by omega), G 10 (by omega) (by omega) (by omega) (by omega) (by omega), G 11 (by omega) (by omega) (by omega) (by omega) (by omega)]; exact P
  · unfold hTm; rw [e 146 (by omega) (by omega) (by omega) (by omega), e 147 (by omega) (by omega) (by omega) (by omega), G0 5 (by omega), G0 4 (by omega), G 30 (by omega) (by omega) (by omega) (by omega) (by omega), G 31 (by omega) (by omega) (by omega) (by omega) (by omega)]; exact T
  · rw [G0 _ (by omega)] at hj
    rw [e 149 (by omega) (by omega) (by omega) (by omega), e 150 (by omega) (by omega) (by omega) (by omega), e 151 (by omega) (by omega) (by omega) (by omega), G 43 (by omega) (by omega) (by omega) (by omega) (by omega), G 44 (by omega) (by omega) (by omega) (by omega) (by omega), G 45 (by omega) (by omega) (by omega) (by omega) (by omega)]; exact R k j hk hj
theorem pe_finM {τ' : mm_Mem} {p0 : Nat} {w dd tt l x : Int} (B : HbM bi β τ) (hs : siH β) (ep : β 0 7 = (p0 : Int)) (e : ∀ o, 142 ≤ o → o ≤ 164 → o ≠ 157 → ¬ (158 ≤ o ∧ o ≤ 162) → τ' o = τ o) (e1 : ∀ o i, 158 ≤ o → o ≤ 162 → i ≠ 4 * bi + p0 → τ' o i = τ o i) (x2 : τ' 157 bi = (p0 : Int) + 1) (x3 : τ' 158 (4 * bi + p0) = w) (x4 : τ' 159 (4 * bi + p0) = dd) (x5 : τ' 160 (4 * bi + p0) = tt) (x6 : τ' 161 (4 * bi + p0) = l) (x7 : τ' 162 (4 * bi + p0) = x) : HbM bi (peE β w dd tt l x) τ' := by
  have s := hs.1
  obtain ⟨⟨h1, h2, h3, h4, h5, h6, h7, h8⟩, ⟨N1, N2, N3⟩, D, P, T, R⟩ := B
  have G : ∀ o, o ≠ 0 → o ≠ 4 → o ≠ 8 → o ≠ 9 → o ≠ 10 → o ≠ 11 → peE β w dd tt l x o = β o := fun o h1 h2 h3 h4 h5 h6 => by
    unfold peE; rw [wr_obj h1, wr_obj h6, wr_obj h5, wr_obj h4, wr_obj h3, wr_obj h2]
  have G0 : ∀ i, i ≠ 7 → peE β w dd tt l x 0 i = β 0 i := fun i h1 => by
    unfold peE; rw [wr_row h1, wr_obj (by omega), wr_obj (by omega), wr_obj (by omega), wr_obj (by omega), wr_obj (by omega)]
  have G7 : peE β w dd tt l x 0 7 = (p0 : Int) + 1 := by unfold peE; rw [wr_same, ep]
  have E4 : ∀ i, peE β w dd tt l x 4 i = if i = p0 then w else β 4 i := fun i => by
    unfold peE; rw [ep, Int.toNat_natCast]; simp [wr]
  have E8 : ∀ i, peE β w dd tt l x 8 i = if i = p0 then dd else β 8 i := fun i => by
    unfold peE; rw [ep, Int.toNat_natCast]; simp [wr]
  have E9 : ∀ i, peE β w dd tt l x 9 i = if i = p0 then tt else β 9 i := fun i => by
    unfold peE; rw [ep, Int.toNat_natCast]; simp [wr]
  have E10 : ∀ i, peE β w dd tt l x 10 i = if i = p0 then l else β 10 i := fun i => by
    unfold peE; rw [ep, Int.toNat_natCast]; simp [wr]
  have E11 : ∀ i, peE β w dd tt l x 11 i = if i = p0 then x else β 11 i := fun i => by
    unfold peE; rw [ep, Int.toNat_natCast]; simp [wr]
  have GG : ∀ o, 12 ≤ o → peE β w dd tt l x o = β o := fun o h => G o (by omega) (by omega) (by omega) (by omega) (by omega) (by omega)
  refine ⟨⟨?_, ?_, ?_, ?_, ?_, fun j hj => ?_, ?_, ?_⟩, ⟨fun i q => ?_, fun i q => ?_, fun i q => ?_⟩, ?_, fun i q => ?_, ?_, fun k j hk hj => ?_⟩
  · rw [e 142 (by omega) (by omega) (by omega) (by omega), G0 3 (by omega)]; exact h1
  · rw [e 143 (by omega) (by omega) (by omega) (by omega), G0 4 (by omega)]; exact h2
  · rw [e 144 (by omega) (by omega) (by omega) (by omega), G0 5 (by omega)]; exact h3
  · rw [e 152 (by omega) (by omega) (by omega) (by omega), G0 6 (by omega)]; exact h4
  · rw [x2, G7]
  · rw [e 148 (by omega) (by omega) (by omega) (by omega), G0 _ (by omega)]; exact h6 j hj
  · rw [e 163 (by omega) (by omega) (by omega) (by omega), G0 11 (by omega)]; exact h7
  · rw [e 164 (by omega) (by omega) (by omega) (by omega), G0 12 (by omega)]; exact h8
  · rw [G0 5 (by omega)] at q; rw [e 145 (by omega) (by omega) (by omega) (by omega), G 2 (by omega) (by omega) (by omega) (by omega) (by omega) (by omega)]; exact N1 i q
  · rw [G0 6 (by omega)] at q; rw [e 153 (by omega) (by omega) (by omega) (by omega), G 3 (by omega) (by omega) (by omega) (by omega) (by omega) (by omega)]; exact N2 i q
  · rw [G7] at q
    rw [E4]
    by_cases h : i = p0
    · subst h; rw [if_pos rfl]; exact x3
    · rw [if_neg h, e1 158 _ (by omega) (by omega) (by omega)]; exact N3 i (by omega)
  · unfold sD; rw [e 154 (by omega) (by omega) (by omega) (by omega), e 155 (by omega) (by omega) (by omega) (by omega), e 156 (by omega) (by omega) (by omega) (by omega), G0 6 (by omega), G 5 (by omega) (by omega) (by omega) (by omega) (by omega) (by omega), G 6 (by omega) (by omega) (by omega) (by omega) (by omega) (by omega), G 7 (by omega) (by omega) (by omega) (by omega) (by omega) (by omega)]; exact D
  · rw [G7] at q
    rw [E8, E9, E10, E11]
    by_cases h : i = p0
    · subst h; rw [if_pos rfl, if_pos rfl, if_pos rfl, if_pos rfl]; exact ⟨x4, x5, x6, x7⟩
    · rw [if_neg h, if_neg h, if_neg h, if_neg h, e1 159 _ (by omega) (by omega) (by omega), e1 160 _ (by omega) (by omega) (by omega), e1 161 _ (by omega) (by omega) (by omega), e1 162 _ (by omega) (by omega) (by omega)]; exact P i (by omega)
  · unfold hTm; rw [e 146 (by omega) (by omega) (by omega) (by omega), e 147 (by omega) (by omega) (by omega) (by omega), G0 5 (by omega), G0 4 (by omega), GG 30 (by omega), GG 31 (by omega)]; exact T
  · rw [G0 _ (by omega)] at hj
    rw [e 149 (by omega) (by omega) (by omega) (by omega), e 150 (by omega) (by omega) (by omega) (by omega), e 151 (by omega) (by omega) (by omega) (by omega), GG 43 (by omega), GG 44 (by omega), GG 45 (by omega)]; exact R k j hk hj
end MFin
