/-! the class's house behind each statement -/
section CSt
variable {E : mm_Env} {d : Nat} {τ : mm_Mem} {Q : mm_Q0} {r : Nat → Int} {n hh : Nat} {a : Nat} {β : mm_Mem} {cd cd' : List Int}
theorem gN.cb {β' : mm_Mem} (h : gN hh β τ) (e0 : β' 0 5 = β 0 5 ∧ β' 0 6 = β 0 6 ∧ β' 0 7 = β 0 7) (e2 : β' 2 = β 2) (e3 : β' 3 = β 3) (e4 : β' 4 = β 4) : gN hh β' τ := by
  unfold gN; rw [e0.1, e0.2.1, e0.2.2, e2, e3, e4]; exact h
theorem gD.cb {β' : mm_Mem} (h : gD hh β τ) (e0 : β' 0 6 = β 0 6 ∧ β' 0 7 = β 0 7) (e : ∀ o, 5 ≤ o → o ≤ 20 → β' o = β o) : gD hh β' τ := by
  unfold gD
  rw [maskA_cg e0.2 (e 8 (by omega) (by omega)) (e 9 (by omega) (by omega)), e0.1, e 5 (by omega) (by omega), e 6 (by omega) (by omega), e 7 (by omega) (by omega), e 15 (by omega) (by omega), e 16 (by omega) (by omega), e 17 (by omega) (by omega), e 18 (by omega) (by omega), e 19 (by omega) (by omega), e 20 (by omega) (by omega)]
  exact h
theorem gP.cb {β' : mm_Mem} (h : gP hh β τ) (e0 : β' 0 7 = β 0 7) (e : ∀ o, 8 ≤ o → o ≤ 14 → β' o = β o) : gP hh β' τ := fun p q i hi => by
  rw [e _ (by omega) (by omega)]; exact h p (by rw [← e0]; exact q) i hi
theorem hT.cb {β' : mm_Mem} (h : hT hh β τ) (e0 : β' 0 4 = β 0 4 ∧ β' 0 5 = β 0 5) (e1 : β' 30 = β 30) (e2 : β' 31 = β 31) : hT hh β' τ := by
  unfold hT tlF; rw [e0.1, e0.2, e1, e2]; exact h
theorem hR.cb {β' : mm_Mem} (h : hR hh β τ) (e0 : ∀ k, k < 3 → β' 0 (8 + k) = β 0 (8 + k)) (e : ∀ o, 40 ≤ o → o ≤ 42 → β' o = β o) : hR hh β' τ := fun k j hk q => by
  rw [e 40 (by omega) (by omega), e 41 (by omega) (by omega), e 42 (by omega) (by omega)]; exact h k j hk (by rw [← e0 k hk]; exact q)
theorem ff_tt {P : Prop} (h : true = false) : P := by cases h
theorem tt_ff {P : Prop} (h : false = true) : P := by cases h
/-- what lies outside the house's own cell -/
def HbR (hh : Nat) (β τ : mm_Mem) : Prop := gN hh β τ ∧ gD hh β τ ∧ gP hh β τ ∧ hT hh β τ ∧ hR hh β τ
theorem HbR.cg {τ' : mm_Mem} (H : HbR hh β τ) (hd : β 0 6 ≤ 4) (hp : β 0 7 ≤ 4) (e : ∀ o, hh < o → o < hh + 34 → o ≠ hh + 6 → o ≠ hh + 7 → o ≠ hh + 8 → τ' o = τ o) : HbR hh β τ' := by
  obtain ⟨⟨b1, b2, b3⟩, c, d, f, g⟩ := H
  refine ⟨⟨fun t q => ?_, fun d q => ?_, fun p q => ?_⟩, fun d q => ?_, fun p q i hi => ?_, fun t q => ?_, fun k j hk q => ?_⟩
  · rw [e (hh + 1) (by omega) (by omega) (by omega) (by omega) (by omega)]; exact b1 t q
  · rw [e _ (by omega) (by omega) (by omega) (by omega) (by omega)]; exact b2 d q
  · rw [e _ (by omega) (by omega) (by omega) (by omega) (by omega)]; exact b3 p q
  · rw [e (hh + 14 + 4 * d) (by omega) (by omega) (by omega) (by omega) (by omega), e (hh + 14 + 4 * d + 1) (by omega) (by omega) (by omega) (by omega) (by omega), e (hh + 14 + 4 * d + 2) (by omega) (by omega) (by omega) (by omega) (by omega), e (hh + 14 + 4 * d + 3) (by omega) (by omega) (by omega) (by omega) (by omega)]; exact c d q
  · rw [e _ (by omega) (by omega) (by omega) (by omega) (by omega)]; exact d p q i hi
  · rw [e (hh + 2) (by omega) (by omega) (by omega) (by omega) (by omega), e (hh + 3) (by omega) (by omega) (by omega) (by omega) (by omega)]; exact f t q
  · rw [e (hh + 9) (by omega) (by omega) (by omega) (by omega) (by omega), e (hh + 10) (by omega) (by omega) (by omega) (by omega) (by omega), e (hh + 11) (by omega) (by omega) (by omega) (by omega) (by omega)]; exact g k j hk q
theorem wo_fin {τ' : mm_Mem} {x y : Int} (B : HbC hh β τ) (hs : siH β) (e : ∀ o, hh < o → o < hh + 34 → o ≠ hh + 6 → o ≠ hh + 7 → τ' o = τ o) (e0 : ∀ i, i ≠ 5 → i ≠ 6 → τ' hh i = τ hh i) (e5 : τ' hh 5 = x) (e6 : τ' hh 6 = y) : HbC hh (woE β x y) τ' := by
  have s := hs.1
  obtain ⟨⟨a1, a2, a3, a4⟩, R⟩ := B
  obtain ⟨b, c, f, g, k⟩ := HbR.cg (τ' := τ') R (by omega) (by omega) (fun o h1 h2 h3 h4 _ => e o h1 h2 h3 h4)
  have G : ∀ o, o ≠ 0 → woE β x y o = β o := fun o h => by unfold woE; rw [wr_obj h, wr_obj h]
  have G0 : ∀ i, i ≠ 11 → i ≠ 12 → woE β x y 0 i = β 0 i := fun i h1 h2 => by unfold woE; rw [wr_row h2, wr_row h1]
  refine ⟨⟨fun i hi => ?_, ?_, ?_, fun j hj => ?_⟩, b.cb ⟨G0 5 (by omega) (by omega), G0 6 (by omega) (by omega), G0 7 (by omega) (by omega)⟩ (G 2 (by omega)) (G 3 (by omega)) (G 4 (by omega)), c.cb ⟨G0 6 (by omega) (by omega), G0 7 (by omega) (by omega)⟩ (fun o h1 h2 => G o (by omega)), f.cb (G0 7 (by omega) (by omega)) (fun o h1 h2 => G o (by omega)), g.cb ⟨G0 4 (by omega) (by omega), G0 5 (by omega) (by omega)⟩ (G 30 (by omega)) (G 31 (by omega)), k.cb (fun k hk => G0 _ (by omega) (by omega)) (fun o h1 h2 => G o (by omega))⟩
  · rw [e0 i (by omega) (by omega), G0 _ (by omega) (by omega)]; exact a1 i hi
  · rw [e5]; unfold woE; rw [wr_row (by omega), wr_same]
  · rw [e6]; unfold woE; rw [wr_same]
  · rw [e (hh + 8) (by omega) (by omega) (by omega) (by omega), G0 _ (by omega) (by omega)]; exact a4 j hj
theorem tu_fin {τ' β2 : mm_Mem} {t : Nat} {w v : Int} {f : Nat → Nat} (B : HbC hh β τ) (hs : siH β) (et : β 0 5 = (t : Int)) (e : ∀ o, hh < o → o < hh + 34 → o ≠ hh + 6 → o ≠ hh + 7 → o ≠ hh + 1 → o ≠ hh + 2 → o ≠ hh + 3 → τ' o = τ o) (e1 : ∀ i, i ≠ t → τ' (hh + 1) i = τ (hh + 1) i ∧ τ' (hh + 2) i = τ (hh + 2) i ∧ τ' (hh + 3) i = τ (hh + 3) i) (e0 : ∀ i, i ≠ 2 → τ' hh i = τ hh i) (e2 : τ' hh 2 = (t : Int) + 1) (x1 : τ' (hh + 1) t = nm5 w) (x2 : τ' (hh + 2) t = (tp f : Nat)) (x3 : τ' (hh + 3) t = v) (f0 : ∀ o, o ≠ 30 → o ≠ 2 → β2 o = β o) (f2 : ∀ i, β2 2 i = if i = t then w else β 2 i) (f3 : ∀ j, j < 5 * t → β2 30 j = β 30 j) (hf : ∀ j, j < 5 → f j = if (j : Int) < β 0 4 then (β2 30 (5 * t + j)).toNat else 0) : HbC hh (tuE β2 t v) τ' := by
  obtain ⟨s, s2⟩ := hs
  obtain ⟨⟨a1, a2, a3, a4⟩, ⟨b1, b2, b3⟩, c, k, g, m⟩ := B
  have G : ∀ o, o ≠ 30 → o ≠ 2 → o ≠ 31 → o ≠ 0 → tuE β2 t v o = β o := fun o h1 h2 h3 h4 => by unfold tuE; rw [wr_obj h4, wr_obj h3, f0 o h1 h2]
  have G0 : ∀ i, i ≠ 5 → tuE β2 t v 0 i = β 0 i := fun i h => by unfold tuE; rw [wr_row h, wr_obj (by omega), f0 0 (by omega) (by omega)]
  have G5 : tuE β2 t v 0 5 = (t : Int) + 1 := by unfold tuE; exact wr_same
  have G2 : ∀ i, tuE β2 t v 2 i = if i = t then w else β 2 i := fun i => by unfold tuE; rw [wr_obj (by omega), wr_obj (by omega), f2]
  have G30 : tuE β2 t v 30 = β2 30 := by unfold tuE; rw [wr_obj (by omega), wr_obj (by omega)]
  have G31 : ∀ i, tuE β2 t v 31 i = if i = t then v else β 31 i := fun i => by
    unfold tuE; rw [wr_obj (by omega)]
    by_cases h : i = t
    · subst h; rw [wr_same, if_pos rfl]
    · rw [wr_row h, if_neg h, f0 31 (by omega) (by omega)]
  refine ⟨⟨fun i hi => ?_, ?_, ?_, fun j hj => ?_⟩, ⟨fun i q => ?_, fun d q => ?_, fun p q => ?_⟩, gD.cb (β := β) (fun d q => ?_) ⟨G0 6 (by omega), G0 7 (by omega)⟩ (fun o h1 h2 => G o (by omega) (by omega) (by omega) (by omega)), gP.cb (β := β) (fun p q i hi => ?_) (G0 7 (by omega)) (fun o h1 h2 => G o (by omega) (by omega) (by omega) (by omega)), fun i q => ?_, hR.cb (β := β) (fun kk j hk q => ?_) (fun k hk => G0 _ (by omega)) (fun o h1 h2 => G o (by omega) (by omega) (by omega) (by omega))⟩
  · by_cases h : i = 2
    · subst h; rw [e2]; exact G5.symm
    · rw [e0 i h, G0 _ (by omega)]; exact a1 i hi
  · rw [e0 5 (by omega), G0 _ (by omega)]; exact a2
  · rw [e0 6 (by omega), G0 _ (by omega)]; exact a3
  · rw [e (hh + 8) (by omega) (by omega) (by omega) (by omega) (by omega) (by omega) (by omega), G0 _ (by omega)]; exact a4 j hj
  · rw [G5] at q
    rw [G2]
    by_cases h : i = t
    · subst h; rw [if_pos rfl]; exact x1
    · rw [if_neg h, (e1 i h).1]; exact b1 i (by omega)
  · rw [G0 6 (by omega)] at q; rw [e _ (by omega) (by omega) (by omega) (by omega) (by omega) (by omega) (by omega), G 3 (by omega) (by omega) (by omega) (by omega)]; exact b2 d q
  · rw [G0 7 (by omega)] at q; rw [e _ (by omega) (by omega) (by omega) (by omega) (by omega) (by omega) (by omega), G 4 (by omega) (by omega) (by omega) (by omega)]; exact b3 p q
  · rw [e (hh + 14 + 4 * d) (by omega) (by omega) (by omega) (by omega) (by omega) (by omega) (by omega), e (hh + 14 + 4 * d + 1) (by omega) (by omega) (by omega) (by omega) (by omega) (by omega) (by omega), e (hh + 14 + 4 * d + 2) (by omega) (by omega) (by omega) (by omega) (by omega) (by omega) (by omega), e (hh + 14 + 4 * d + 3) (by omega) (by omega) (by omega) (by omega) (by omega) (by omega) (by omega)]; exact c d q
  · rw [e _ (by omega) (by omega) (by omega) (by omega) (by omega) (by omega) (by omega)]; exact k p q i hi
  · rw [G5] at q
    rw [G31]
    by_cases h : i = t
    · subst h
      rw [if_pos rfl]
      refine ⟨?_, x3⟩
      rw [x2, tp_congr (g := tlF (tuE β2 i v) i)]
      intro j hj
      rw [hf j hj]; unfold tlF; rw [G0 4 (by omega), G30]
    · rw [if_neg h, (e1 i h).2.1, (e1 i h).2.2]
      obtain ⟨y1, y2⟩ := g i (by omega)
      refine ⟨?_, y2⟩
      rw [y1, tp_congr (g := tlF (tuE β2 t v) i)]
      intro j hj
      unfold tlF; rw [G0 4 (by omega), G30]
      by_cases hj4 : (j : Int) < β 0 4
      · rw [if_pos hj4, if_pos hj4, f3 _ (by omega)]
      · rw [if_neg hj4, if_neg hj4]
  · rw [e (hh + 9) (by omega) (by omega) (by omega) (by omega) (by omega) (by omega) (by omega), e (hh + 10) (by omega) (by omega) (by omega) (by omega) (by omega) (by omega) (by omega), e (hh + 11) (by omega) (by omega) (by omega) (by omega) (by omega) (by omega) (by omega)]; exact m kk j hk q
theorem ru_fin {τ' : mm_Mem} {kd j l0 l1 l2 m0 m1 m2 : Nat} (B : HbC hh β τ) (hs : siH β) (hk : kd < 3) (ej : β 0 (8 + kd) = (j : Int)) (hj : j < 6) (e : ∀ o, hh ≤ o → o < hh + 34 → o ≠ hh + 6 → o ≠ hh + 7 → o ≠ hh + 8 → o ≠ hh + 9 → o ≠ hh + 10 → o ≠ hh + 11 → τ' o = τ o) (e1 : ∀ i, i ≠ 6 * kd + j → τ' (hh + 9) i = τ (hh + 9) i ∧ τ' (hh + 10) i = τ (hh + 10) i ∧ τ' (hh + 11) i = τ (hh + 11) i) (e8 : ∀ i, i ≠ kd → τ' (hh + 8) i = τ (hh + 8) i) (x8 : τ' (hh + 8) kd = (j : Int) + 1) (x9 : τ' (hh + 9) (6 * kd + j) = (l0 : Int)) (x10 : τ' (hh + 10) (6 * kd + j) = (l1 : Int)) (x11 : τ' (hh + 11) (6 * kd + j) = (l2 : Int)) : HbC hh (ruE β kd l0 l1 l2 m0 m1 m2) τ' := by
  obtain ⟨s, s2, s3⟩ := hs
  obtain ⟨⟨a1, a2, a3, a4⟩, ⟨b1, b2, b3⟩, c, k, g, m⟩ := B
  have G : ∀ o, o ≠ 0 → o < 40 → ruE β kd l0 l1 l2 m0 m1 m2 o = β o := fun o h1 h2 => by
    unfold ruE; rw [wr_obj h1, wr_obj (by omega), wr_obj (by omega), wr_obj (by omega), wr_obj (by omega), wr_obj (by omega), wr_obj (by omega)]
  have G0 : ∀ i, i ≠ 8 + kd → ruE β kd l0 l1 l2 m0 m1 m2 0 i = β 0 i := fun i h1 => by
    unfold ruE; rw [wr_row h1, wr_obj (by omega), wr_obj (by omega), wr_obj (by omega), wr_obj (by omega), wr_obj (by omega), wr_obj (by omega)]
  have G8 : ruE β kd l0 l1 l2 m0 m1 m2 0 (8 + kd) = (j : Int) + 1 := by unfold ruE; rw [wr_same, ej]
  have Gi : ∀ o i, i ≠ 6 * kd + j → 40 ≤ o → ruE β kd l0 l1 l2 m0 m1 m2 o i = β o i := fun o i h1 h2 => by
    unfold ruE
    rw [ej, Int.toNat_natCast, wr_obj (by omega)]
    simp [wr, h1]
  have G40 : ruE β kd l0 l1 l2 m0 m1 m2 40 (6 * kd + j) = (l0 : Int) := by
    unfold ruE; rw [ej, Int.toNat_natCast, wr_obj (by omega), wr_obj (by omega), wr_obj (by omega), wr_obj (by omega), wr_obj (by omega), wr_obj (by omega), wr_same]
  have G41 : ruE β kd l0 l1 l2 m0 m1 m2 41 (6 * kd + j) = (l1 : Int) := by
    unfold ruE; rw [ej, Int.toNat_natCast, wr_obj (by omega), wr_obj (by omega), wr_obj (by omega), wr_obj (by omega), wr_obj (by omega), wr_same]
  have G42 : ruE β kd l0 l1 l2 m0 m1 m2 42 (6 * kd + j) = (l2 : Int) := by
    unfold ruE; rw [ej, Int.toNat_natCast, wr_obj (by omega), wr_obj (by omega), wr_obj (by omega), wr_obj (by omega), wr_same]
  refine ⟨⟨fun i hi => ?_, ?_, ?_, fun i hi => ?_⟩, gN.cb (β := β) ⟨fun i q => ?_, fun d q => ?_, fun p q => ?_⟩ ⟨G0 5 (by omega), G0 6 (by omega), G0 7 (by omega)⟩ (G 2 (by omega) (by omega)) (G 3 (by omega) (by omega)) (G 4 (by omega) (by omega)), gD.cb (β := β) (fun d q => ?_) ⟨G0 6 (by omega), G0 7 (by omega)⟩ (fun o h1 h2 => G o (by omega) (by omega)), gP.cb (β := β) (fun p q i hi => ?_) (G0 7 (by omega)) (fun o h1 h2 => G o (by omega) (by omega)), hT.cb (β := β) (fun i q => ?_) ⟨G0 4 (by omega), G0 5 (by omega)⟩ (G 30 (by omega) (by omega)) (G 31 (by omega) (by omega)), fun kk i hkk q => ?_⟩
  · rw [e hh (by omega) (by omega) (by omega) (by omega) (by omega) (by omega) (by omega) (by omega), G0 _ (by omega)]; exact a1 i hi
  · rw [e hh (by omega) (by omega) (by omega) (by omega) (by omega) (by omega) (by omega) (by omega), G0 _ (by omega)]; exact a2
  · rw [e hh (by omega) (by omega) (by omega) (by omega) (by omega) (by omega) (by omega) (by omega), G0 _ (by omega)]; exact a3
  · by_cases h : i = kd
    · subst h; rw [x8, G8]
    · rw [e8 i h, G0 _ (by omega)]; exact a4 i hi
  · rw [e _ (by omega) (by omega) (by omega) (by omega) (by omega) (by omega) (by omega) (by omega)]; exact b1 i q
  · rw [e _ (by omega) (by omega) (by omega) (by omega) (by omega) (by omega) (by omega) (by omega)]; exact b2 d q
  · rw [e _ (by omega) (by omega) (by omega) (by omega) (by omega) (by omega) (by omega) (by omega)]; exact b3 p q
  · rw [e (hh + 14 + 4 * d) (by omega) (by omega) (by omega) (by omega) (by omega) (by omega) (by omega) (by omega), e (hh + 14 + 4 * d + 1) (by omega) (by omega) (by omega) (by omega) (by omega) (by omega) (by omega) (by omega), e (hh + 14 + 4 * d + 2) (by omega) (by omega) (by omega) (by omega) (by omega) (by omega) (by omega) (by omega), e (hh + 14 + 4 * d + 3) (by omega) (by omega) (by omega) (by omega) (by omega) (by omega) (by omega) (by omega)]; exact c d q
  · rw [e _ (by omega) (by omega) (by omega) (by omega) (by omega) (by omega) (by omega) (by omega)]; exact k p q i hi
  · rw [e (hh + 2) (by omega) (by omega) (by omega) (by omega) (by omega) (by omega) (by omega) (by omega), e (hh + 3) (by omega) (by omega) (by omega) (by omega) (by omega) (by omega) (by omega) (by omega)]; exact g i q
  · by_cases h : kk = kd ∧ i = j
    · obtain ⟨h1, h2⟩ := h
      subst h1; subst h2
      exact ⟨by rw [x9, G40], by rw [x10, G41], by rw [x11, G42]⟩
    · have q' : (i : Int) < β 0 (8 + kk) := by
        by_cases h1 : kk = kd
        · subst h1; rw [G8] at q; rw [ej]; omega
        · rw [G0 _ (by omega)] at q; exact q
      have i6 : i < 6 := by
        have : kk = 0 ∨ kk = 1 ∨ kk = 2 := by omega
        rcases this with h | h | h <;> subst h
        · have q' : (i : Int) < β 0 8 := q'; omega
        · have q' : (i : Int) < β 0 9 := q'; omega
        · have q' : (i : Int) < β 0 10 := q'; omega
      have ne : 6 * kk + i ≠ 6 * kd + j := by omega
      rw [(e1 _ ne).1, (e1 _ ne).2.1, (e1 _ ne).2.2, Gi 40 _ ne (by omega), Gi 41 _ ne (by omega), Gi 42 _ ne (by omega)]
      exact m kk i hkk q'
theorem mask0 {β' : mm_Mem} {d : Nat} (h : ∀ p : Nat, (p : Int) < β' 0 7 → β' 8 p ≠ (d : Int)) : maskA β' d = 0 := by
  have e : ∀ t, earA β' (d : Int) t = false := fun t => by
    unfold earA
    rw [List.any_eq_false]
    intro p _ hp
    simp only [Bool.and_eq_true, decide_eq_true_eq] at hp
    exact h p hp.1 hp.2.1
  unfold maskA; rw [e, e, e]; rfl
theorem do_fin {τ' : mm_Mem} {dd : Nat} {w kd one two : Int} (B : HbC hh β τ) (S : SIn n a β cd cd') (ed : β 0 6 = (dd : Int)) (h4 : dd < 4) (e : ∀ o, hh < o → o < hh + 34 → o ≠ hh + 6 → o ≠ hh + 7 → ¬ (hh + 14 + 4 * dd ≤ o ∧ o < hh + 14 + 4 * dd + 4) → τ' o = τ o) (e0 : ∀ i, i ≠ 3 → τ' hh i = τ hh i) (e3 : τ' hh 3 = (dd : Int) + 1) (x0 : τ' (hh + 14 + 4 * dd) 0 = nm5 w) (x1 : τ' (hh + 14 + 4 * dd) 1 = kd) (x2 : τ' (hh + 14 + 4 * dd) 2 = one) (x3 : τ' (hh + 14 + 4 * dd) 3 = two) (x4 : τ' (hh + 14 + 4 * dd) 4 = 0 ∧ τ' (hh + 14 + 4 * dd) 5 = -1 ∧ τ' (hh + 14 + 4 * dd) 6 = 0 ∧ τ' (hh + 14 + 4 * dd) 7 = 0) (x5 : ∀ t, t < 3 → τ' (hh + 14 + 4 * dd + 1) t = 0 ∧ τ' (hh + 14 + 4 * dd + 2) t = -1 ∧ τ' (hh + 14 + 4 * dd + 3) t = 0) : HbC hh (doE β w kd one two) τ' := by
  obtain ⟨-, -, -, ⟨s, s2, s3⟩, -, -, sp, sc, -⟩ := S
  obtain ⟨⟨a1, a2, a3, a4⟩, ⟨b1, b2, b3⟩, c, k, g, m⟩ := B
  have G : ∀ o, o ≠ 0 → o ≠ 3 → o ≠ 5 → o ≠ 6 → o ≠ 7 → doE β w kd one two o = β o := fun o h1 h2 h3 h4 h5 => by
    unfold doE; rw [wr_obj h1, wr_obj h5, wr_obj h4, wr_obj h3, wr_obj h2]
  have G0 : ∀ i, i ≠ 6 → doE β w kd one two 0 i = β 0 i := fun i h1 => by
    unfold doE; rw [wr_row h1, wr_obj (by omega), wr_obj (by omega), wr_obj (by omega), wr_obj (by omega)]
  have G6 : doE β w kd one two 0 6 = (dd : Int) + 1 := by unfold doE; rw [wr_same, ed]
  have E3 : ∀ i, doE β w kd one two 3 i = if i = dd then w else β 3 i := fun i => by
    unfold doE; rw [ed, Int.toNat_natCast]; simp [wr]
  have E5 : ∀ i, doE β w kd one two 5 i = if i = dd then kd else β 5 i := fun i => by
    unfold doE; rw [ed, Int.toNat_natCast]; simp [wr]
  have E6 : ∀ i, doE β w kd one two 6 i = if i = dd then one else β 6 i := fun i => by
    unfold doE; rw [ed, Int.toNat_natCast]; simp [wr]
  have E7 : ∀ i, doE β w kd one two 7 i = if i = dd then two else β 7 i := fun i => by
    unfold doE; rw [ed, Int.toNat_natCast]; simp [wr]
  have mk : maskA (doE β w kd one two) = maskA β := maskA_cg (G0 7 (by omega)) (G 8 (by omega) (by omega) (by omega) (by omega) (by omega)) (G 9 (by omega) (by omega) (by omega) (by omega) (by omega))
  refine ⟨⟨fun i hi => ?_, ?_, ?_, fun j hj => ?_⟩, ⟨fun i q => ?_, fun i q => ?_, fun p q => ?_⟩, fun i q => ?_, gP.cb (β := β) (fun p q i hi => ?_) (G0 7 (by omega)) (fun o h1 h2 => G o (by omega) (by omega) (by omega) (by omega) (by omega)), hT.cb (β := β) (fun i q => ?_) ⟨G0 4 (by omega), G0 5 (by omega)⟩ (G 30 (by omega) (by omega) (by omega) (by omega) (by omega)) (G 31 (by omega) (by omega) (by omega) (by omega) (by omega)), hR.cb (β := β) (fun kk j hk q => ?_) (fun k hk => G0 _ (by omega)) (fun o h1 h2 => G o (by omega) (by omega) (by omega) (by omega) (by omega))⟩
  · by_cases h : i = 3
    · subst h; rw [e3]; exact G6.symm
    · rw [e0 i h, G0 _ (by omega)]; exact a1 i hi
  · rw [e0 5 (by omega), G0 _ (by omega)]; exact a2
  · rw [e0 6 (by omega), G0 _ (by omega)]; exact a3
  · rw [e (hh + 8) (by omega) (by omega) (by omega) (by omega) (by omega), G0 _ (by omega)]; exact a4 j hj
  · rw [G0 5 (by omega)] at q; rw [e _ (by omega) (by omega) (by omega) (by omega) (by omega), G 2 (by omega) (by omega) (by omega) (by omega) (by omega)]; exact b1 i q
  · rw [G6] at q
    rw [E3]
    by_cases h : i = dd
    · subst h; rw [if_pos rfl]; exact x0
    · rw [if_neg h, e _ (by omega) (by omega) (by omega) (by omega) (by omega)]; exact b2 i (by omega)
  · rw [G0 7 (by omega)] at q; rw [e _ (by omega) (by omega) (by omega) (by omega) (by omega), G 4 (by omega) (by omega) (by omega) (by omega) (by omega)]; exact b3 p q
  · rw [G6] at q
    rw [E5, E6, E7, mk, G 18 (by omega) (by omega) (by omega) (by omega) (by omega), G 19 (by omega) (by omega) (by omega) (by omega) (by omega), G 20 (by omega) (by omega) (by omega) (by omega) (by omega), G 15 (by omega) (by omega) (by omega) (by omega) (by omega), G 16 (by omega) (by omega) (by omega) (by omega) (by omega), G 17 (by omega) (by omega) (by omega) (by omega) (by omega)]
    by_cases h : i = dd
    · subst h
      rw [if_pos rfl, if_pos rfl, if_pos rfl, mask0 (fun p hp => by have := (sp p hp).2.1; omega)]
      obtain ⟨y1, y2, y3, y4, y5, y6, y7, y8, y9⟩ := sc i
      refine ⟨⟨x1, x2, x3, x4.1, by rw [x4.2.1, y7], by rw [x4.2.2.1, y8], by rw [x4.2.2.2, y9]⟩, fun t ht => ?_⟩
      obtain ⟨z1, z2, z3⟩ := x5 t ht
      obtain ⟨-, -, -, y4, y5, y6, -⟩ := sc (3 * i + t)
      exact ⟨by rw [z1, y4], by rw [z2, y5], by rw [z3, y6]⟩
    · rw [if_neg h, if_neg h, if_neg h, e (hh + 14 + 4 * i) (by omega) (by omega) (by omega) (by omega) (by omega), e (hh + 14 + 4 * i + 1) (by omega) (by omega) (by omega) (by omega) (by omega), e (hh + 14 + 4 * i + 2) (by omega) (by omega) (by omega) (by omega) (by omega), e (hh + 14 + 4 * i + 3) (by omega) (by omega) (by omega) (by omega) (by omega)]
      exact c i (by omega)
  · rw [e _ (by omega) (by omega) (by omega) (by omega) (by omega)]; exact k p q i hi
  · rw [e (hh + 2) (by omega) (by omega) (by omega) (by omega) (by omega), e (hh + 3) (by omega) (by omega) (by omega) (by omega) (by omega)]; exact g i q
  · rw [e (hh + 9) (by omega) (by omega) (by omega) (by omega) (by omega), e (hh + 10) (by omega) (by omega) (by omega) (by omega) (by omega), e (hh + 11) (by omega) (by omega) (by omega) (by omega) (by omega)]; exact m kk j hk q
end CSt
