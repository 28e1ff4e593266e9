/-! what holds of a house as it is read: doors, persons, worths, all -/
section Spec2
variable {r : Nat → Int} {n : Nat} {G : Nat → mm_Mem → List Int → List Int → Prop}
theorem kd_n {a : Nat} (ha : a ≤ n) (hr : ∀ i, 0 ≤ r i ∧ r i ≤ 255) (h : kdI r n a ≠ -1) : a < tN r n a ∧ tN r n a ≤ n := by
  unfold kdI at h
  by_cases q1 : tWb r n a 8 = true
  · exact tW_n ha hr q1
  by_cases q2 : tWb r n a 9 = true
  · exact tW_n ha hr q2
  by_cases q3 : tWb r n a 10 = true
  · exact tW_n ha hr q3
  by_cases q4 : tWb r n a 11 = true
  · exact tW_n ha hr q4
  by_cases q5 : tWb r n a 12 = true
  · exact tW_n ha hr q5
  rw [if_neg q1, if_neg q2, if_neg q3, if_neg q4, if_neg q5] at h; exact absurd rfl h
theorem kd_r {a : Nat} : -1 ≤ kdI r n a ∧ kdI r n a ≤ 4 := by
  unfold kdI
  by_cases q1 : tWb r n a 8 = true
  · rw [if_pos q1]; omega
  rw [if_neg q1]
  by_cases q2 : tWb r n a 9 = true
  · rw [if_pos q2]; omega
  rw [if_neg q2]
  by_cases q3 : tWb r n a 10 = true
  · rw [if_pos q3]; omega
  rw [if_neg q3]
  by_cases q4 : tWb r n a 11 = true
  · rw [if_pos q4]; omega
  rw [if_neg q4]
  by_cases q5 : tWb r n a 12 = true
  · rw [if_pos q5]; omega
  rw [if_neg q5]; omega
theorem si_doE {a a1 : Nat} {β : mm_Mem} {cd cd' : List Int} {w kd one two : Int} (S : SIn n a β cd cd') (h4 : β 0 6 < 4) (ha : a ≤ a1) (h1 : a1 ≤ n) (hw : nmW w) (hk : 0 ≤ kd ∧ kd ≤ 4) (ho : 0 ≤ one ∧ one ≤ 40) (ht : 0 ≤ two ∧ two ≤ 9 ∧ (kd = 3 → two ≤ 4)) : SIn n a1 (doE β w kd one two) cd cd' := by
  obtain ⟨hA, hc, hc', sh, sn, sd, sp, sc, st, sr⟩ := S
  obtain ⟨⟨b1, b2, b3, b4, b5, b6, b7, b8, b9, b10⟩, b11, b12⟩ := id sh
  obtain ⟨d, ed⟩ : ∃ d : Nat, β 0 6 = (d : Int) := ⟨(β 0 6).toNat, by omega⟩
  have g : ∀ o, o ≠ 0 → o ≠ 3 → o ≠ 5 → o ≠ 6 → o ≠ 7 → doE β w kd one two o = β o := fun o h1 h2 h3 h4 h5 => by
    unfold doE; rw [wr_obj h1, wr_obj h5, wr_obj h4, wr_obj h3, wr_obj h2]
  have g0 : ∀ i, i ≠ 6 → doE β w kd one two 0 i = β 0 i := fun i h1 => by
    unfold doE; rw [wr_row h1, wr_obj (by omega), wr_obj (by omega), wr_obj (by omega), wr_obj (by omega)]
  have g6 : doE β w kd one two 0 6 = (d : Int) + 1 := by unfold doE; rw [wr_same, ed]
  have e3 : ∀ i, doE β w kd one two 3 i = if i = d then w else β 3 i := fun i => by
    unfold doE; rw [ed, Int.toNat_natCast]; simp [wr]
  have e5 : ∀ i, doE β w kd one two 5 i = if i = d then kd else β 5 i := fun i => by
    unfold doE; rw [ed, Int.toNat_natCast]; simp [wr]
  have e6 : ∀ i, doE β w kd one two 6 i = if i = d then one else β 6 i := fun i => by
    unfold doE; rw [ed, Int.toNat_natCast]; simp [wr]
  have e7 : ∀ i, doE β w kd one two 7 i = if i = d then two else β 7 i := fun i => by
    unfold doE; rw [ed, Int.toNat_natCast]; simp [wr]
  refine ⟨h1, by omega, by omega, ?_, ⟨fun i hi => ?_, fun i hi => ?_, fun i hi => ?_⟩, fun i hi => ?_, fun p hp => ?_, fun i => ?_, fun i hi => ?_, sr.cg (fun k hk => g0 _ (by omega)) (fun o h1 h2 => g o (by omega) (by omega) (by omega) (by omega) (by omega))⟩
  · unfold siH
    rw [g0 3 (by omega), g0 4 (by omega), g0 5 (by omega), g6, g0 7 (by omega), g0 8 (by omega), g0 9 (by omega), g0 10 (by omega), g0 11 (by omega), g0 12 (by omega)]
    exact ⟨⟨b1, b2, b3, b4, b5, b6, by omega, by omega, b9, b10⟩, b11, b12⟩
  · rw [g0 5 (by omega)] at hi; rw [g 2 (by omega) (by omega) (by omega) (by omega) (by omega)]; exact sn.1 i hi
  · rw [g6] at hi
    rw [e3]
    by_cases h : i = d
    · rw [if_pos h]; exact hw
    · rw [if_neg h]; exact sn.2.1 i (by omega)
  · rw [g0 7 (by omega)] at hi; rw [g 4 (by omega) (by omega) (by omega) (by omega) (by omega)]; exact sn.2.2 i hi
  · rw [g6] at hi
    rw [e5, e6, e7]
    by_cases h : i = d
    · rw [if_pos h, if_pos h, if_pos h]; exact ⟨hk.1, hk.2, ho.1, ho.2, ht.1, ht.2.1, ht.2.2⟩
    · rw [if_neg h, if_neg h, if_neg h]; exact sd i (by omega)
  · rw [g0 7 (by omega)] at hp
    rw [g 8 (by omega) (by omega) (by omega) (by omega) (by omega), g 9 (by omega) (by omega) (by omega) (by omega) (by omega), g 10 (by omega) (by omega) (by omega) (by omega) (by omega), g 11 (by omega) (by omega) (by omega) (by omega) (by omega), g6, g0 5 (by omega)]
    obtain ⟨p1, p2, p3⟩ := sp p hp
    exact ⟨p1, by omega, p3⟩
  · rw [g 12 (by omega) (by omega) (by omega) (by omega) (by omega), g 13 (by omega) (by omega) (by omega) (by omega) (by omega), g 14 (by omega) (by omega) (by omega) (by omega) (by omega), g 15 (by omega) (by omega) (by omega) (by omega) (by omega), g 16 (by omega) (by omega) (by omega) (by omega) (by omega), g 17 (by omega) (by omega) (by omega) (by omega) (by omega), g 18 (by omega) (by omega) (by omega) (by omega) (by omega), g 19 (by omega) (by omega) (by omega) (by omega) (by omega), g 20 (by omega) (by omega) (by omega) (by omega) (by omega)]
    exact sc i
  · rw [g0 5 (by omega)] at hi
    rw [g0 4 (by omega), g0 3 (by omega), g 30 (by omega) (by omega) (by omega) (by omega) (by omega), g 31 (by omega) (by omega) (by omega) (by omega) (by omega)]; exact st i hi
theorem si_do {a : Nat} {β : mm_Mem} {cd cd' : List Int} (hr : ∀ i, 0 ≤ r i ∧ r i ≤ 255) (S : SIn n a β cd cd') (t0 : a < tN r n a ∧ tN r n a ≤ n) : spP n (doP r n a β cd cd') (fun a1 β1 c1 c1' => a < a1 ∧ SIn n a1 β1 c1 c1') := by
  have ha := S.1
  unfold doP
  by_cases q : 4 ≤ β 0 6
  · rw [if_pos q]; exact sp_f (by omega) (tPl_n ha hr)
  rw [if_neg q]
  refine sp_nn t0.2 hr (fun w1 t1 t2 => ?_)
  have kr := kd_r (r := r) (n := n) (a := tN r n (tN r n a))
  by_cases q1 : kdI r n (tN r n (tN r n a)) = -1
  · rw [if_pos q1]; exact sp_f (by omega) (tPl_n t2 hr)
  rw [if_neg q1]
  have t3 := kd_n t2 hr q1
  by_cases q2 : kdI r n (tN r n (tN r n a)) = 0
  · rw [if_pos q2]
    exact ⟨by omega, si_doE S (by omega) (by omega) t3.2 w1 ⟨by omega, by omega⟩ ⟨by omega, by omega⟩ ⟨by omega, by omega, fun y => by omega⟩⟩
  rw [if_neg q2]
  refine sp_nu t3.2 hr (fun _ l1 l2 t4 t5 => ?_)
  by_cases q3 : kdI r n (tN r n (tN r n a)) = 2
  · rw [if_pos q3]
    rw [if_pos q3] at l1
    exact ⟨by omega, si_doE S (by omega) (by omega) t5 w1 ⟨by omega, by omega⟩ ⟨by omega, by omega⟩ ⟨by omega, by omega, fun y => by omega⟩⟩
  rw [if_neg q3]
  rw [if_neg q3] at l1
  refine sp_nu t5 hr (fun _ m1 m2 t6 t7 => ⟨by omega, si_doE S (by omega) (by omega) t7 w1 ⟨by omega, by omega⟩ ⟨by omega, by omega⟩ ⟨?_, ?_, fun y => ?_⟩⟩)
  · split at m1 <;> omega
  · split at m2 <;> omega
  · rw [if_pos y] at m2; exact m2
theorem si_pe {a : Nat} {β : mm_Mem} {cd cd' : List Int} (hr : ∀ i, 0 ≤ r i ∧ r i ≤ 255) (S : SIn n a β cd cd') (t0 : a < tN r n a ∧ tN r n a ≤ n) : spP n (peP r n a β cd cd') (fun a1 β1 c1 c1' => a < a1 ∧ SIn n a1 β1 c1 c1') := by
  obtain ⟨ha, hc, hc', sh, sn, sd, sp, sc, st, sr⟩ := S
  obtain ⟨⟨b1, b2, b3, b4, b5, b6, b7, b8, b9, b10⟩, b11, b12⟩ := id sh
  unfold peP
  by_cases q : 4 ≤ β 0 7
  · rw [if_pos q]; exact sp_f (by omega) (tPl_n ha hr)
  rw [if_neg q]
  refine sp_nn t0.2 hr (fun w1 u1 u2 => sp_wd u2 hr (fun u3 u4 => sp_kn u4 b7 hr (fun d1 d2 u5 u6 => sp_wd u6 hr (fun u7 u8 => sp_kn u8 b5 hr (fun m1 m2 u9 v1 => sp_wd v1 hr (fun v2 v3 => sp_nu v3 hr (fun _ l1 l2 v4 v5 => sp_wd v5 hr (fun v6 v7 => sp_nu v7 hr (fun _ x1 x2 v8 v9 => ?_)))))))))
  generalize fnd (β 3) (β 0 6) _ = dd at d1 d2 ⊢
  generalize fnd (β 2) (β 0 5) _ = tt at m1 m2 ⊢
  generalize tV r n (tN r n a) = w at w1 ⊢
  rename_i z1 z2
  generalize hl : tV r n _ = l at l1 l2 ⊢
  clear hl
  generalize hx : tV r n _ = e at x1 x2 ⊢
  clear hx
  obtain ⟨p0, ep⟩ : ∃ p : Nat, β 0 7 = (p : Int) := ⟨(β 0 7).toNat, by omega⟩
  have g : ∀ o, o ≠ 0 → o ≠ 4 → o ≠ 8 → o ≠ 9 → o ≠ 10 → o ≠ 11 → peE β w dd tt l e o = β o := fun o h1 h2 h3 h4 h5 h6 => by
    unfold peE; rw [wr_obj h1, wr_obj h6, wr_obj h5, wr_obj h4, wr_obj h3, wr_obj h2]
  have g0 : ∀ i, i ≠ 7 → peE β w dd tt l e 0 i = β 0 i := fun i h1 => by
    unfold peE; rw [wr_row h1, wr_obj (by omega), wr_obj (by omega), wr_obj (by omega), wr_obj (by omega), wr_obj (by omega)]
  have g7 : peE β w dd tt l e 0 7 = (p0 : Int) + 1 := by unfold peE; rw [wr_same, ep]
  have e4 : ∀ i, peE β w dd tt l e 4 i = if i = p0 then w else β 4 i := fun i => by
    unfold peE; rw [ep, Int.toNat_natCast]; simp [wr]
  have e8 : ∀ i, peE β w dd tt l e 8 i = if i = p0 then dd else β 8 i := fun i => by
    unfold peE; rw [ep, Int.toNat_natCast]; simp [wr]
  have e9 : ∀ i, peE β w dd tt l e 9 i = if i = p0 then tt else β 9 i := fun i => by
    unfold peE; rw [ep, Int.toNat_natCast]; simp [wr]
  have e10 : ∀ i, peE β w dd tt l e 10 i = if i = p0 then l else β 10 i := fun i => by
    unfold peE; rw [ep, Int.toNat_natCast]; simp [wr]
  have e11 : ∀ i, peE β w dd tt l e 11 i = if i = p0 then e else β 11 i := fun i => by
    unfold peE; rw [ep, Int.toNat_natCast]; simp [wr]
  have gg : ∀ o, 12 ≤ o → peE β w dd tt l e o = β o := fun o h => g o (by omega) (by omega) (by omega) (by omega) (by omega) (by omega)
  refine ⟨by omega, v9, by omega, by omega, ?_, ⟨fun i hi => ?_, fun i hi => ?_, fun i hi => ?_⟩, fun i hi => ?_, fun p hp => ?_, fun i => ?_, fun i hi => ?_, sr.cg (fun k hk => g0 _ (by omega)) (fun o h1 h2 => gg o (by omega))⟩
  · unfold siH
    rw [g0 3 (by omega), g0 4 (by omega), g0 5 (by omega), g7, g0 6 (by omega), g0 8 (by omega), g0 9 (by omega), g0 10 (by omega), g0 11 (by omega), g0 12 (by omega)]
    exact ⟨⟨b1, b2, b3, b4, b5, b6, b7, b8, by omega, by omega⟩, b11, b12⟩
  · rw [g0 5 (by omega)] at hi; rw [g 2 (by omega) (by omega) (by omega) (by omega) (by omega) (by omega)]; exact sn.1 i hi
  · rw [g0 6 (by omega)] at hi; rw [g 3 (by omega) (by omega) (by omega) (by omega) (by omega) (by omega)]; exact sn.2.1 i hi
  · rw [g7] at hi
    rw [e4]
    by_cases h : i = p0
    · rw [if_pos h]; exact w1
    · rw [if_neg h]; exact sn.2.2 i (by omega)
  · rw [g0 6 (by omega)] at hi
    rw [g 5 (by omega) (by omega) (by omega) (by omega) (by omega) (by omega), g 6 (by omega) (by omega) (by omega) (by omega) (by omega) (by omega), g 7 (by omega) (by omega) (by omega) (by omega) (by omega) (by omega)]; exact sd i hi
  · rw [g7] at hp
    rw [e8, e9, e10, e11, g0 6 (by omega), g0 5 (by omega)]
    by_cases h : p = p0
    · rw [if_pos h, if_pos h, if_pos h, if_pos h]; exact ⟨d1, d2, m1, m2, l1, l2, x1, x2⟩
    · rw [if_neg h, if_neg h, if_neg h, if_neg h]; exact sp p (by omega)
  · rw [gg 12 (by omega), gg 13 (by omega), gg 14 (by omega), gg 15 (by omega), gg 16 (by omega), gg 17 (by omega), gg 18 (by omega), gg 19 (by omega), gg 20 (by omega)]
    exact sc i
  · rw [g0 5 (by omega)] at hi
    rw [g0 4 (by omega), g0 3 (by omega), gg 30 (by omega), gg 31 (by omega)]; exact st i hi
theorem si_wo {a : Nat} {β : mm_Mem} {cd cd' : List Int} (hr : ∀ i, 0 ≤ r i ∧ r i ≤ 255) (S : SIn n a β cd cd') (t0 : a < tN r n a ∧ tN r n a ≤ n) : spP n (woP r n a β cd cd') (fun a1 β1 c1 c1' => a < a1 ∧ SIn n a1 β1 c1 c1') := by
  obtain ⟨ha, hc, hc', sh, sn, sd, sp, sc, st, sr⟩ := S
  obtain ⟨b1, b11, b12⟩ := id sh
  unfold woP
  refine sp_nu t0.2 hr (fun _ l1 l2 t1 t2 => sp_nu t2 hr (fun _ m1 m2 t3 t4 => ?_))
  generalize tV r n (tN r n (tN r n a)) = y at m1 m2 ⊢
  generalize tV r n (tN r n a) = x at l1 l2 ⊢
  have g : ∀ o, o ≠ 0 → woE β x y o = β o := fun o h => by unfold woE; rw [wr_obj h, wr_obj h]
  have g0 : ∀ i, i ≠ 11 → i ≠ 12 → woE β x y 0 i = β 0 i := fun i h1 h2 => by unfold woE; rw [wr_row h2, wr_row h1]
  have g11 : woE β x y 0 11 = x := by unfold woE; rw [wr_row (by omega), wr_same]
  have g12 : woE β x y 0 12 = y := by unfold woE; exact wr_same
  refine ⟨by omega, t4, by omega, by omega, ?_, sn.cg ⟨g0 5 (by omega) (by omega), g0 6 (by omega) (by omega), g0 7 (by omega) (by omega)⟩ (g 2 (by omega)) (g 3 (by omega)) (g 4 (by omega)), fun i hi => ?_, fun p hp => ?_, fun i => ?_, fun i hi => ?_, sr.cg (fun k hk => g0 _ (by omega) (by omega)) (fun o h1 h2 => g o (by omega))⟩
  · unfold siH
    rw [g0 3 (by omega) (by omega), g0 4 (by omega) (by omega), g0 5 (by omega) (by omega), g0 7 (by omega) (by omega), g0 6 (by omega) (by omega), g0 8 (by omega) (by omega), g0 9 (by omega) (by omega), g0 10 (by omega) (by omega), g11, g12]
    exact ⟨b1, b11, l1, l2, m1, m2⟩
  · rw [g0 6 (by omega) (by omega)] at hi; rw [g 5 (by omega), g 6 (by omega), g 7 (by omega)]; exact sd i hi
  · rw [g0 7 (by omega) (by omega)] at hp; rw [g 8 (by omega), g 9 (by omega), g 10 (by omega), g 11 (by omega), g0 6 (by omega) (by omega), g0 5 (by omega) (by omega)]; exact sp p hp
  · rw [g 12 (by omega), g 13 (by omega), g 14 (by omega), g 15 (by omega), g 16 (by omega), g 17 (by omega), g 18 (by omega), g 19 (by omega), g 20 (by omega)]; exact sc i
  · rw [g0 5 (by omega) (by omega)] at hi; rw [g0 4 (by omega) (by omega), g0 3 (by omega) (by omega), g 30 (by omega), g 31 (by omega)]; exact st i hi
theorem si_sa {a : Nat} {β : mm_Mem} {cd cd' : List Int} (hn : n ≤ 1600) (hr : ∀ i, 0 ≤ r i ∧ r i ≤ 255) (S : SIn n a β cd cd') : spP n (saP r n a β cd cd') (fun a1 β1 c1 c1' => a < a1 ∧ SIn n a1 β1 c1 c1') := by
  have ha := S.1
  unfold saP
  by_cases q1 : tWb r n a 2 = true
  · rw [if_pos q1]; exact si_tu hr S q1
  rw [if_neg q1]
  by_cases q2 : tWb r n a 4 = true
  · rw [if_pos q2]; exact si_ru hn hr S (by omega) (tW_n ha hr q2)
  rw [if_neg q2]
  by_cases q3 : tWb r n a 5 = true
  · rw [if_pos q3]; exact si_ru hn hr S (by omega) (tW_n ha hr q3)
  rw [if_neg q3]
  by_cases q4 : tWb r n a 6 = true
  · rw [if_pos q4]; exact si_ru hn hr S (by omega) (tW_n ha hr q4)
  rw [if_neg q4]
  by_cases q5 : tWb r n a 7 = true
  · rw [if_pos q5]; exact si_do hr S (tW_n ha hr q5)
  rw [if_neg q5]
  by_cases q6 : tWb r n a 13 = true
  · rw [if_pos q6]; exact si_pe hr S (tW_n ha hr q6)
  rw [if_neg q6]
  by_cases q7 : tWb r n a 16 = true
  · rw [if_pos q7]; exact si_wo hr S (tW_n ha hr q7)
  rw [if_neg q7]; exact sp_f (by omega) (tPl_n ha hr)
theorem SIn.at_ {a a1 : Nat} {β : mm_Mem} {cd cd' : List Int} (S : SIn n a β cd cd') (h : a ≤ a1) (h1 : a1 ≤ n) : SIn n a1 β cd cd' := by
  obtain ⟨-, hc, hc', s⟩ := S
  exact ⟨h1, by omega, by omega, s⟩
theorem sp_bs {x : PzT} {K : Nat → mm_Mem → List Int → List Int → PzT} {G1 : Nat → mm_Mem → List Int → List Int → Prop} (h : spP n x G1) (h2 : ∀ a β c c', x = .inr (a, β, c, c') → G1 a β c c' → spP n (K a β c c') G) : spP n (bdS x K) G := by
  match x, h, h2 with
  | .inl z, h, _ => exact h
  | .inr (a, β, c, c'), h, h2 => exact h2 a β c c' rfl h
theorem si_st {a : Nat} {β : mm_Mem} {cd cd' : List Int} (hn : n ≤ 1600) (hr : ∀ i, 0 ≤ r i ∧ r i ≤ 255) (S : SIn n a β cd cd') : spP n (stP r n a β cd cd') (fun a1 β1 c1 c1' => a + 1 < a1 ∧ SIn n a1 β1 c1 c1') := by
  unfold stP
  refine sp_bs (si_sa hn hr S) (fun a1 β1 c1 c1' _ h => sp_sg h.2.1 hr (fun t1 t2 => ⟨by omega, h.2.at_ (by omega) t2⟩))
theorem si_ho (hn : n ≤ 1600) (hr : ∀ i, 0 ≤ r i ∧ r i ≤ 255) : ∀ (f m a : Nat) (β : mm_Mem) (cd cd' : List Int), SIn n a β cd cd' → n + 1 ≤ f + a → m ≤ a → spP n (hoP r n f m a β cd cd') (fun m1 β1 c1 c1' => m1 ≤ n ∧ ∃ a1, SIn n a1 β1 c1 c1')
  | 0, m, a, β, cd, cd', S, hf, hm => by have := S.1; omega
  | f + 1, m, a, β, cd, cd', S, hf, hm => by
    rw [hoP]
    by_cases q : (tk r n a).1 = 0
    · rw [if_pos q]; exact ⟨by have := S.1; omega, a, S⟩
    · rw [if_neg q]
      exact sp_bs (si_st hn hr S) (fun a1 β1 c1 c1' _ h => si_ho hn hr f (m + 1) a1 β1 c1 c1' h.2 (by omega) (by omega))
theorem si_he (hr : ∀ i, 0 ≤ r i ∧ r i ≤ 255) : spP n (heP r n) (fun a1 β1 c1 c1' => 1 < a1 ∧ SIn n a1 β1 c1 c1') := by
  unfold heP
  refine sp_wd (Nat.zero_le _) hr (fun t1 t2 => sp_nu t2 hr (fun _ l1 l2 t3 t4 => sp_wd t4 hr (fun t5 t6 => sp_nu t6 hr (fun _ m1 m2 t7 t8 => sp_sg t8 hr (fun t9 t10 => ⟨by omega, t10, Nat.zero_le _, Nat.zero_le _, ?_, ?_, ?_, ?_, ?_, ?_, ?_⟩)))))
  · unfold siH heE
    simp [wr, be0]; omega
  · refine ⟨fun i hi => ?_, fun i hi => ?_, fun i hi => ?_⟩
    · exfalso; unfold heE at hi; simp [wr, be0] at hi; omega
    · exfalso; unfold heE at hi; simp [wr, be0] at hi; omega
    · exfalso; unfold heE at hi; simp [wr, be0] at hi; omega
  · intro i hi; exfalso; unfold heE at hi; simp [wr, be0] at hi; omega
  · intro i hi; exfalso; unfold heE at hi; simp [wr, be0] at hi; omega
  · intro i; unfold heE; simp [wr, be0]
  · intro i hi; exfalso; unfold heE at hi; simp [wr, be0] at hi; omega
  · intro k j hk hj
    exfalso
    unfold heE at hj
    have : k = 0 ∨ k = 1 ∨ k = 2 := by omega
    rcases this with h | h | h <;> subst h <;> simp [wr, be0] at hj <;> omega
theorem si_hs (hn : n ≤ 1600) (hr : ∀ i, 0 ≤ r i ∧ r i ≤ 255) : spP n (hsP r n) (fun m1 β1 c1 c1' => m1 ≤ n ∧ ∃ a1, SIn n a1 β1 c1 c1') := by
  unfold hsP
  exact sp_bs (si_he hr) (fun a1 β1 c1 c1' _ h => si_ho hn hr _ _ _ _ _ _ h.2 (by omega) (by omega))
end Spec2
