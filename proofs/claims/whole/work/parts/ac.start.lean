/-! the memory behind the constructors -/
def stW0 : List (Nat × Nat × Int) := [(2, 0, 3), (4, 5, 1), (4, 6, 1), (4, 7, 5), (4, 8, 6), (4, 9, 7), (4, 10, 8), (4, 11, 9), (10, 0, 11), (10, 2, 12), (10, 3, 13), (10, 4, 14), (10, 5, 15), (10, 6, 16), (10, 7, 17), (4, 12, 10), (18, 8, 19), (18, 9, 20), (18, 10, 21), (8, 0, 18), (22, 8, 23), (22, 9, 24), (22, 10, 25), (8, 1, 22), (26, 8, 27), (26, 9, 28), (26, 10, 29), (8, 2, 26), (30, 8, 31), (30, 9, 32), (30, 10, 33), (8, 3, 30), (9, 0, 34), (9, 1, 35), (9, 2, 36), (9, 3, 37), (2, 2, 4), (38, 5, 1), (38, 6, 1), (38, 7, 39), (38, 8, 40), (38, 9, 41), (38, 10, 42), (38, 11, 43), (44, 0, 45), (44, 2, 46), (44, 3, 47), (44, 4, 48), (44, 5, 49), (44, 6, 50), (44, 7, 51), (38, 12, 44), (52, 8, 53), (52, 9, 54), (52, 10, 55), (42, 0, 52), (56, 8, 57), (56, 9, 58), (56, 10, 59), (42, 1, 56)]
def stW1 : List (Nat × Nat × Int) := [(60, 8, 61), (60, 9, 62), (60, 10, 63), (42, 2, 60), (64, 8, 65), (64, 9, 66), (64, 10, 67), (42, 3, 64), (43, 0, 68), (43, 1, 69), (43, 2, 70), (43, 3, 71), (2, 3, 38), (72, 0, 73), (72, 1, 74), (72, 2, 75), (72, 4, 76), (76, 0, 15192243), (76, 1, 409031), (76, 2, 677317), (76, 3, 365744), (76, 4, 17171557), (76, 5, 474757), (76, 6, 366100), (76, 7, 146930), (76, 8, 659104884), (76, 9, 781652471), (76, 10, 525618), (76, 11, 12592), (76, 12, 19057844), (76, 13, 542723566), (76, 14, 13094067), (76, 15, 182867), (76, 16, 24627848), (76, 17, 762030), (76, 18, 498), (76, 19, 1476), (76, 20, 14836), (76, 21, 1420), (76, 22, 20141), (76, 23, 6605428), (76, 24, 394868), (76, 25, 15748), (76, 26, 267845), (76, 27, 13614), (76, 28, 13368), (2, 4, 72), (77, 8, -1), (77, 0, 72), (2, 5, 77), (79, 0, 80), (79, 1, 81), (79, 2, 82), (78, 0, 79), (83, 0, 84), (83, 1, 85), (83, 2, 86), (78, 1, 83), (87, 0, 88), (87, 1, 89)]
def stW2 : List (Nat × Nat × Int) := [(87, 2, 90), (78, 2, 87), (2, 6, 78), (91, 8, 92), (91, 9, 93), (91, 10, 94), (2, 7, 91), (95, 1, 96), (95, 0, 78), (97, 8, 98), (97, 9, 99), (97, 10, 100), (96, 0, 97), (101, 8, 102), (101, 9, 103), (101, 10, 104), (96, 1, 101), (105, 8, 106), (105, 9, 107), (105, 10, 108), (96, 2, 105), (109, 8, 110), (109, 9, 111), (109, 10, 112), (96, 3, 109), (113, 8, 114), (113, 9, 115), (113, 10, 116), (96, 4, 113), (117, 8, 118), (117, 9, 119), (117, 10, 120), (96, 5, 117), (121, 8, 122), (121, 9, 123), (121, 10, 124), (96, 6, 121), (125, 8, 126), (125, 9, 127), (125, 10, 128), (96, 7, 125), (129, 8, 130), (129, 9, 131), (129, 10, 132), (96, 8, 129), (2, 8, 95), (133, 1, 134), (133, 2, 1000), (133, 3, 135), (133, 0, 78), (2, 9, 133), (136, 0, 137), (136, 1, 2), (136, 2, 2), (2, 10, 136), (2, 11, 138), (2, 13, 139), (2, 14, 1), (140, 0, 141), (140, 1, 0)]
def stW3 : List (Nat × Nat × Int) := [(140, 2, 0), (140, 3, 0), (140, 4, 0), (140, 5, 0), (140, 6, 0), (140, 7, 0), (140, 8, 0), (140, 9, -1), (140, 10, 0), (140, 11, -1), (140, 12, 0), (140, 13, 142), (140, 14, 143), (140, 15, 144), (140, 16, 145), (140, 17, 146), (140, 18, 147), (140, 19, 148), (140, 20, 149), (140, 21, 150), (140, 22, 151), (140, 23, 152), (140, 24, 153), (140, 25, 154), (140, 26, 155), (140, 27, 156), (140, 28, 157), (140, 29, 158), (140, 30, 159), (140, 31, 160), (140, 32, 161), (140, 33, 162), (140, 34, 163), (140, 35, 164), (140, 36, 165), (140, 37, 166), (140, 38, 0), (140, 39, 1), (140, 40, 167), (140, 41, 168), (140, 42, 169), (140, 43, 170), (140, 44, 171), (140, 45, 0), (140, 46, 0), (140, 47, 172), (140, 48, 0), (140, 49, 0), (140, 50, 173), (140, 51, 174), (140, 52, 175), (140, 53, 176), (140, 54, 177), (140, 55, 178), (140, 56, 179), (140, 57, 180), (140, 58, 181), (140, 59, 182), (140, 60, 183), (140, 61, 184)]
def stW4 : List (Nat × Nat × Int) := [(140, 62, 185), (140, 63, 186), (140, 64, 187), (140, 65, 188), (140, 66, 0), (140, 67, 189), (140, 68, 190), (140, 69, 191), (140, 70, 192), (140, 71, 1), (140, 72, 193), (140, 73, 0), (163, 0, 1), (164, 0, 1)]
def stW : List (Nat × Nat × Int) := stW0 ++ stW1 ++ stW2 ++ stW3 ++ stW4
def apW (σ : mm_Mem) : List (Nat × Nat × Int) → mm_Mem
  | [] => σ
  | w :: r => apW (wr σ w.1 w.2.1 w.2.2) r
def lkW (o k : Nat) : List (Nat × Nat × Int) → Option Int
  | [] => none
  | w :: r => match lkW o k r with
    | some v => some v
    | none => if w.1 = o ∧ w.2.1 = k then some w.2.2 else none
theorem apW_lk {o k : Nat} : ∀ (W : List (Nat × Nat × Int)) (σ : mm_Mem), apW σ W o k = (lkW o k W).getD (σ o k)
  | [], σ => rfl
  | w :: r, σ => by
    show apW (wr σ w.1 w.2.1 w.2.2) r o k = _
    rw [apW_lk r]
    have e : lkW o k (w :: r) = (match lkW o k r with
      | some v => some v
      | none => if w.1 = o ∧ w.2.1 = k then some w.2.2 else none) := rfl
    rw [e]
    cases lkW o k r with
    | some v => rfl
    | none =>
      by_cases h : w.1 = o ∧ w.2.1 = k
      · rw [if_pos h]
        obtain ⟨h1, h2⟩ := h
        subst h1; subst h2
        exact wr_same
      · rw [if_neg h]
        show wr σ w.1 w.2.1 w.2.2 o k = σ o k
        show (if o = w.1 ∧ k = w.2.1 then w.2.2 else σ o k) = σ o k
        rw [if_neg (fun z => h ⟨z.1.symm, z.2.symm⟩)]
theorem apW_no {o : Nat} : ∀ (W : List (Nat × Nat × Int)) (σ : mm_Mem), W.all (fun w => !(w.1 == o)) = true → apW σ W o = σ o
  | [], σ, _ => rfl
  | w :: r, σ, h => by
    simp only [List.all_cons, Bool.and_eq_true] at h
    show apW (wr σ w.1 w.2.1 w.2.2) r o = _
    rw [apW_no r _ h.2]
    have : w.1 ≠ o := by simpa using h.1
    exact wr_obj (fun z => this z.symm)
def st0 (f : Nat → Int) : mm_Mem := fun o k => if o = 1 then f k else 0
def stF (f : Nat → Int) : mm_Mem := apW (st0 f) stW
theorem stF_v {f : Nat → Int} {o k : Nat} {v : Int} (ho : o ≠ 1) (h : (lkW o k stW).getD 0 = v) : stF f o k = v := by
  unfold stF
  rw [apW_lk, ← h]
  unfold st0
  rw [if_neg ho]
theorem stF_z {f : Nat → Int} {o : Nat} (ho : o ≠ 1) (h : stW.all (fun w => !(w.1 == o)) = true) (k : Nat) : stF f o k = 0 := by
  unfold stF
  rw [apW_no _ _ h]
  unfold st0
  rw [if_neg ho]
theorem stF_1 {f : Nat → Int} (k : Nat) : stF f 1 k = f k := by
  unfold stF
  rw [apW_no _ _ (by decide +kernel)]
  rfl
theorem st_ref : (List.range 194).all (fun o => (List.range (mm_RT.getD o []).length).all (fun k => match mm_R0 o k with
  | some a => decide (lkW o k stW = some (a : Int))
  | none => true)) = true := by decide +kernel
theorem st_fm (f : Nat → Int) : fm (stF f) = stF f := by
  funext o k
  unfold fm
  cases hr : mm_R0 o k with
  | none => rfl
  | some a =>
    have hl : k < (mm_RT.getD o []).length := by
      by_cases q : k < (mm_RT.getD o []).length
      · exact q
      · unfold mm_R0 at hr
        rw [List.getD_eq_getElem?_getD, List.getElem?_eq_none (by omega)] at hr
        cases hr
    have ho : o < 194 := by
      by_cases q : o < 194
      · exact q
      · have : mm_RT.getD o [] = [] := by
          rw [List.getD_eq_getElem?_getD, List.getElem?_eq_none (by show 194 ≤ o; omega)]; rfl
        rw [this] at hl; simp at hl
    have h1 := List.all_eq_true.mp (List.all_eq_true.mp st_ref o (List.mem_range.mpr ho)) k (List.mem_range.mpr hl)
    rw [hr] at h1
    have h2 : lkW o k stW = some (a : Int) := of_decide_eq_true h1
    show (a : Int) = stF f o k
    unfold stF
    rw [apW_lk, h2]
    rfl
def al0 : mm_Mem := fun o k => if o = 0 then (if k = 2 then -1 else if k = 11 ∨ k = 12 ∨ k = 13 then 1 else 0) else 0
theorem st_door : (List.range 194).all (fun o => !(decide (KD o = some (.inr 0))) || (decide (lkW o 6 stW = none) && decide (lkW o 7 stW = none))) = true := by decide +kernel
theorem st_word : (List.range 29).all (fun i => decide (lkW 76 i stW = some (owL.getD i 0))) = true := by decide +kernel
theorem st_C (f : Nat → Int) : RepC 0 4 al0 (stF f) := by
  refine ⟨⟨stF_v (by omega) (by decide +kernel), fun i _ => stF_z (by omega) (by decide +kernel) i⟩, ⟨stF_v (by omega) (by decide +kernel), stF_v (by omega) (by decide +kernel)⟩, ⟨Or.inl rfl, stF_v (by omega) (by decide +kernel), stF_v (by omega) (by decide +kernel)⟩, ⟨fun i hi => ?_, stF_v (by omega) (by decide +kernel), stF_v (by omega) (by decide +kernel), fun j hj => ?_⟩, ⟨fun t q => ?_, fun t q => ?_, fun t q => ?_⟩, fun t q => ?_, fun t q => ?_, ⟨⟨stF_v (by omega) (by decide +kernel), stF_v (by omega) (by decide +kernel), fun q => ?_⟩, fun t m q => ?_⟩, stF_v (by omega) (by decide +kernel), ⟨stF_v (by omega) (by decide +kernel), fun i q => ?_⟩, fun i hi => stF_z (by omega) (by decide +kernel) i, ⟨fun i hi => ?_, ?_, ?_, fun i hi => ?_⟩, fun o h1 h2 => ?_⟩
  · have : i = 0 ∨ i = 1 ∨ i = 2 ∨ i = 3 ∨ i = 4 := by omega
    rcases this with rfl | rfl | rfl | rfl | rfl <;> exact stF_v (by omega) (by decide +kernel)
  · have h8 : al0 0 (8 + j) = 0 := by
      have : j = 0 ∨ j = 1 ∨ j = 2 := by omega
      rcases this with rfl | rfl | rfl <;> rfl
    rw [h8]; exact stF_z (o := 12) (by omega) (by decide +kernel) j
  · exact absurd q (by show ¬ (t : Int) < 0; omega)
  · exact absurd q (by show ¬ (t : Int) < 0; omega)
  · exact absurd q (by show ¬ (t : Int) < 0; omega)
  · exact absurd q (by show ¬ (t : Int) < 0; omega)
  · exact absurd q (by show ¬ (t : Int) < 0; omega)
  · exact absurd q (by show ¬ (0 : Int) < 0; omega)
  · exact absurd q (by show ¬ (t : Int) < 0; omega)
  · exact absurd q (by show ¬ (i : Int) < 0; omega)
  · have h := of_decide_eq_true (List.all_eq_true.mp st_word i (List.mem_range.mpr hi))
    exact stF_v (by omega) (by rw [h]; rfl)
  · rw [stF_v (v := 1000) (by omega) (by decide +kernel)]; omega
  · rw [stF_v (v := 1000) (by omega) (by decide +kernel)]; omega
  · rw [stF_v (o := 133) (v := 1000) (by omega) (by decide +kernel), stF_z (o := 134) (by omega) (by decide +kernel) i]; omega
  · have ho := KD_lt h2
    have h := List.all_eq_true.mp st_door o (List.mem_range.mpr ho)
    rw [h2] at h
    simp at h
    rw [stF_v (o := o) (k := 6) (v := 0) (by omega) (by rw [h.1]; rfl), stF_v (o := o) (k := 7) (v := 0) (by omega) (by rw [h.2]; rfl)]
    omega
theorem st_M (f : Nat → Int) : RepM 0 al0 (stF f) := by
  refine ⟨⟨by omega, stF_v (by omega) (by decide +kernel)⟩, ⟨stF_v (by omega) (by decide +kernel), fun i _ => stF_z (by omega) (by decide +kernel) i⟩, ⟨stF_v (by omega) (by decide +kernel), stF_v (by omega) (by decide +kernel)⟩, ⟨stF_z (by omega) (by decide +kernel) _, stF_z (by omega) (by decide +kernel) _, stF_z (by omega) (by decide +kernel) _, stF_z (by omega) (by decide +kernel) _, stF_z (by omega) (by decide +kernel) _, fun j hj => ?_, stF_v (by omega) (by decide +kernel), stF_v (by omega) (by decide +kernel)⟩, ⟨fun t q => ?_, fun t q => ?_, fun t q => ?_⟩, fun t q => ?_, fun t q => ?_, ⟨fun p q => ⟨stF_z (by omega) (by decide +kernel) p, stF_z (by omega) (by decide +kernel) p, stF_z (by omega) (by decide +kernel) p⟩, fun p q => ⟨stF_z (by omega) (by decide +kernel) p, stF_z (by omega) (by decide +kernel) p, stF_z (by omega) (by decide +kernel) p⟩, fun p q => ⟨stF_z (by omega) (by decide +kernel) p, stF_z (by omega) (by decide +kernel) p, stF_z (by omega) (by decide +kernel) p⟩⟩, fun t m q => ?_, stF_v (by omega) (by decide +kernel), ⟨stF_v (by omega) (by decide +kernel), fun i q => ?_⟩, fun i hi => stF_z (by omega) (by decide +kernel) i⟩
  · have h8 : al0 0 (8 + j) = 0 := by
      have : j = 0 ∨ j = 1 ∨ j = 2 := by omega
      rcases this with rfl | rfl | rfl <;> rfl
    rw [h8]; exact stF_z (by omega) (by decide +kernel) _
  · exact absurd q (by show ¬ (t : Int) < 0; omega)
  · exact absurd q (by show ¬ (t : Int) < 0; omega)
  · exact absurd q (by show ¬ (t : Int) < 0; omega)
  · exact absurd q (by show ¬ (t : Int) < 0; omega)
  · exact absurd q (by show ¬ (t : Int) < 0; omega)
  · exact absurd q (by show ¬ (t : Int) < 0; omega)
  · exact absurd q (by show ¬ (i : Int) < 0; omega)
theorem st_I : IV 0 al0 := by
  have z : ∀ o k, o ≠ 0 → al0 o k = 0 := fun o k h => by unfold al0; rw [if_neg h]
  refine ⟨⟨⟨Int.le_refl 0, show (0 : Int) ≤ 1600 by omega, fun i => by rw [z 1 i (by omega)]; omega, Int.le_refl 0, show (0 : Int) ≤ 5 by omega, Int.le_refl (-1), show (-1 : Int) ≤ 1600 by omega⟩, ⟨Or.inl ⟨rfl, rfl, rfl, rfl, rfl⟩, ⟨by decide, by decide, by decide, by decide, by decide, by decide⟩, by decide, by decide, by decide, by decide⟩, fun d q => absurd q (by show ¬ (d : Int) < 0; omega), fun d q => absurd q (by show ¬ (d : Int) < 0; omega), fun e => ?_, ⟨fun p => ?_, fun p => ?_, fun p => ?_⟩, fun d q => absurd q (by show ¬ (d : Int) < 0; omega), ⟨by decide, by decide⟩, by decide, by decide, fun i => ?_⟩, ⟨fun d q => absurd q (by show ¬ (d : Int) < 0; omega), fun d q => absurd q (by show ¬ (d : Int) < 0; omega), fun d q => absurd q (by show ¬ (d : Int) < 0; omega)⟩, fun d t q => absurd q (by show ¬ (d : Int) < 0; omega)⟩
  · rw [z 15 e (by omega), z 16 e (by omega), z 17 e (by omega)]; omega
  · rw [z 13 p (by omega), z 14 p (by omega)]; omega
  · rw [z 18 p (by omega), z 19 p (by omega), z 20 p (by omega)]; omega
  · rw [z 24 p (by omega)]; omega
  · rw [z 25 i (by omega)]; omega
theorem st_LJ {f : Nat → Int} (hf : ∀ j, inR (f j)) : LJ 0 (stF f) := ⟨4, 0, al0, st_I, st_C f, st_M f, fun j => by rw [stF_1]; exact hf j⟩
