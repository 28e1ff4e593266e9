/-! the class reads tokens -/
def RdC (r : Nat → Int) (n hh a op : Nat) (code : List Int) (τ : mm_Mem) : Prop :=
  τ 77 1 = (hh : Int) ∧ (∃ i m : Nat, i ≤ m ∧ m ≤ 1600 ∧ τ 72 3 = ((m + 1 : Nat) : Int) ∧ (∀ j, j ≤ m → tkC r n j τ) ∧ (∀ j, j < m → 2 ≤ (tk r n (tkE r n j)).1) ∧ (tk r n (tkE r n m)).1 ≤ 1 ∧ τ 77 2 = (i : Int) ∧ tkE r n i = a) ∧ τ 77 3 = ckd (tk r n a) ∧ τ 77 4 = cvl (tk r n a) ∧ τ 77 5 = (op : Int) ∧ τ (hh + 6) 1 = (code.length : Int) ∧ (∀ i, i < code.length → τ (hh + 7) i = code.getD i 0) ∧ τ 77 7 = 0 ∧ τ 77 8 = -1
def RdF (hh k p : Nat) (τ : mm_Mem) : Prop := τ 77 7 = (k : Int) ∧ τ 77 8 = (p : Int) ∧ τ 77 1 = (hh : Int) ∧ 0 ≤ τ (hh + 6) 1
def frR (hh : Nat) (τ τ' : mm_Mem) : Prop := (∀ o, o ≠ 77 → o ≠ hh + 6 → o ≠ hh + 7 → τ' o = τ o) ∧ (∀ i, i ≠ 1 → τ' (hh + 6) i = τ (hh + 6) i) ∧ ∀ i, i < 2 → τ' 77 i = τ 77 i
theorem frR.rf {hh : Nat} {τ : mm_Mem} : frR hh τ τ := ⟨fun _ _ _ _ => rfl, fun _ _ => rfl, fun _ _ => rfl⟩
theorem frR.tr {hh : Nat} {a b c : mm_Mem} (h : frR hh a b) (h' : frR hh b c) : frR hh a c := ⟨fun o x y z => (h'.1 o x y z).trans (h.1 o x y z), fun i x => (h'.2.1 i x).trans (h.2.1 i x), fun i x => (h'.2.2 i x).trans (h.2.2 i x)⟩
theorem frR.w {hh : Nat} {a b : mm_Mem} {i : Nat} {v : Int} (hh7 : hh + 7 < 77) (h : frR hh a b) (hi : 2 ≤ i) : frR hh a (wr b 77 i v) := ⟨fun o x y z => (wr_obj x).trans (h.1 o x y z), fun j x => by rw [wr_obj (by omega)]; exact h.2.1 j x, fun j x => (wr_row (by omega)).trans (h.2.2 j x)⟩
theorem ckd_s {T : Nat × Nat × Int × Nat} (h4 : T.1 ≤ 4) : (ckd T = 2 ↔ T.1 = 2) ∧ (ckd T = 3 ↔ T.1 = 3) ∧ (ckd T = 0 ↔ T.1 = 0) := by
  unfold ckd
  by_cases q : T.1 = 4
  · rw [if_pos q]
    split <;> omega
  · rw [if_neg q]; omega
section CRead
variable {E : mm_Env} {d : Nat} {τ : mm_Mem} {Q : mm_Q0} {r : Nat → Int} {n hh : Nat} {a op : Nat} {code : List Int}
theorem RdC.sg {c : Int} (ha : a ≤ n) (hr : ∀ i, 0 ≤ r i ∧ r i ≤ 255) (H : RdC r n hh a op code τ) : (τ 77 3 = 2 ∧ τ 77 4 = c) ↔ tSb r n a c = true := by
  obtain ⟨-, -, h3, h4, -⟩ := H
  have tr := tk_r (r := r) (n := n) ha hr
  rw [h3, h4]
  unfold tSb
  rw [decide_eq_true_iff, (ckd_s tr.2.1).1]
  constructor
  · rintro ⟨x, y⟩
    refine ⟨x, ?_⟩
    unfold cvl at y; rw [if_neg (by omega)] at y; exact y
  · rintro ⟨x, y⟩
    refine ⟨x, ?_⟩
    unfold cvl; rw [if_neg (by omega)]; exact y
theorem RdC.wd {i : Nat} (ha : a ≤ n) (hr : ∀ i, 0 ≤ r i ∧ r i ≤ 255) (hi : i < 29) (H : RdC r n hh a op code τ) : (τ 77 3 = 4 ∧ τ 77 4 = (i : Int)) ↔ tWb r n a i = true := by
  obtain ⟨-, -, h3, h4, -⟩ := H
  have tr := tk_r (r := r) (n := n) ha hr
  rw [h3, h4]
  unfold tWb
  rw [decide_eq_true_iff]
  by_cases q : (tk r n a).1 = 4
  · have nw := tr.2.2.2.2.2.2 q
    unfold ckd cvl
    rw [if_pos q, if_pos q, ← ow_w nw hi]
    by_cases z : owI (nm5 (tk r n a).2.2.1) = -1
    · rw [if_pos z, if_pos z]
      constructor
      · intro y; omega
      · intro y; omega
    · rw [if_neg z, if_neg z]
      exact ⟨fun y => ⟨q, y.2⟩, fun y => ⟨rfl, y.2⟩⟩
  · unfold ckd
    rw [if_neg q]
    constructor
    · intro y; exact absurd y.1 (by omega)
    · intro y; exact absurd y.1 q
theorem c_seesSign {c : Int} (ha : a ≤ n) (hr : ∀ i, 0 ≤ r i ∧ r i ≤ 255) (hc : inR c) (H : RdC r n hh a op code τ) (k1 : Q (some (vB (tSb r n a c))) τ) : M0 E d qX4_seesSign [vR 77, vI c] τ Q := by
  have s := H.sg (c := c) ha hr
  refine mX4_seesSign ⟨fun q => ?_, fun q => ⟨hc, fun q2 => ?_, fun q2 => ?_⟩⟩
  · rw [show tSb r n a c = false by rw [← Bool.not_eq_true]; exact fun z => q (s.mpr z).1] at k1; exact k1
  · rw [show tSb r n a c = false by rw [← Bool.not_eq_true]; exact fun z => q2 (s.mpr z).2] at k1; exact k1
  · rw [s.mp ⟨q, q2⟩] at k1; exact k1
theorem c_seesWord {i : Nat} {x : Int} (ha : a ≤ n) (hr : ∀ i, 0 ≤ r i ∧ r i ≤ 255) (hi : i < 29) (hx : x = (i : Int)) (H : RdC r n hh a op code τ) (k1 : Q (some (vB (tWb r n a i))) τ) : M0 E d qX4_seesWord [vR 77, vI x] τ Q := by
  subst hx
  have s := H.wd (i := i) ha hr hi
  refine mX4_seesWord ⟨fun q => ?_, fun q => ⟨⟨by omega, by omega⟩, fun q2 => ?_, fun q2 => ?_⟩⟩
  · rw [show tWb r n a i = false by rw [← Bool.not_eq_true]; exact fun z => q (s.mpr z).1] at k1; exact k1
  · rw [show tWb r n a i = false by rw [← Bool.not_eq_true]; exact fun z => q2 (s.mpr z).2] at k1; exact k1
  · rw [s.mp ⟨q, q2⟩] at k1; exact k1
theorem c_advance (h7 : hh + 7 < 72) (k2 : 2 ≤ (tk r n a).1) (H : RdC r n hh a op code τ) (k1 : ∀ τ', RdC r n hh (tN r n a) op code τ' → frR hh τ τ' → (∀ i, 5 ≤ i → τ' 77 i = τ 77 i) → Q none τ') : M0 E d qX4_advance [vR 77] τ Q := by
  obtain ⟨g1, ⟨i, m, im, m6, t3, tc, t2, tm, x2, ea⟩, g3, g4, g5, g6, g7, g8, g9⟩ := H
  have lt : i < m := by
    by_cases q : i = m
    · subst q; rw [ea] at tm; omega
    · omega
  have en : tkE r n (i + 1) = tN r n a := by show (tk r n (tkE r n i)).2.2.2 = _; rw [ea]; rfl
  have e2 : τ 77 2 + 1 = ((i + 1 : Nat) : Int) := by rw [x2]; omega
  obtain ⟨c1, c2, c3⟩ := tc (i + 1) (by omega)
  refine mX4_advance ?_
  rw [e2, t3]
  refine ⟨⟨by omega, by omega⟩, fun q => by omega, fun _ => ⟨fun q => by omega, fun _ => bX4_advance_44 ⟨⟨by omega, by omega⟩, fun q => by omega, fun _ => ?_⟩⟩⟩
  have w2 : wr τ 77 2 ((i + 1 : Nat) : Int) 77 2 = ((i + 1 : Nat) : Int) := wr_same
  rw [w2, Int.toNat_natCast, wr_obj (show 73 ≠ 77 by omega), wr_obj (show 75 ≠ 77 by omega), c1, c3]
  refine ⟨by omega, by omega, fun q => by omega, fun _ => ⟨by omega, by omega, k1 _ ⟨?_, ⟨i + 1, m, by omega, m6, ?_, fun j hj => ?_, t2, tm, ?_, en⟩, ?_, ?_, ?_, ?_, fun j hj => ?_, ?_, ?_⟩ (((frR.rf.w (by omega) (by omega)).w (by omega) (by omega)).w (by omega) (by omega)) (fun j hj => ?_)⟩⟩
  · rw [wr_row (by omega), wr_row (by omega), wr_row (by omega)]; exact g1
  · rw [wr_obj (by omega), wr_obj (by omega), wr_obj (by omega)]; exact t3
  · unfold tkC
    have o : ∀ o, o ≠ 77 → wr (wr (wr τ 77 2 ((i + 1 : Nat) : Int)) 77 3 (ckd (tk r n (tkE r n (i + 1))))) 77 4 (cvl (tk r n (tkE r n (i + 1)))) o = τ o := fun o ho => by rw [wr_obj ho, wr_obj ho, wr_obj ho]
    rw [o 73 (by omega), o 74 (by omega), o 75 (by omega)]
    exact tc j hj
  · rw [wr_row (by omega), wr_row (by omega), wr_same]
  · rw [wr_row (by omega), wr_same, en]
  · rw [wr_same, en]
  · rw [wr_row (by omega), wr_row (by omega), wr_row (by omega)]; exact g5
  · rw [wr_obj (by omega), wr_obj (by omega), wr_obj (by omega)]; exact g6
  · rw [wr_obj (by omega), wr_obj (by omega), wr_obj (by omega)]; exact g7 j hj
  · rw [wr_row (by omega), wr_row (by omega), wr_row (by omega)]; exact g8
  · rw [wr_row (by omega), wr_row (by omega), wr_row (by omega)]; exact g9
  · rw [wr_row (by omega), wr_row (by omega), wr_row (by omega)]
theorem c_fail {k : Nat} (h7 : hh + 7 < 72) (hk : k ≤ 9) (H : RdC r n hh a op code τ) (k1 : ∀ τ', RdF hh k (tPl r n a) τ' → frR hh τ τ' → Q (some (vB false)) τ') : M0 E d qX4_fail [vR 77, vI (k : Int)] τ Q := by
  obtain ⟨g1, ⟨i, m, im, m6, t3, tc, t2, tm, x2, ea⟩, g3, g4, g5, g6, g7⟩ := H
  obtain ⟨c1, c2, c3⟩ := tc i im
  refine mX4_fail ?_
  rw [x2, t3, Int.toNat_natCast, c2, ea]
  refine ⟨⟨by omega, by omega⟩, fun q => by omega, fun _ => ⟨fun q => by omega, fun _ => ⟨by omega, by omega, k1 _ ⟨?_, ?_, ?_, ?_⟩ ((frR.rf.w (by omega) (by omega)).w (by omega) (by omega))⟩⟩⟩
  · rw [wr_row (by omega), wr_same]
  · rw [wr_same]; rfl
  · rw [wr_row (by omega), wr_row (by omega)]; exact g1
  · rw [wr_obj (by omega), wr_obj (by omega), g6]; omega
theorem kdR {hh : Nat} (h : hh = 4 ∨ hh = 38) : KD hh = some (.inr 2) ∧ KD (hh + 6) = some (.inr 5) := by
  rcases h with h | h <;> subst h <;> exact ⟨rfl, rfl⟩
theorem c_emit {x : Int} (h4 : hh = 4 ∨ hh = 38) (hx : inR x) (hl : code.length < 1600) (H : RdC r n hh a op code τ) (k1 : ∀ τ', RdC r n hh a op (code ++ [x]) τ' → frR hh τ τ' → (∀ i, τ' 77 i = τ 77 i) → Q none τ') : M0 E d qX5_emit [vR (hh + 6), vI x] τ Q := by
  obtain ⟨g1, ⟨i, m, im, m6, t3, tc, t2, tm, x2, ea⟩, g3, g4, g5, g6, g7, g8, g9⟩ := H
  refine mX5_emit (kdR h4).2 ?_
  rw [wr_obj (show hh + 6 ≠ hh + 6 + 1 by omega), g6, Int.toNat_natCast]
  have o : ∀ o, o ≠ hh + 6 → o ≠ hh + 7 → wr (wr τ (hh + 6 + 1) code.length x) (hh + 6) 1 ((code.length : Int) + 1) o = τ o := fun o a b => by rw [wr_obj a, wr_obj (by omega)]
  refine ⟨fun q => by omega, fun _ => ⟨by omega, by omega, hx, ⟨by omega, by omega⟩, k1 _ ⟨?_, ⟨i, m, im, m6, ?_, fun j hj => ?_, t2, tm, ?_, ea⟩, ?_, ?_, ?_, ?_, fun j hj => ?_, ?_, ?_⟩ ⟨fun o' a b c => o o' b c, fun j hj => ?_, fun j hj => by rw [o 77 (by omega) (by omega)]⟩ (fun j => by rw [o 77 (by omega) (by omega)])⟩⟩
  · rw [o 77 (by omega) (by omega)]; exact g1
  · rw [o 72 (by omega) (by omega)]; exact t3
  · unfold tkC
    rw [o 73 (by omega) (by omega), o 74 (by omega) (by omega), o 75 (by omega) (by omega)]; exact tc j hj
  · rw [o 77 (by omega) (by omega)]; exact x2
  · rw [o 77 (by omega) (by omega)]; exact g3
  · rw [o 77 (by omega) (by omega)]; exact g4
  · rw [o 77 (by omega) (by omega)]; exact g5
  · rw [wr_same, List.length_append]; show _ = ((code.length + 1 : Nat) : Int); omega
  · rw [List.length_append] at hj
    have hj : j < code.length + 1 := hj
    rw [wr_obj (by omega)]
    by_cases q : j = code.length
    · subst q
      show wr τ (hh + 7) code.length x (hh + 7) code.length = _
      rw [wr_same, List.getD_eq_getElem?_getD, List.getElem?_append_right (Nat.le_refl _), Nat.sub_self]; rfl
    · show wr τ (hh + 7) code.length x (hh + 7) j = _
      rw [wr_row q, g7 j (by omega), List.getD_eq_getElem?_getD, List.getD_eq_getElem?_getD, List.getElem?_append_left (by omega)]
  · rw [o 77 (by omega) (by omega)]; exact g8
  · rw [o 77 (by omega) (by omega)]; exact g9
  · rw [wr_row hj, wr_obj (by omega)]
theorem c_emitF {k p : Nat} {x : Int} (h4 : hh = 4 ∨ hh = 38) (hx : inR x) (H : RdF hh k p τ) (k1 : ∀ τ', RdF hh k p τ' → frR hh τ τ' → Q none τ') : M0 E d qX5_emit [vR (hh + 6), vI x] τ Q := by
  obtain ⟨g1, g2, g3, g4⟩ := H
  refine mX5_emit (kdR h4).2 ?_
  rw [wr_obj (show hh + 6 ≠ hh + 6 + 1 by omega)]
  refine ⟨fun q => k1 τ ⟨g1, g2, g3, g4⟩ frR.rf, fun q => ⟨g4, by omega, hx, ⟨by omega, by omega⟩, k1 _ ⟨?_, ?_, ?_, ?_⟩ ⟨fun o' a b c => by rw [wr_obj b, wr_obj (by omega)], fun j hj => by rw [wr_row hj, wr_obj (by omega)], fun j hj => by rw [wr_obj (by omega), wr_obj (by omega)]⟩⟩⟩
  · rw [wr_obj (by omega), wr_obj (by omega)]; exact g1
  · rw [wr_obj (by omega), wr_obj (by omega)]; exact g2
  · rw [wr_obj (by omega), wr_obj (by omega)]; exact g3
  · rw [wr_same]; omega
theorem c_readSign {c : Int} (h7 : hh + 7 < 72) (ha : a ≤ n) (hr : ∀ i, 0 ≤ r i ∧ r i ≤ 255) (hc : inR c) (H : RdC r n hh a op code τ) (kT : tSb r n a c = true → ∀ τ', RdC r n hh (tN r n a) op code τ' → frR hh τ τ' → (∀ i, 5 ≤ i → τ' 77 i = τ 77 i) → Q (some (vB true)) τ') (kF : tSb r n a c = false → ∀ τ', RdF hh 1 (tPl r n a) τ' → frR hh τ τ' → Q (some (vB false)) τ') : M0 E (d + 1) qX4_readSign [vR 77, vI c] τ Q :=
  mX4_readSign (c_seesSign ha hr hc H ⟨_, rfl, fun q => c_advance h7 (by rw [(tS_k q).1]; omega) H (fun τ' t1 t2 t3 => ⟨rfl, kT q τ' t1 t2 t3⟩), fun q => c_fail (k := 1) h7 (by omega) H (fun τ' t1 t2 => ⟨_, rfl, kF q τ' t1 t2⟩)⟩)
theorem c_readWord {i : Nat} {x : Int} (h7 : hh + 7 < 72) (ha : a ≤ n) (hr : ∀ i, 0 ≤ r i ∧ r i ≤ 255) (hi : i < 29) (hx : x = (i : Int)) (H : RdC r n hh a op code τ) (kT : tWb r n a i = true → ∀ τ', RdC r n hh (tN r n a) op code τ' → frR hh τ τ' → (∀ i, 5 ≤ i → τ' 77 i = τ 77 i) → Q (some (vB true)) τ') (kF : tWb r n a i = false → ∀ τ', RdF hh 1 (tPl r n a) τ' → frR hh τ τ' → Q (some (vB false)) τ') : M0 E (d + 1) qX4_readWord [vR 77, vI x] τ Q :=
  mX4_readWord (c_seesWord ha hr hi hx H ⟨_, rfl, fun q => c_advance h7 (by rw [(tW_k q).1]; omega) H (fun τ' t1 t2 t3 => ⟨rfl, kT q τ' t1 t2 t3⟩), fun q => c_fail (k := 1) h7 (by omega) H (fun τ' t1 t2 => ⟨_, rfl, kF q τ' t1 t2⟩)⟩)
theorem RdC.op1 {o' : Nat} (h7 : hh + 7 < 72) (H : RdC r n hh a op code τ) {v : Int} (hv : v = (o' : Int)) : RdC r n hh a o' code (wr τ 77 5 v) := by
  obtain ⟨g1, ⟨i, m, im, m6, t3, tc, t2, tm, x2, ea⟩, g3, g4, g5, g6, g7, g8, g9⟩ := H
  refine ⟨by rw [wr_row (by omega)]; exact g1, ⟨i, m, im, m6, by rw [wr_obj (by omega)]; exact t3, fun j hj => ?_, t2, tm, by rw [wr_row (by omega)]; exact x2, ea⟩, by rw [wr_row (by omega)]; exact g3, by rw [wr_row (by omega)]; exact g4, by rw [wr_same, hv], by rw [wr_obj (by omega)]; exact g6, fun j hj => by rw [wr_obj (by omega)]; exact g7 j hj, by rw [wr_row (by omega)]; exact g8, by rw [wr_row (by omega)]; exact g9⟩
  unfold tkC; rw [wr_obj (by omega), wr_obj (by omega), wr_obj (by omega)]; exact tc j hj
theorem c_openBracket {c : Int} (h7 : hh + 7 < 72) (ha : a ≤ n) (hr : ∀ i, 0 ≤ r i ∧ r i ≤ 255) (hc : inR c) (hop : op ≤ 8) (H : RdC r n hh a op code τ) (kT : tSb r n a c = true → ¬ 8 ≤ op → ∀ τ', RdC r n hh (tN r n a) (op + 1) code τ' → frR hh τ τ' → Q (some (vB true)) τ') (k5 : tSb r n a c = true → 8 ≤ op → ∀ τ', RdF hh 5 (tPl r n a) τ' → frR hh τ τ' → Q (some (vB false)) τ') (kF : tSb r n a c = false → ∀ τ', RdF hh 1 (tPl r n a) τ' → frR hh τ τ' → Q (some (vB false)) τ') : M0 E (d + 1) qX4_openBracket [vR 77, vI c] τ Q := by
  have g5 := H.2.2.2.2.1
  refine mX4_openBracket (c_seesSign ha hr hc H ⟨_, rfl, fun q => ?_, fun q => c_fail (k := 1) h7 (by omega) H (fun τ' t1 t2 => ⟨_, rfl, kF q τ' t1 t2⟩)⟩)
  rw [g5]
  refine ⟨fun q2 => ⟨⟨by omega, by omega⟩, c_advance h7 (by rw [(tS_k q).1]; omega) (H.op1 (o' := op + 1) h7 (by omega)) (fun τ' t1 t2 _ => ⟨rfl, kT q (by omega) τ' t1 ((frR.rf.w (by omega) (by omega)).tr t2)⟩)⟩, fun q2 => c_fail (k := 5) h7 (by omega) H (fun τ' t1 t2 => ⟨_, rfl, k5 q (by omega) τ' t1 t2⟩)⟩
theorem c_closeBracket {c : Int} (h7 : hh + 7 < 72) (ha : a ≤ n) (hr : ∀ i, 0 ≤ r i ∧ r i ≤ 255) (hc : inR c) (hop : op + 1 ≤ 8) (H : RdC r n hh a (op + 1) code τ) (kT : tSb r n a c = true → ∀ τ', RdC r n hh (tN r n a) op code τ' → frR hh τ τ' → Q (some (vB true)) τ') (kF : tSb r n a c = false → ∀ τ', RdF hh 1 (tPl r n a) τ' → frR hh τ τ' → Q (some (vB false)) τ') : M0 E (d + 1) qX4_closeBracket [vR 77, vI c] τ Q := by
  have g5 := H.2.2.2.2.1
  refine mX4_closeBracket (c_seesSign ha hr hc H ⟨_, rfl, fun q => ?_, fun q => c_fail (k := 1) h7 (by omega) H (fun τ' t1 t2 => ⟨_, rfl, kF q τ' t1 t2⟩)⟩)
  rw [g5]
  refine ⟨⟨by omega, by omega⟩, c_advance h7 (by rw [(tS_k q).1]; omega) (H.op1 (o' := op) h7 (by omega)) (fun τ' t1 t2 _ => ⟨rfl, kT q τ' t1 ((frR.rf.w (by omega) (by omega)).tr t2)⟩)⟩
end CRead
