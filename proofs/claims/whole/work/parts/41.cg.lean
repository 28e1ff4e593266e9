/-! groups of RepC and RepM under changes elsewhere -/
theorem gT.cg {α α' τ τ' : mm_Mem} (H : gT α τ) (a : α' 0 0 = α 0 0) (b : α' 1 = α 1) (c : τ' 2 1 = τ 2 1) (e : τ' 3 = τ 3) : gT α' τ' := by
  unfold gT; rw [a, b, c, e]; exact H
theorem gF.cg {α α' τ τ' : mm_Mem} (H : gF α τ) (a : α' 0 1 = α 0 1) (b : α' 0 2 = α 0 2) (c : τ' 77 7 = τ 77 7) (e : τ' 77 8 = τ 77 8) : gF α' τ' := by
  unfold gF; rw [a, b, c, e]; exact H
theorem gL.cg {h : Nat} {τ τ' : mm_Mem} (H : gL h τ) (c : τ' 2 2 = τ 2 2) (e : τ' 2 3 = τ 2 3) : gL h τ' := by
  unfold gL; rw [c, e]; exact H
/-- the house's own scalars, names, doors, persons -/
def gU (h : Nat) (α τ : mm_Mem) : Prop := gH h α τ ∧ gN h α τ ∧ gD h α τ ∧ gP h α τ
theorem earA_cg {α α' : mm_Mem} (a : α' 0 7 = α 0 7) (b : α' 8 = α 8) (c : α' 9 = α 9) : earA α' = earA α := by
  funext d t
  unfold earA
  rw [a, b, c]
theorem maskA_cg {α α' : mm_Mem} (a : α' 0 7 = α 0 7) (b : α' 8 = α 8) (c : α' 9 = α 9) : maskA α' = maskA α := by
  funext d
  unfold maskA
  rw [earA_cg a b c]
theorem gH.cg {h : Nat} {α α' τ τ' : mm_Mem} (H : gH h α τ) (s : ∀ i, 3 ≤ i → i ≤ 12 → α' 0 i = α 0 i) (e : ∀ o, h ≤ o → o < h + 34 → τ' o = τ o) : gH h α' τ' := by
  obtain ⟨h1, h2, h3, h4⟩ := H
  refine ⟨fun i hi => ?_, ?_, ?_, fun j hj => ?_⟩
  · rw [e h (by omega) (by omega), s _ (by omega) (by omega)]; exact h1 i hi
  · rw [e h (by omega) (by omega), s _ (by omega) (by omega)]; exact h2
  · rw [e h (by omega) (by omega), s _ (by omega) (by omega)]; exact h3
  · rw [e (h + 8) (by omega) (by omega), s _ (by omega) (by omega)]; exact h4 j hj
theorem gN.cg {h : Nat} {α α' τ τ' : mm_Mem} (H : gN h α τ) (hd : α 0 6 ≤ 4) (hp : α 0 7 ≤ 4) (s : ∀ i, 3 ≤ i → i ≤ 12 → α' 0 i = α 0 i) (r2 : α' 2 = α 2) (r3 : α' 3 = α 3) (r4 : α' 4 = α 4) (e : ∀ o, h ≤ o → o < h + 34 → τ' o = τ o) : gN h α' τ' := by
  obtain ⟨h1, h2, h3⟩ := H
  refine ⟨fun t q => ?_, fun d q => ?_, fun p q => ?_⟩
  · rw [s 5 (by omega) (by omega)] at q; rw [e _ (by omega) (by omega), r2]; exact h1 t q
  · rw [s 6 (by omega) (by omega)] at q; rw [e _ (by omega) (by omega), r3]; exact h2 d q
  · rw [s 7 (by omega) (by omega)] at q; rw [e _ (by omega) (by omega), r4]; exact h3 p q
theorem gD.cg {h : Nat} {α α' τ τ' : mm_Mem} (H : gD h α τ) (hd : α 0 6 ≤ 4) (s : ∀ i, 3 ≤ i → i ≤ 12 → α' 0 i = α 0 i) (r : ∀ j, 5 ≤ j → j ≤ 9 → α' j = α j) (r2 : ∀ j, 15 ≤ j → j ≤ 20 → α' j = α j) (e : ∀ o, h ≤ o → o < h + 34 → τ' o = τ o) : gD h α' τ' := by
  intro d q
  rw [s 6 (by omega) (by omega)] at q
  obtain ⟨h1, h2⟩ := H d q
  rw [maskA_cg (s 7 (by omega) (by omega)) (r 8 (by omega) (by omega)) (r 9 (by omega) (by omega)), r 5 (by omega) (by omega), r 6 (by omega) (by omega), r 7 (by omega) (by omega), r2 15 (by omega) (by omega), r2 16 (by omega) (by omega), r2 17 (by omega) (by omega), r2 18 (by omega) (by omega), r2 19 (by omega) (by omega), r2 20 (by omega) (by omega), e (h + 14 + 4 * d) (by omega) (by omega), e (h + 14 + 4 * d + 1) (by omega) (by omega), e (h + 14 + 4 * d + 2) (by omega) (by omega), e (h + 14 + 4 * d + 3) (by omega) (by omega)]
  exact ⟨h1, h2⟩
theorem gP.cg {h : Nat} {α α' τ τ' : mm_Mem} (H : gP h α τ) (hp : α 0 7 ≤ 4) (s : ∀ i, 3 ≤ i → i ≤ 12 → α' 0 i = α 0 i) (r : ∀ j, 8 ≤ j → j ≤ 14 → α' j = α j) (e : ∀ o, h ≤ o → o < h + 34 → τ' o = τ o) : gP h α' τ' := by
  intro p q i hi
  rw [s 7 (by omega) (by omega)] at q
  rw [e _ (by omega) (by omega), r _ (by omega) (by omega)]
  exact H p q i hi
theorem gW.cg {α α' τ τ' : mm_Mem} (H : gW α τ) (ht : α 0 5 ≤ 3) (s : ∀ i, 3 ≤ i → i ≤ 12 → α' 0 i = α 0 i) (r : ∀ j, 21 ≤ j → j ≤ 23 → α' j = α j) (e : ∀ o, 78 ≤ o → o < 91 → τ' o = τ o) : gW α' τ' := by
  obtain ⟨⟨h1, h2, h3⟩, h4⟩ := H
  refine ⟨⟨?_, ?_, fun q => ?_⟩, fun t n q1 q2 => ?_⟩
  · rw [e _ (by omega) (by omega), s _ (by omega) (by omega)]; exact h1
  · rw [e _ (by omega) (by omega), s _ (by omega) (by omega)]; exact h2
  · rw [s 3 (by omega) (by omega)] at q; rw [e _ (by omega) (by omega), s 3 (by omega) (by omega), s 4 (by omega) (by omega)]; exact h3 q
  · rw [s 5 (by omega) (by omega)] at q1
    have w : wpA α' t n = wpA α t n := by
      funext i
      unfold wpA wnA
      rw [s 4 (by omega) (by omega), r 21 (by omega) (by omega)]
    rw [e _ (by omega) (by omega), e _ (by omega) (by omega), e _ (by omega) (by omega), w, r 23 (by omega) (by omega), r 22 (by omega) (by omega)]
    exact h4 t n q1 q2
theorem gO.cg {α α' τ τ' : mm_Mem} (H : gO α τ) (a : α' 0 14 = α 0 14) (b : α' 25 = α 25) (c : τ' 2 12 = τ 2 12) (e : τ' 138 = τ 138) : gO α' τ' := by
  unfold gO; rw [a, b, c, e]; exact H
theorem gR.cg {α α' τ τ' : mm_Mem} (H : gR α τ) (a : α' 24 = α 24) (e : τ' 139 = τ 139) : gR α' τ' := by
  unfold gR; rw [a, e]; exact H
theorem gX.cg {k : Nat} {τ τ' : mm_Mem} (H : gX k τ) (a : τ' 76 = τ 76) (b : τ' 133 2 = τ 133 2) (e : τ' 134 = τ 134) : gX k τ' := by
  unfold gX; rw [a, b, e]; exact H
theorem gY.cg {k : Nat} {τ τ' : mm_Mem} (H : gY k τ) (e : ∀ o, 91 ≤ o → o < 133 → τ' o = τ o) (kd : ∀ o, KD o = some (.inr 0) → o < 133) : gY k τ' := fun o h1 h2 => by rw [e o h1 (kd o h2)]; exact H o h1 h2
theorem kdD_133 (o : Nat) (kd : KD o = some (.inr 0)) : o < 133 := by
  have ch : (List.range 194).all (fun d => decide (KD d = some (.inr 0) → d < 133)) = true := by decide +kernel
  exact of_decide_eq_true (List.all_eq_true.mp ch o (List.mem_range.mpr (KD_lt kd))) kd
theorem WF.le {k : Nat} {α : mm_Mem} (w : WF k α) : α 0 5 ≤ 3 ∧ α 0 6 ≤ 4 ∧ α 0 7 ≤ 4 ∧ 0 ≤ α 0 5 ∧ 0 ≤ α 0 6 ∧ 0 ≤ α 0 7 := by
  obtain ⟨h, -⟩ := w.2.1
  omega
/-- all but the tape, the fault, the seed, the image and the refusals stays -/
theorem RepC.most {k h : Nat} {α α' τ τ' : mm_Mem} (H : RepC k h α τ) (hw : α 0 5 ≤ 3 ∧ α 0 6 ≤ 4 ∧ α 0 7 ≤ 4) (s : ∀ i, 3 ≤ i → i ≤ 12 → α' 0 i = α 0 i) (r : ∀ j, 2 ≤ j → j ≤ 23 → α' j = α j) (l : τ' 2 2 = τ 2 2 ∧ τ' 2 3 = τ 2 3) (e : ∀ o, 4 ≤ o → o < 72 → τ' o = τ o) (e2 : ∀ o, 78 ≤ o → o < 133 → τ' o = τ o) (x : τ' 76 = τ 76 ∧ τ' 133 2 = τ 133 2 ∧ τ' 134 = τ 134) (T : gT α' τ') (F : gF α' τ') (S : τ' 2 14 = α' 0 13) (O : gO α' τ') (R : gR α' τ') : RepC k h α' τ' := by
  obtain ⟨h1, h2, h3, h4, h5, h6, h7, h8, h9, h10, h11, h12, h13⟩ := H
  have hh := h3.1
  have e' : ∀ o, h ≤ o → o < h + 34 → τ' o = τ o := fun o q1 q2 => e o (by omega) (by omega)
  exact ⟨T, F, h3.cg l.1 l.2, h4.cg s e', h5.cg hw.2.1 hw.2.2 s (r 2 (by omega) (by omega)) (r 3 (by omega) (by omega)) (r 4 (by omega) (by omega)) e', h6.cg hw.2.1 s (fun j a b => r j (by omega) (by omega)) (fun j a b => r j (by omega) (by omega)) e', h7.cg hw.2.2 s (fun j a b => r j (by omega) (by omega)) e', h8.cg hw.1 s (fun j a b => r j (by omega) (by omega)) (fun o a b => e2 o a (by omega)), S, O, R, h12.cg x.1 x.2.1 x.2.2, h13.cg (fun o a b => e2 o (by omega) b) kdD_133⟩
theorem RepM.most {b : Nat} {α α' τ τ' : mm_Mem} (H : RepM b α τ) (s : ∀ i, 3 ≤ i → i ≤ 12 → α' 0 i = α 0 i) (r : ∀ j, 2 ≤ j → j ≤ 23 → α' j = α j) (l : τ' 140 12 = τ 140 12) (e : ∀ o, 142 ≤ o → o < 165 → τ' o = τ o) (e2 : ∀ o, 176 ≤ o → o < 188 → τ' o = τ o) (T : τ' 140 1 = α' 0 0 ∧ ∀ i, i < 1600 → τ' 141 i = α' 1 i) (F : τ' 140 10 = α' 0 1 ∧ τ' 140 11 = α' 0 2) (S : τ' 140 71 = α' 0 13) (O : τ' 140 73 = α' 0 14 ∧ ∀ i : Nat, (i : Int) < α' 0 14 → τ' 193 i = α' 25 i) (R : ∀ i, i < 6 → τ' 173 i = α' 24 i) : RepM b α' τ' := by
  obtain ⟨h1, h2, h3, h4, h5, h6, h7, h8, h9, h10, h11, h12⟩ := H
  refine ⟨⟨h1.1, by rw [l]; exact h1.2⟩, T, F, ?_, ?_, ?_, ?_, ?_, ?_, S, O, R⟩
  · unfold sH
    rw [e 142 (by omega) (by omega), e 143 (by omega) (by omega), e 144 (by omega) (by omega), e 152 (by omega) (by omega), e 157 (by omega) (by omega), e 148 (by omega) (by omega), e 163 (by omega) (by omega), e 164 (by omega) (by omega), s 3 (by omega) (by omega), s 4 (by omega) (by omega), s 5 (by omega) (by omega), s 6 (by omega) (by omega), s 7 (by omega) (by omega), s 11 (by omega) (by omega), s 12 (by omega) (by omega)]
    obtain ⟨a1, a2, a3, a4, a5, a6, a7, a8⟩ := h4
    exact ⟨a1, a2, a3, a4, a5, fun j hj => by rw [s _ (by omega) (by omega)]; exact a6 j hj, a7, a8⟩
  · unfold sN
    rw [e 145 (by omega) (by omega), e 153 (by omega) (by omega), e 158 (by omega) (by omega), s 5 (by omega) (by omega), s 6 (by omega) (by omega), s 7 (by omega) (by omega), r 2 (by omega) (by omega), r 3 (by omega) (by omega), r 4 (by omega) (by omega)]
    exact h5
  · unfold sD
    rw [e 154 (by omega) (by omega), e 155 (by omega) (by omega), e 156 (by omega) (by omega), s 6 (by omega) (by omega), r 5 (by omega) (by omega), r 6 (by omega) (by omega), r 7 (by omega) (by omega)]
    exact h6
  · unfold sP
    rw [e 159 (by omega) (by omega), e 160 (by omega) (by omega), e 161 (by omega) (by omega), e 162 (by omega) (by omega), s 7 (by omega) (by omega), r 8 (by omega) (by omega), r 9 (by omega) (by omega), r 10 (by omega) (by omega), r 11 (by omega) (by omega)]
    exact h7
  · unfold sC
    rw [e2 179 (by omega) (by omega), e2 180 (by omega) (by omega), e2 181 (by omega) (by omega), e2 182 (by omega) (by omega), e2 183 (by omega) (by omega), e2 184 (by omega) (by omega), e2 185 (by omega) (by omega), e2 186 (by omega) (by omega), e2 187 (by omega) (by omega), r 12 (by omega) (by omega), r 13 (by omega) (by omega), r 14 (by omega) (by omega), r 15 (by omega) (by omega), r 16 (by omega) (by omega), r 17 (by omega) (by omega), r 18 (by omega) (by omega), r 19 (by omega) (by omega), r 20 (by omega) (by omega)]
    exact h8
  · intro t n q1 q2
    rw [s 5 (by omega) (by omega)] at q1
    obtain ⟨a1, a2, a3⟩ := h9 t n q1 q2
    rw [e2 176 (by omega) (by omega), e2 177 (by omega) (by omega), e2 178 (by omega) (by omega), r 22 (by omega) (by omega), r 23 (by omega) (by omega)]
    refine ⟨fun i hi => ?_, a2, a3⟩
    rw [s 4 (by omega) (by omega)] at hi
    unfold wnA
    rw [r 21 (by omega) (by omega)]
    exact a1 i hi
/-- WF looks only at what it names -/
theorem WF.most {k k' : Nat} {α α' : mm_Mem} (w : WF k α) (hk : k ≤ k') (s : ∀ i, 3 ≤ i → i ≤ 12 → α' 0 i = α 0 i) (r : ∀ j, 2 ≤ j → j ≤ 23 → α' j = α j) (T : 0 ≤ α' 0 0 ∧ α' 0 0 ≤ 1600 ∧ (∀ i, 0 ≤ α' 1 i ∧ α' 1 i ≤ 255) ∧ 0 ≤ α' 0 1 ∧ α' 0 1 ≤ 5 ∧ -1 ≤ α' 0 2 ∧ α' 0 2 ≤ 1600) (S : 0 ≤ α' 0 13 ∧ α' 0 13 ≤ 2147483647) (O : 0 ≤ α' 0 14 ∧ α' 0 14 ≤ 69 ∧ ∀ i, 0 ≤ α' 25 i ∧ α' 25 i ≤ 255) (R : ∀ i, 0 ≤ α' 24 i ∧ α' 24 i ≤ k') : WF k' α' := by
  obtain ⟨-, h2, h3, h4, h5, h6, h7, -, -⟩ := w
  refine ⟨T, ?_, ?_, ?_, ?_, ?_, ?_, S, O⟩
  · unfold wfH
    rw [s 3 (by omega) (by omega), s 4 (by omega) (by omega), s 5 (by omega) (by omega), s 6 (by omega) (by omega), s 7 (by omega) (by omega), s 8 (by omega) (by omega), s 9 (by omega) (by omega), s 10 (by omega) (by omega), s 11 (by omega) (by omega), s 12 (by omega) (by omega)]
    exact h2
  · unfold wfD
    rw [s 6 (by omega) (by omega), r 5 (by omega) (by omega), r 6 (by omega) (by omega), r 7 (by omega) (by omega)]
    exact h3
  · unfold wfP
    rw [s 5 (by omega) (by omega), s 6 (by omega) (by omega), s 7 (by omega) (by omega), r 8 (by omega) (by omega), r 9 (by omega) (by omega), r 10 (by omega) (by omega), r 11 (by omega) (by omega), r 12 (by omega) (by omega)]
    exact h4
  · unfold wfE
    rw [r 15 (by omega) (by omega), r 16 (by omega) (by omega), r 17 (by omega) (by omega)]
    exact h5
  · obtain ⟨a, b, c⟩ := h6
    refine ⟨fun p => ?_, fun d => ?_, R⟩
    · rw [r 13 (by omega) (by omega), r 14 (by omega) (by omega)]; have := a p; omega
    · rw [r 18 (by omega) (by omega), r 19 (by omega) (by omega), r 20 (by omega) (by omega)]; have := b d; omega
  · unfold wfW alA wnA
    rw [s 3 (by omega) (by omega), s 4 (by omega) (by omega), s 5 (by omega) (by omega), r 21 (by omega) (by omega), r 22 (by omega) (by omega), r 23 (by omega) (by omega)]
    exact h7
