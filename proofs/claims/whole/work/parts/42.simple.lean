/-! tape, refusals, seed, octets -/
def refA (α : mm_Mem) (i : Nat) : mm_Mem := wr α 24 i (α 24 i + 1)
def putA (α : mm_Mem) (x s : Int) : mm_Mem := wr (wr α 1 (α 0 0).toNat (mm_and (mm_shr x s) 255)) 0 0 (α 0 0 + 1)
def put4 (α : mm_Mem) (x : Int) : mm_Mem := putA (putA (putA (putA α x 24) x 16) x 8) x 0
def feedA (α : mm_Mem) (a b c d e : Int) : mm_Mem := if α 0 0 + 20 ≤ 1600 then put4 (put4 (put4 (put4 (put4 α a) b) c) d) e else refA α 0
def feedR (α : mm_Mem) : Int := if α 0 0 + 20 ≤ 1600 then α 0 0 + 20 else -1
def endA (α : mm_Mem) (n : Int) : mm_Mem := if 0 ≤ n ∧ n ≤ α 0 0 then wr α 0 0 n else refA α 0
def endR (α : mm_Mem) (n : Int) : Bool := decide (0 ≤ n ∧ n ≤ α 0 0)
def faultR (α : mm_Mem) (w : Int) : Int := if w = 0 then α 0 1 else if w = 1 then α 0 2 else -1
def statusR (α : mm_Mem) (w : Int) : Int := if 0 ≤ w ∧ w < 6 then α 24 w.toNat else -1
def seedA (α : mm_Mem) (n : Int) : mm_Mem := if 0 ≤ n then wr α 0 13 n else refA α 4
def seedR (n : Int) : Bool := decide (0 ≤ n)
def octetR (α : mm_Mem) (w : Int) : Int := if 0 ≤ w ∧ w < α 0 14 then α 25 w.toNat else -1
theorem zm_inR (x : Int32) : inR x.toInt := ⟨by have := x.le_toInt; omega, by have := x.toInt_lt; omega⟩
theorem zm_inL (x : Int64) : inL x.toInt := ⟨by have := x.le_toInt; omega, by have := x.toInt_lt; omega⟩
theorem zm_andR (a b : Int) : inR (mm_and a b) := zm_inR _
theorem zm_255 (y : Int) : 0 ≤ mm_and y 255 ∧ mm_and y 255 ≤ 255 := by
  unfold mm_and
  rw [show Int32.ofInt 255 = (255 : Int32) from rfl, pk_and _ 8 (by decide), nI_toInt (by omega)]
  omega
theorem RepC.ref {k h i : Nat} {α τ : mm_Mem} (H : RepC k h α τ) (w : WF k α) (hi : i < 6) : RepC k h (refA α i) (wr τ 139 i (τ 139 i + 1)) := by
  have hw := w.le
  have hr := H.2.2.2.2.2.2.2.2.2.2.1
  rw [hr i hi]
  refine H.most ⟨hw.1, hw.2.1, hw.2.2.1⟩ (fun j _ _ => by rw [refA, wr_obj (by omega)]) (fun j _ _ => by rw [refA, wr_obj (by omega)]) ⟨by rw [wr_obj (by omega)], by rw [wr_obj (by omega)]⟩ (fun o _ _ => wr_obj (by omega)) (fun o _ _ => wr_obj (by omega)) ⟨wr_obj (by omega), by rw [wr_obj (by omega)], wr_obj (by omega)⟩ ?_ ?_ ?_ ?_ ?_
  · exact H.1.cg (by rw [refA, wr_obj (by omega)]) (by rw [refA, wr_obj (by omega)]) (by rw [wr_obj (by omega)]) (wr_obj (by omega))
  · exact H.2.1.cg (by rw [refA, wr_obj (by omega)]) (by rw [refA, wr_obj (by omega)]) (by rw [wr_obj (by omega)]) (by rw [wr_obj (by omega)])
  · rw [wr_obj (by omega), refA, wr_obj (by omega)]; exact H.2.2.2.2.2.2.2.2.1
  · exact H.2.2.2.2.2.2.2.2.2.1.cg (by rw [refA, wr_obj (by omega)]) (by rw [refA, wr_obj (by omega)]) (by rw [wr_obj (by omega)]) (wr_obj (by omega))
  · intro j hj
    unfold refA
    by_cases e : j = i
    · subst e; rw [wr_same, wr_same]
    · rw [wr_row e, wr_row e]; exact hr j hj
theorem RepM.ref {b i : Nat} {α τ : mm_Mem} (H : RepM b α τ) (hi : i < 6) : RepM b (refA α i) (wr τ 173 i (τ 173 i + 1)) := by
  have hr := H.2.2.2.2.2.2.2.2.2.2.2
  rw [hr i hi]
  refine H.most (fun j _ _ => by rw [refA, wr_obj (by omega)]) (fun j _ _ => by rw [refA, wr_obj (by omega)]) (by rw [wr_obj (by omega)]) (fun o _ _ => wr_obj (by omega)) (fun o _ _ => wr_obj (by omega)) ?_ ?_ ?_ ?_ ?_
  · rw [wr_obj (by omega), wr_obj (by omega), refA, wr_obj (by omega), wr_obj (by omega)]; exact H.2.1
  · rw [wr_obj (by omega), refA, wr_obj (by omega)]; exact H.2.2.1
  · rw [wr_obj (by omega), refA, wr_obj (by omega)]; exact H.2.2.2.2.2.2.2.2.2.1
  · rw [wr_obj (by omega), wr_obj (by omega), refA, wr_obj (by omega), wr_obj (by omega)]; exact H.2.2.2.2.2.2.2.2.2.2.1
  · intro j hj
    unfold refA
    by_cases e : j = i
    · subst e; rw [wr_same, wr_same]
    · rw [wr_row e, wr_row e]; exact hr j hj
theorem WF.ref {k i : Nat} {α : mm_Mem} (w : WF k α) : WF (k + 1) (refA α i) := by
  refine w.most (by omega) (fun j _ _ => by rw [refA, wr_obj (by omega)]) (fun j _ _ => by rw [refA, wr_obj (by omega)]) ?_ ?_ ?_ ?_
  · rw [refA, wr_obj (by omega), wr_obj (by omega)]; exact w.1
  · rw [refA, wr_obj (by omega)]; exact w.2.2.2.2.2.2.2.1
  · rw [refA, wr_obj (by omega), wr_obj (by omega)]; exact w.2.2.2.2.2.2.2.2
  · intro j
    have h := w.2.2.2.2.2.1.2.2
    unfold refA
    by_cases e : j = i
    · subst e; rw [wr_same]; have := h j; omega
    · rw [wr_row e]; have := h j; omega
/-- the tape alone is new -/
theorem RepC.tape {k h : Nat} {α α' τ τ' : mm_Mem} (H : RepC k h α τ) (w : WF k α) (a1 : ∀ j, j ≠ 0 → j ≠ 1 → α' j = α j) (a2 : ∀ i, i ≠ 0 → α' 0 i = α 0 i) (t1 : ∀ o, o ≠ 2 → o ≠ 3 → τ' o = τ o) (t2 : ∀ i, i ≠ 1 → τ' 2 i = τ 2 i) (T : gT α' τ') : RepC k h α' τ' := by
  have hw := w.le
  refine H.most ⟨hw.1, hw.2.1, hw.2.2.1⟩ (fun j _ _ => a2 j (by omega)) (fun j _ _ => a1 j (by omega) (by omega)) ⟨t2 _ (by omega), t2 _ (by omega)⟩ (fun o _ _ => t1 o (by omega) (by omega)) (fun o _ _ => t1 o (by omega) (by omega)) ⟨t1 _ (by omega) (by omega), by rw [t1 _ (by omega) (by omega)], t1 _ (by omega) (by omega)⟩ T ?_ ?_ ?_ ?_
  · exact H.2.1.cg (a2 _ (by omega)) (a2 _ (by omega)) (by rw [t1 _ (by omega) (by omega)]) (by rw [t1 _ (by omega) (by omega)])
  · rw [t2 _ (by omega), a2 _ (by omega)]; exact H.2.2.2.2.2.2.2.2.1
  · exact H.2.2.2.2.2.2.2.2.2.1.cg (a2 _ (by omega)) (a1 _ (by omega) (by omega)) (t2 _ (by omega)) (t1 _ (by omega) (by omega))
  · exact H.2.2.2.2.2.2.2.2.2.2.1.cg (a1 _ (by omega) (by omega)) (t1 _ (by omega) (by omega))
theorem RepM.tape {b : Nat} {α α' τ τ' : mm_Mem} (H : RepM b α τ) (a1 : ∀ j, j ≠ 0 → j ≠ 1 → α' j = α j) (a2 : ∀ i, i ≠ 0 → α' 0 i = α 0 i) (t1 : ∀ o, o ≠ 140 → o ≠ 141 → τ' o = τ o) (t2 : ∀ i, i ≠ 1 → τ' 140 i = τ 140 i) (T : τ' 140 1 = α' 0 0 ∧ ∀ i, i < 1600 → τ' 141 i = α' 1 i) : RepM b α' τ' := by
  refine H.most (fun j _ _ => a2 j (by omega)) (fun j _ _ => a1 j (by omega) (by omega)) (t2 _ (by omega)) (fun o _ _ => t1 o (by omega) (by omega)) (fun o _ _ => t1 o (by omega) (by omega)) T ?_ ?_ ?_ ?_
  · rw [t2 _ (by omega), t2 _ (by omega), a2 _ (by omega), a2 _ (by omega)]; exact H.2.2.1
  · rw [t2 _ (by omega), a2 _ (by omega)]; exact H.2.2.2.2.2.2.2.2.2.1
  · rw [t2 _ (by omega), a2 _ (by omega), t1 _ (by omega) (by omega), a1 _ (by omega) (by omega)]; exact H.2.2.2.2.2.2.2.2.2.2.1
  · rw [t1 _ (by omega) (by omega), a1 _ (by omega) (by omega)]; exact H.2.2.2.2.2.2.2.2.2.2.2
theorem WF.tape {k : Nat} {α α' : mm_Mem} (w : WF k α) (a1 : ∀ j, j ≠ 0 → j ≠ 1 → α' j = α j) (a2 : ∀ i, i ≠ 0 → α' 0 i = α 0 i) (T : 0 ≤ α' 0 0 ∧ α' 0 0 ≤ 1600 ∧ ∀ i, 0 ≤ α' 1 i ∧ α' 1 i ≤ 255) : WF k α' := by
  have w1 := w.1
  refine w.most (by omega) (fun j _ _ => a2 j (by omega)) (fun j _ _ => a1 j (by omega) (by omega)) ?_ ?_ ?_ ?_
  · rw [a2 1 (by omega), a2 2 (by omega)]; exact ⟨T.1, T.2.1, T.2.2, w1.2.2.2⟩
  · rw [a2 13 (by omega)]; exact w.2.2.2.2.2.2.2.1
  · rw [a2 14 (by omega), a1 25 (by omega) (by omega)]; exact w.2.2.2.2.2.2.2.2
  · rw [a1 24 (by omega) (by omega)]; exact w.2.2.2.2.2.1.2.2
theorem WF.up {k k' : Nat} {α : mm_Mem} (w : WF k α) (hk : k ≤ k') : WF k' α := by
  have h := w.2.2.2.2.2.1.2.2
  exact w.most hk (fun _ _ _ => rfl) (fun _ _ _ => rfl) w.1 w.2.2.2.2.2.2.2.1 w.2.2.2.2.2.2.2.2 (fun i => by have := h i; omega)
theorem RepC.up {k k' h : Nat} {α τ : mm_Mem} (H : RepC k h α τ) (hk : k ≤ k') : RepC k' h α τ := by
  obtain ⟨h1, h2, h3, h4, h5, h6, h7, h8, h9, h10, h11, h12, h13⟩ := H
  exact ⟨h1, h2, h3, h4, h5, h6, h7, h8, h9, h10, h11, ⟨h12.1, h12.2.1, by have := h12.2.2.1; omega, h12.2.2.2⟩, fun o a b => by have := h13 o a b; omega⟩
theorem gT.put {α τ : mm_Mem} (H : gT α τ) (hn : 0 ≤ α 0 0) (x s : Int) : gT (putA α x s) (wr (wr τ 3 (τ 2 1).toNat (mm_and (mm_shr x s) 255)) 2 1 (τ 2 1 + 1)) := by
  obtain ⟨h1, h2⟩ := H
  rw [h1]
  refine ⟨?_, fun i hi => ?_⟩
  · unfold putA; rw [wr_same, wr_same]
  · unfold putA
    rw [wr_obj (show (3 : Nat) ≠ 2 by decide), wr_obj (show (1 : Nat) ≠ 0 by decide)]
    by_cases e : i = (α 0 0).toNat
    · subst e; rw [wr_same, wr_same]
    · rw [wr_row e, wr_row e]; exact h2 i hi
theorem putA_o {α : mm_Mem} {x s : Int} {j : Nat} (h0 : j ≠ 0) (h1 : j ≠ 1) : putA α x s j = α j := by unfold putA; rw [wr_obj h0, wr_obj h1]
theorem putA_i {α : mm_Mem} {x s : Int} {i : Nat} (h0 : i ≠ 0) : putA α x s 0 i = α 0 i := by unfold putA; rw [wr_row h0, wr_obj (by decide)]
theorem putA_0 {α : mm_Mem} {x s : Int} : putA α x s 0 0 = α 0 0 + 1 := by unfold putA; rw [wr_same]
theorem RepC.put {k h : Nat} {α τ : mm_Mem} (H : RepC k h α τ) (w : WF k α) (x s : Int) : RepC k h (putA α x s) (wr (wr τ 3 (τ 2 1).toNat (mm_and (mm_shr x s) 255)) 2 1 (τ 2 1 + 1)) :=
  H.tape w (fun _ a b => putA_o a b) (fun _ a => putA_i a) (fun o a b => by rw [wr_obj a, wr_obj b]) (fun i a => by rw [wr_row a, wr_obj (by decide)]) (H.1.put w.1.1 x s)
theorem WF.put {k : Nat} {α : mm_Mem} (w : WF k α) (hn : α 0 0 < 1600) (x s : Int) : WF k (putA α x s) := by
  have w1 := w.1
  refine w.tape (fun _ a b => putA_o a b) (fun _ a => putA_i a) ⟨by rw [putA_0]; omega, by rw [putA_0]; omega, fun i => ?_⟩
  unfold putA
  rw [wr_obj (by decide)]
  by_cases e : i = (α 0 0).toNat
  · subst e; rw [wr_same]; exact zm_255 _
  · rw [wr_row e]; exact w1.2.2.1 i
theorem RepM.put {b : Nat} {α τ : mm_Mem} (H : RepM b α τ) (x s : Int) : RepM b (putA α x s) (wr (wr τ 141 (τ 140 1).toNat (mm_and (mm_shr x s) 255)) 140 1 (τ 140 1 + 1)) := by
  refine H.tape (fun _ a b => putA_o a b) (fun _ a => putA_i a) (fun o a b => by rw [wr_obj a, wr_obj b]) (fun i a => by rw [wr_row a, wr_obj (by decide)]) ?_
  obtain ⟨h1, h2⟩ := H.2.1
  rw [h1]
  refine ⟨?_, fun i hi => ?_⟩
  · unfold putA; rw [wr_same, wr_same]
  · unfold putA
    rw [wr_obj (show (141 : Nat) ≠ 140 by decide), wr_obj (show (1 : Nat) ≠ 0 by decide)]
    by_cases e : i = (α 0 0).toNat
    · subst e; rw [wr_same, wr_same]
    · rw [wr_row e, wr_row e]; exact h2 i hi
section Simple
variable {E : mm_Env} {d k h b : Nat} {α τ : mm_Mem} {Q : mm_Q0}
theorem c_put1 {x s s' : Int} (w : WF k α) (H : RepC k h α τ) (hn : α 0 0 < 1600) (hs : 0 ≤ s) (hs2 : s ≤ 24) (es : s + (-8) = s') (k1 : ∀ τ', RepC k h (putA α x s) τ' → FrC τ τ' → V0 E d qX10_putNumber 3 [some (vR 2), some (vI x), some (vI s')] [] τ' Q) : V0 E d qX10_putNumber 3 [some (vR 2), some (vI x), some (vI s)] [] τ Q := by
  have h1 := H.1.1
  have w1 := w.1
  refine bX10_putNumber_3 ⟨⟨by omega, by omega⟩, fun q => by omega, fun _ => ⟨fun q => by omega, fun _ => ⟨by omega, by omega, zm_andR _ _, ⟨by omega, by omega⟩, ?_⟩⟩⟩
  rw [es]
  exact k1 _ (H.put w x s) ((FrC.rf.w1 (by omega)).w1 (by omega))
theorem c_putNumber {x : Int} (w : WF k α) (H : RepC k h α τ) (hn : α 0 0 + 4 ≤ 1600) (k1 : ∀ τ', WF k (put4 α x) → RepC k h (put4 α x) τ' → FrC τ τ' → Q none τ') : M0 E d qX10_putNumber [vR 2, vI x] τ Q := by
  refine mX10_putNumber ?_
  refine c_put1 w H (by omega) (by decide) (by decide) (show (24 : Int) + (-8) = 16 by decide) (fun τ1 H1 F1 => ?_)
  have w1 := w.put (by omega) x 24
  have n1 : putA α x 24 0 0 = α 0 0 + 1 := putA_0
  refine c_put1 w1 H1 (by omega) (by decide) (by decide) (show (16 : Int) + (-8) = 8 by decide) (fun τ2 H2 F2 => ?_)
  have w2 := w1.put (by omega) x 16
  have n2 : putA (putA α x 24) x 16 0 0 = α 0 0 + 2 := by rw [putA_0]; omega
  refine c_put1 w2 H2 (by omega) (by decide) (by decide) (show (8 : Int) + (-8) = 0 by decide) (fun τ3 H3 F3 => ?_)
  have w3 := w2.put (by omega) x 8
  have n3 : putA (putA (putA α x 24) x 16) x 8 0 0 = α 0 0 + 3 := by rw [putA_0]; omega
  refine c_put1 w3 H3 (by omega) (by decide) (by decide) (show (0 : Int) + (-8) = -8 by decide) (fun τ4 H4 F4 => ?_)
  have w4 := w3.put (by omega) x 0
  exact bX10_putNumber_3 ⟨⟨by decide, by decide⟩, fun _ => k1 τ4 w4 H4 (((F1.tr F2).tr F3).tr F4), fun q => absurd (show (-8 : Int) < 0 by decide) q⟩
theorem put4_0 {x : Int} : put4 α x 0 0 = α 0 0 + 4 := by unfold put4; rw [putA_0, putA_0, putA_0, putA_0]; omega
theorem c_feed {a0 a1 a2 a3 a4 : Int} (hk : k ≤ 600) (w : WF k α) (H : RepC k h α τ) (k1 : ∀ τ', RepC k h (feedA α a0 a1 a2 a3 a4) τ' → FrC τ τ' → Q (some (vI (feedR α))) τ') : M0 E (d + 1) qX10_feed [vR 2, vI a0, vI a1, vI a2, vI a3, vI a4] τ Q := by
  have h1 := H.1.1
  have w1 := w.1
  have hr := H.2.2.2.2.2.2.2.2.2.2.1 0 (by decide)
  have wr0 := w.2.2.2.2.2.1.2.2 0
  refine mX10_feed ⟨⟨by omega, by omega⟩, fun q => ?_, fun q => ⟨⟨by omega, by omega⟩, ?_⟩⟩
  · rw [h1] at q
    refine c_putNumber w H (by omega) (fun τ1 v1 H1 F1 => ⟨rfl, ?_⟩)
    have n1 : put4 α a0 0 0 = α 0 0 + 4 := put4_0
    refine c_putNumber v1 H1 (by omega) (fun τ2 v2 H2 F2 => ⟨rfl, ?_⟩)
    have n2 : put4 (put4 α a0) a1 0 0 = α 0 0 + 8 := by rw [put4_0]; omega
    refine c_putNumber v2 H2 (by omega) (fun τ3 v3 H3 F3 => ⟨rfl, ?_⟩)
    have n3 : put4 (put4 (put4 α a0) a1) a2 0 0 = α 0 0 + 12 := by rw [put4_0]; omega
    refine c_putNumber v3 H3 (by omega) (fun τ4 v4 H4 F4 => ⟨rfl, ?_⟩)
    have n4 : put4 (put4 (put4 (put4 α a0) a1) a2) a3 0 0 = α 0 0 + 16 := by rw [put4_0]; omega
    refine c_putNumber v4 H4 (by omega) (fun τ5 v5 H5 F5 => ⟨rfl, ?_⟩)
    have n5 : put4 (put4 (put4 (put4 (put4 α a0) a1) a2) a3) a4 0 0 = α 0 0 + 20 := by rw [put4_0]; omega
    rw [H5.1.1, n5]
    have e1 : feedA α a0 a1 a2 a3 a4 = put4 (put4 (put4 (put4 (put4 α a0) a1) a2) a3) a4 := if_pos q
    have e2 : feedR α = α 0 0 + 20 := if_pos q
    rw [e1, e2] at k1
    exact k1 τ5 H5 ((((F1.tr F2).tr F3).tr F4).tr F5)
  · rw [h1] at q
    have e1 : feedA α a0 a1 a2 a3 a4 = refA α 0 := if_neg q
    have e2 : feedR α = -1 := if_neg q
    rw [e1, e2] at k1
    exact k1 _ (H.ref w (by decide)) (FrC.rf.w1 (by omega))
theorem WF.feed {a0 a1 a2 a3 a4 : Int} (w : WF k α) : WF (k + 1) (feedA α a0 a1 a2 a3 a4) := by
  unfold feedA
  have w1 := w.1
  split
  · rename_i q
    have four : ∀ {β : mm_Mem} {x : Int}, WF k β → β 0 0 + 4 ≤ 1600 → WF k (put4 β x) := by
      intro β x v hb
      unfold put4
      have p1 := v.put (by omega) x 24
      have n1 : putA β x 24 0 0 = β 0 0 + 1 := putA_0
      have p2 := p1.put (by omega) x 16
      have n2 : putA (putA β x 24) x 16 0 0 = β 0 0 + 2 := by rw [putA_0]; omega
      have p3 := p2.put (by omega) x 8
      have n3 : putA (putA (putA β x 24) x 16) x 8 0 0 = β 0 0 + 3 := by rw [putA_0]; omega
      exact p3.put (by omega) x 0
    have v1 := four (x := a0) w (by omega)
    have v2 := four (x := a1) v1 (by rw [put4_0]; omega)
    have v3 := four (x := a2) v2 (by rw [put4_0, put4_0]; omega)
    have v4 := four (x := a3) v3 (by rw [put4_0, put4_0, put4_0]; omega)
    have v5 := four (x := a4) v4 (by rw [put4_0, put4_0, put4_0, put4_0]; omega)
    exact v5.up (by omega)
  · exact w.ref
theorem m_put1 {x s s' : Int} (w : WF k α) (H : RepM b α τ) (hn : α 0 0 < 1600) (hs : 0 ≤ s) (hs2 : s ≤ 24) (es : s + (-8) = s') (k1 : ∀ τ', RepM b (putA α x s) τ' → FrM τ τ' → V0 E d qX11_put 3 [some (vR 140), some (vI x), some (vI s')] [] τ' Q) : V0 E d qX11_put 3 [some (vR 140), some (vI x), some (vI s)] [] τ Q := by
  have h1 := H.2.1.1
  have w1 := w.1
  refine bX11_put_3 ⟨⟨by omega, by omega⟩, fun q => by omega, fun _ => ⟨by omega, by omega, zm_andR _ _, ⟨by omega, by omega⟩, ?_⟩⟩
  rw [es]
  exact k1 _ (H.put x s) ((FrM.rf.w1 (by omega)).w1 (by omega))
theorem m_put {x : Int} (w : WF k α) (H : RepM b α τ) (hn : α 0 0 + 4 ≤ 1600) (k1 : ∀ τ', WF k (put4 α x) → RepM b (put4 α x) τ' → FrM τ τ' → Q none τ') : M0 E d qX11_put [vR 140, vI x] τ Q := by
  refine mX11_put ?_
  refine m_put1 w H (by omega) (by decide) (by decide) (show (24 : Int) + (-8) = 16 by decide) (fun τ1 H1 F1 => ?_)
  have w1 := w.put (by omega) x 24
  have n1 : putA α x 24 0 0 = α 0 0 + 1 := putA_0
  refine m_put1 w1 H1 (by omega) (by decide) (by decide) (show (16 : Int) + (-8) = 8 by decide) (fun τ2 H2 F2 => ?_)
  have w2 := w1.put (by omega) x 16
  have n2 : putA (putA α x 24) x 16 0 0 = α 0 0 + 2 := by rw [putA_0]; omega
  refine m_put1 w2 H2 (by omega) (by decide) (by decide) (show (8 : Int) + (-8) = 0 by decide) (fun τ3 H3 F3 => ?_)
  have w3 := w2.put (by omega) x 8
  have n3 : putA (putA (putA α x 24) x 16) x 8 0 0 = α 0 0 + 3 := by rw [putA_0]; omega
  refine m_put1 w3 H3 (by omega) (by decide) (by decide) (show (0 : Int) + (-8) = -8 by decide) (fun τ4 H4 F4 => ?_)
  have w4 := w3.put (by omega) x 0
  exact bX11_put_3 ⟨⟨by decide, by decide⟩, fun _ => k1 τ4 w4 H4 (((F1.tr F2).tr F3).tr F4), fun q => absurd (show (-8 : Int) < 0 by decide) q⟩
theorem m_refuses {i : Nat} (hk : k ≤ 600) (w : WF k α) (H : RepM b α τ) (hi : i < 6) (k1 : ∀ τ', RepM b (refA α i) τ' → FrM τ τ' → Q (some (vI (-1))) τ') : M0 E d qX11_refuses [vR 140, vI (i : Int)] τ Q := by
  have hr := H.2.2.2.2.2.2.2.2.2.2.2 i hi
  have wr0 := w.2.2.2.2.2.1.2.2 i
  have e : ((i : Int)).toNat = i := by omega
  refine mX11_refuses ⟨by omega, by omega, by omega, by omega, ?_, ?_⟩
  · rw [e, hr]; exact ⟨by omega, by omega⟩
  · rw [e]; exact k1 _ (H.ref hi) (FrM.rf.w1 (by omega))
theorem m_feed {a0 a1 a2 a3 a4 : Int} (hk : k ≤ 600) (w : WF k α) (H : RepM b α τ) (k1 : ∀ τ', RepM b (feedA α a0 a1 a2 a3 a4) τ' → FrM τ τ' → Q (some (vI (feedR α))) τ') : M0 E (d + 1) qX11_feed [vR 140, vI a0, vI a1, vI a2, vI a3, vI a4] τ Q := by
  have h1 := H.2.1.1
  have w1 := w.1
  refine mX11_feed ⟨⟨by omega, by omega⟩, fun q => ?_, fun q => ?_⟩
  · rw [h1] at q
    refine m_put w H (by omega) (fun τ1 v1 H1 F1 => ⟨rfl, ?_⟩)
    have n1 : put4 α a0 0 0 = α 0 0 + 4 := put4_0
    refine m_put v1 H1 (by omega) (fun τ2 v2 H2 F2 => ⟨rfl, ?_⟩)
    have n2 : put4 (put4 α a0) a1 0 0 = α 0 0 + 8 := by rw [put4_0]; omega
    refine m_put v2 H2 (by omega) (fun τ3 v3 H3 F3 => ⟨rfl, ?_⟩)
    have n3 : put4 (put4 (put4 α a0) a1) a2 0 0 = α 0 0 + 12 := by rw [put4_0]; omega
    refine m_put v3 H3 (by omega) (fun τ4 v4 H4 F4 => ⟨rfl, ?_⟩)
    have n4 : put4 (put4 (put4 (put4 α a0) a1) a2) a3 0 0 = α 0 0 + 16 := by rw [put4_0]; omega
    refine m_put v4 H4 (by omega) (fun τ5 v5 H5 F5 => ⟨rfl, ?_⟩)
    have n5 : put4 (put4 (put4 (put4 (put4 α a0) a1) a2) a3) a4 0 0 = α 0 0 + 20 := by rw [put4_0]; omega
    rw [H5.2.1.1, n5]
    have e1 : feedA α a0 a1 a2 a3 a4 = put4 (put4 (put4 (put4 (put4 α a0) a1) a2) a3) a4 := if_pos q
    have e2 : feedR α = α 0 0 + 20 := if_pos q
    rw [e1, e2] at k1
    exact k1 τ5 H5 ((((F1.tr F2).tr F3).tr F4).tr F5)
  · rw [h1] at q
    have e1 : feedA α a0 a1 a2 a3 a4 = refA α 0 := if_neg q
    have e2 : feedR α = -1 := if_neg q
    rw [e1, e2] at k1
    exact m_refuses (i := 0) hk w H (by decide) (fun τ' H' F' => ⟨_, rfl, k1 τ' H' F'⟩)
theorem c_end {a : Int} (hk : k ≤ 600) (w : WF k α) (H : RepC k h α τ) (ha : inR a) (k1 : ∀ τ', RepC k h (endA α a) τ' → FrC τ τ' → Q (some (vB (endR α a))) τ') : M0 E d qX10_end [vR 2, vI a] τ Q := by
  have h1 := H.1.1
  have w1 := w.1
  have hr := H.2.2.2.2.2.2.2.2.2.2.1 0 (by decide)
  have wr0 := w.2.2.2.2.2.1.2.2 0
  have no : ¬ (0 ≤ a ∧ a ≤ α 0 0) → Q (some (vB false)) (wr τ 139 0 (τ 139 0 + 1)) := by
    intro q
    have e1 : endA α a = refA α 0 := if_neg q
    have e2 : endR α a = false := decide_eq_false q
    rw [e1, e2] at k1
    exact k1 _ (H.ref w (by decide)) (FrC.rf.w1 (by omega))
  refine mX10_end ⟨ha, fun q => ⟨⟨by omega, by omega⟩, no (by omega)⟩, fun q => ⟨fun q2 => ?_, fun q2 => ⟨⟨by omega, by omega⟩, no (by omega)⟩⟩⟩
  have q3 : 0 ≤ a ∧ a ≤ α 0 0 := by omega
  have e1 : endA α a = wr α 0 0 a := if_pos q3
  have e2 : endR α a = true := decide_eq_true q3
  rw [e1, e2] at k1
  refine k1 _ (H.tape w (fun j x _ => wr_obj x) (fun i x => wr_row x) (fun o x _ => wr_obj x) (fun i x => wr_row x) ⟨by rw [wr_same, wr_same], fun i hi => ?_⟩) (FrC.rf.w1 (by omega))
  rw [wr_obj (by decide), wr_obj (by decide)]; exact H.1.2 i hi
theorem WF.end_ {a : Int} (w : WF k α) : WF (k + 1) (endA α a) := by
  unfold endA
  split
  · rename_i q
    have w1 := w.1
    refine (w.tape (fun j x _ => wr_obj x) (fun i x => wr_row x) ⟨by rw [wr_same]; omega, by rw [wr_same]; omega, fun i => ?_⟩).up (by omega)
    rw [wr_obj (by decide)]; exact w1.2.2.1 i
  · exact w.ref
theorem m_end {a : Int} (hk : k ≤ 600) (w : WF k α) (H : RepM b α τ) (ha : inR a) (k1 : ∀ τ', RepM b (endA α a) τ' → FrM τ τ' → Q (some (vB (endR α a))) τ') : M0 E (d + 1) qX11_end [vR 140, vI a] τ Q := by
  have h1 := H.2.1.1
  have w1 := w.1
  have no : ¬ (0 ≤ a ∧ a ≤ α 0 0) → M0 E d qX11_refuses [vR 140, vI 0] τ (fun v τ2 => ∃ r3 : Int, v = some (vI r3) ∧ inR r3 ∧ ((r3 < 0 → Q (some (vB false)) τ2) ∧ (¬ r3 < 0 → Q (some (vB true)) τ2))) := by
    intro q
    have e1 : endA α a = refA α 0 := if_neg q
    have e2 : endR α a = false := decide_eq_false q
    rw [e1, e2] at k1
    exact m_refuses (i := 0) hk w H (by decide) (fun τ' H' F' => ⟨_, rfl, ⟨by decide, by decide⟩, fun _ => k1 τ' H' F', fun q => absurd (by decide) q⟩)
  refine mX11_end ⟨ha, fun q => no (by omega), fun q => ⟨fun q2 => ?_, fun q2 => no (by omega)⟩⟩
  have q3 : 0 ≤ a ∧ a ≤ α 0 0 := by omega
  have e1 : endA α a = wr α 0 0 a := if_pos q3
  have e2 : endR α a = true := decide_eq_true q3
  rw [e1, e2] at k1
  refine k1 _ (H.tape (fun j x _ => wr_obj x) (fun i x => wr_row x) (fun o x _ => wr_obj x) (fun i x => wr_row x) ⟨by rw [wr_same, wr_same], fun i hi => ?_⟩) (FrM.rf.w1 (by omega))
  rw [wr_obj (by decide), wr_obj (by decide)]; exact H.2.1.2 i hi
end Simple
