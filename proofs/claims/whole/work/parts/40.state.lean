/-! the abstract state α (a memory of its own layout), and what the class's and the reference's cells hold of it
α 0: 0 taped 1 fault 2 place 3 notes 4 length 5 tunes 6 doors 7 persons 8 9 10 rules 11 12 worths 13 seed 14 outs
α 1 i tape; 2 t, 3 d, 4 p names (bytes, the first highest); 5 d kind 6 d one 7 d two; 8 p door 9 p tune 10 p loses 11 p errs
12 p count 13 p letIn 14 p keptOut; 15 e 16 e 17 e ears (e = 3d+t): count half tries; 18 d latest 19 d opened 20 d shut
21 (5 (1000 t + n) + i) notes laid; 22 (1000 t + n) kept; 23 (1000 t + n) numbers; 24 i refused; 25 i out -/
/-- letters of eight bits to letters of five -/
def lt5 (b : Int) : Int := if b = 0 then 0 else b - 96
def nm5 (w : Int) : Int := lt5 (w / 1099511627776 % 256) * 33554432 + lt5 (w / 4294967296 % 256) * 1048576 + lt5 (w / 16777216 % 256) * 32768 + lt5 (w / 65536 % 256) * 1024 + lt5 (w / 256 % 256) * 32 + lt5 (w % 256)
/-- somebody of this tune comes to this door -/
def earA (α : mm_Mem) (d t : Int) : Bool := (List.range 4).any (fun p => decide ((p : Int) < α 0 7) && (decide (α 8 p = d) && decide (α 9 p = t)))
/-- the notes of a whistle -/
def wnA (α : mm_Mem) (t n i : Nat) : Int := α 21 (5 * (1000 * t + n) + i)
def wpA (α : mm_Mem) (t n : Nat) : Nat → Nat := fun i => if (i : Int) < α 0 4 then (wnA α t n i).toNat else 0
/-- a tune's number: digits by the number of notes -/
def numA (nt : Int) (f : Nat → Int) : Nat → Int
  | 0 => 0
  | k + 1 => numA nt f k * nt + f k
def gT (α τ : mm_Mem) : Prop := τ 2 1 = α 0 0 ∧ ∀ i, i < 1600 → τ 3 i = α 1 i
def gF (α τ : mm_Mem) : Prop := τ 77 7 = α 0 1 ∧ τ 77 8 = α 0 2
def gL (h : Nat) (τ : mm_Mem) : Prop := (h = 4 ∨ h = 38) ∧ τ 2 2 = (h : Int) ∧ τ 2 3 = ((42 - h : Nat) : Int)
def gH (h : Nat) (α τ : mm_Mem) : Prop := (∀ i, i < 5 → τ h i = α 0 (3 + i)) ∧ τ h 5 = α 0 11 ∧ τ h 6 = α 0 12 ∧ ∀ j, j < 3 → τ (h + 8) j = α 0 (8 + j)
def gN (h : Nat) (α τ : mm_Mem) : Prop := (∀ t : Nat, (t : Int) < α 0 5 → τ (h + 1) t = nm5 (α 2 t)) ∧ (∀ d : Nat, (d : Int) < α 0 6 → τ (h + 14 + 4 * d) 0 = nm5 (α 3 d)) ∧ ∀ p : Nat, (p : Int) < α 0 7 → τ (h + 30 + p) 0 = nm5 (α 4 p)
def maskA (α : mm_Mem) (d : Nat) : Int := bI (earA α d 0) + 2 * bI (earA α d 1) + 4 * bI (earA α d 2)
def gD (h : Nat) (α τ : mm_Mem) : Prop := ∀ d : Nat, (d : Int) < α 0 6 →
  (τ (h + 14 + 4 * d) 1 = α 5 d ∧ τ (h + 14 + 4 * d) 2 = α 6 d ∧ τ (h + 14 + 4 * d) 3 = α 7 d ∧ τ (h + 14 + 4 * d) 4 = maskA α d ∧ τ (h + 14 + 4 * d) 5 = α 18 d ∧ τ (h + 14 + 4 * d) 6 = α 19 d ∧ τ (h + 14 + 4 * d) 7 = α 20 d) ∧
  ∀ t, t < 3 → τ (h + 14 + 4 * d + 1) t = α 15 (3 * d + t) ∧ τ (h + 14 + 4 * d + 2) t = α 16 (3 * d + t) ∧ τ (h + 14 + 4 * d + 3) t = α 17 (3 * d + t)
def gP (h : Nat) (α τ : mm_Mem) : Prop := ∀ p : Nat, (p : Int) < α 0 7 → ∀ i, i < 7 → τ (h + 30 + p) (1 + i) = α (8 + i) p
def gW (α τ : mm_Mem) : Prop := (τ 78 3 = α 0 3 ∧ τ 78 4 = α 0 4 ∧ (0 < α 0 3 → τ 78 5 = α 0 3 ^ (α 0 4).toNat)) ∧ ∀ t n : Nat, (t : Int) < α 0 5 → n < 1000 → τ (80 + t) n = (tp (wpA α t n) : Nat) ∧ τ (84 + t) n = α 23 (1000 * t + n) ∧ τ (88 + t) n = α 22 (1000 * t + n)
def gO (α τ : mm_Mem) : Prop := τ 2 12 = α 0 14 ∧ ∀ i : Nat, (i : Int) < α 0 14 → τ 138 i = α 25 i
def gR (α τ : mm_Mem) : Prop := ∀ i, i < 6 → τ 139 i = α 24 i
def owL : List Int := [15192243, 409031, 677317, 365744, 17171557, 474757, 366100, 146930, 659104884, 781652471, 525618, 12592, 19057844, 542723566, 13094067, 182867, 24627848, 762030, 498, 1476, 14836, 1420, 20141, 6605428, 394868, 15748, 267845, 13614, 13368]
def gX (k : Nat) (τ : mm_Mem) : Prop := (∀ i, i < 29 → τ 76 i = owL.getD i 0) ∧ 1000 ≤ τ 133 2 ∧ τ 133 2 ≤ 1000 + 50 * (k : Int) ∧ ∀ i, i < 7776 → τ 134 i ≤ τ 133 2
/-- the counters of the doors that only serve for trying -/
def gY (k : Nat) (τ : mm_Mem) : Prop := ∀ o, 91 ≤ o → KD o = some (.inr 0) → 0 ≤ τ o 6 ∧ τ o 6 ≤ 4000 * (k : Int) ∧ 0 ≤ τ o 7 ∧ τ o 7 ≤ 4000 * (k : Int)
/-- the class's cells hold α -/
def RepC (k h : Nat) (α τ : mm_Mem) : Prop := gT α τ ∧ gF α τ ∧ gL h τ ∧ gH h α τ ∧ gN h α τ ∧ gD h α τ ∧ gP h α τ ∧ gW α τ ∧ τ 2 14 = α 0 13 ∧ gO α τ ∧ gR α τ ∧ gX k τ ∧ gY k τ
/-- the slots that RepC looks at -/
def relC (o k : Nat) : Bool := (decide (3 ≤ o) && decide (o < 72)) || (o == 2) || (o == 76) || (o == 77 && decide (7 ≤ k)) || (decide (78 ≤ o) && decide (o < 91)) || (o == 133 && k == 2) || (o == 134) || (o == 138) || (o == 139)
theorem RepC.frame {k h : Nat} {α τ τ' : mm_Mem} (H : RepC k h α τ) (hd : α 0 6 ≤ 4) (hp : α 0 7 ≤ 4) (ht : α 0 5 ≤ 3) (e : ∀ o j, relC o j = true → τ' o j = τ o j) {k' : Nat} (hk : k ≤ k') (Y : gY k' τ') : RepC k' h α τ' := by
  obtain ⟨h1, h2, h3, h4, h5, h6, h7, h8, h9, h10, h11, h12, -⟩ := H
  have hh : h = 4 ∨ h = 38 := h3.1
  refine ⟨⟨?_, fun i hi => ?_⟩, ⟨?_, ?_⟩, ⟨h3.1, ?_, ?_⟩, ⟨fun i hi => ?_, ?_, ?_, fun j hj => ?_⟩, ⟨fun t q => ?_, fun d q => ?_, fun p q => ?_⟩, fun d q => ⟨⟨?_, ?_, ?_, ?_, ?_, ?_, ?_⟩, fun t q2 => ⟨?_, ?_, ?_⟩⟩, fun p q i hi => ?_, ⟨⟨?_, ?_, fun q => ?_⟩, fun t n q1 q2 => ⟨?_, ?_, ?_⟩⟩, ?_, ⟨?_, fun i q => ?_⟩, fun i hi => ?_, ⟨fun i hi => ?_, ?_, ?_, fun i hi => ?_⟩, Y⟩
  · rw [e _ _ (by simp [relC])]; exact h1.1
  · rw [e _ _ (by simp [relC])]; exact h1.2 i hi
  · rw [e _ _ (by simp [relC])]; exact h2.1
  · rw [e _ _ (by simp [relC])]; exact h2.2
  · rw [e _ _ (by simp [relC])]; exact h3.2.1
  · rw [e _ _ (by simp [relC])]; exact h3.2.2
  · rw [e _ _ (by simp [relC]; omega)]; exact h4.1 i hi
  · rw [e _ _ (by simp [relC]; omega)]; exact h4.2.1
  · rw [e _ _ (by simp [relC]; omega)]; exact h4.2.2.1
  · rw [e _ _ (by simp [relC]; omega)]; exact h4.2.2.2 j hj
  · rw [e _ _ (by simp [relC]; omega)]; exact h5.1 t q
  · rw [e _ _ (by simp [relC]; omega)]; exact h5.2.1 d q
  · rw [e _ _ (by simp [relC]; omega)]; exact h5.2.2 p q
  · rw [e _ _ (by simp [relC]; omega)]; exact (h6 d q).1.1
  · rw [e _ _ (by simp [relC]; omega)]; exact (h6 d q).1.2.1
  · rw [e _ _ (by simp [relC]; omega)]; exact (h6 d q).1.2.2.1
  · rw [e _ _ (by simp [relC]; omega)]; exact (h6 d q).1.2.2.2.1
  · rw [e _ _ (by simp [relC]; omega)]; exact (h6 d q).1.2.2.2.2.1
  · rw [e _ _ (by simp [relC]; omega)]; exact (h6 d q).1.2.2.2.2.2.1
  · rw [e _ _ (by simp [relC]; omega)]; exact (h6 d q).1.2.2.2.2.2.2
  · rw [e _ _ (by simp [relC]; omega)]; exact ((h6 d q).2 t q2).1
  · rw [e _ _ (by simp [relC]; omega)]; exact ((h6 d q).2 t q2).2.1
  · rw [e _ _ (by simp [relC]; omega)]; exact ((h6 d q).2 t q2).2.2
  · rw [e _ _ (by simp [relC]; omega)]; exact h7 p q i hi
  · rw [e _ _ (by simp [relC])]; exact h8.1.1
  · rw [e _ _ (by simp [relC])]; exact h8.1.2.1
  · rw [e _ _ (by simp [relC])]; exact h8.1.2.2 q
  · rw [e _ _ (by simp [relC]; omega)]; exact (h8.2 t n q1 q2).1
  · rw [e _ _ (by simp [relC]; omega)]; exact (h8.2 t n q1 q2).2.1
  · rw [e _ _ (by simp [relC]; omega)]; exact (h8.2 t n q1 q2).2.2
  · rw [e _ _ (by simp [relC])]; exact h9
  · rw [e _ _ (by simp [relC])]; exact h10.1
  · rw [e _ _ (by simp [relC])]; exact h10.2 i q
  · rw [e _ _ (by simp [relC])]; exact h11 i hi
  · rw [e _ _ (by simp [relC])]; exact h12.1 i hi
  · rw [e _ _ (by simp [relC])]; exact h12.2.1
  · rw [e _ _ (by simp [relC])]; have := h12.2.2.1; omega
  · rw [e 134 _ (by simp [relC]), e 133 2 (by simp [relC])]; exact h12.2.2.2 i hi
def sH (b : Nat) (α τ : mm_Mem) : Prop := τ 142 b = α 0 3 ∧ τ 143 b = α 0 4 ∧ τ 144 b = α 0 5 ∧ τ 152 b = α 0 6 ∧ τ 157 b = α 0 7 ∧ (∀ j, j < 3 → τ 148 (3 * b + j) = α 0 (8 + j)) ∧ τ 163 b = α 0 11 ∧ τ 164 b = α 0 12
def sN (b : Nat) (α τ : mm_Mem) : Prop := (∀ t : Nat, (t : Int) < α 0 5 → τ 145 (3 * b + t) = α 2 t) ∧ (∀ d : Nat, (d : Int) < α 0 6 → τ 153 (4 * b + d) = α 3 d) ∧ ∀ p : Nat, (p : Int) < α 0 7 → τ 158 (4 * b + p) = α 4 p
def sD (b : Nat) (α τ : mm_Mem) : Prop := ∀ d : Nat, (d : Int) < α 0 6 → τ 154 (4 * b + d) = α 5 d ∧ τ 155 (4 * b + d) = α 6 d ∧ τ 156 (4 * b + d) = α 7 d
def sP (b : Nat) (α τ : mm_Mem) : Prop := ∀ p : Nat, (p : Int) < α 0 7 → τ 159 (4 * b + p) = α 8 p ∧ τ 160 (4 * b + p) = α 9 p ∧ τ 161 (4 * b + p) = α 10 p ∧ τ 162 (4 * b + p) = α 11 p
def sC (α τ : mm_Mem) : Prop := (∀ p, p < 4 → τ 179 p = α 12 p ∧ τ 180 p = α 13 p ∧ τ 181 p = α 14 p) ∧ (∀ e, e < 12 → τ 182 e = α 15 e ∧ τ 183 e = α 16 e ∧ τ 184 e = α 17 e) ∧ ∀ d, d < 4 → τ 185 d = α 18 d ∧ τ 186 d = α 19 d ∧ τ 187 d = α 20 d
def sW (α τ : mm_Mem) : Prop := ∀ t n : Nat, (t : Int) < α 0 5 → n < 1000 → (∀ i : Nat, (i : Int) < α 0 4 → τ 176 (5 * (1000 * t + n) + i) = wnA α t n i) ∧ τ 177 (1000 * t + n) = α 22 (1000 * t + n) ∧ τ 178 (1000 * t + n) = α 23 (1000 * t + n)
/-- the reference's cells hold α -/
def RepM (b : Nat) (α τ : mm_Mem) : Prop := (b < 2 ∧ τ 140 12 = (b : Int)) ∧ (τ 140 1 = α 0 0 ∧ ∀ i, i < 1600 → τ 141 i = α 1 i) ∧ (τ 140 10 = α 0 1 ∧ τ 140 11 = α 0 2) ∧ sH b α τ ∧ sN b α τ ∧ sD b α τ ∧ sP b α τ ∧ sC α τ ∧ sW α τ ∧ τ 140 71 = α 0 13 ∧ (τ 140 73 = α 0 14 ∧ ∀ i : Nat, (i : Int) < α 0 14 → τ 193 i = α 25 i) ∧ ∀ i, i < 6 → τ 173 i = α 24 i
def relM (o k : Nat) : Bool := (o == 140 && (k == 1 || k == 10 || k == 11 || k == 12 || k == 71 || k == 73)) || (decide (141 ≤ o) && decide (o < 165) && !(o == 146) && !(o == 147) && !(o == 149) && !(o == 150) && !(o == 151)) || (o == 173) || (decide (176 ≤ o) && decide (o < 188)) || (o == 193)
theorem RepM.frame {b : Nat} {α τ τ' : mm_Mem} (H : RepM b α τ) (e : ∀ o j, relM o j = true → τ' o j = τ o j) : RepM b α τ' := by
  obtain ⟨h1, h2, h3, h4, h5, h6, h7, h8, h9, h10, h11, h12⟩ := H
  refine ⟨⟨h1.1, ?_⟩, ⟨?_, fun i hi => ?_⟩, ⟨?_, ?_⟩, ⟨?_, ?_, ?_, ?_, ?_, fun j hj => ?_, ?_, ?_⟩, ⟨fun t q => ?_, fun d q => ?_, fun p q => ?_⟩, fun d q => ⟨?_, ?_, ?_⟩, fun p q => ⟨?_, ?_, ?_, ?_⟩, ⟨fun p q => ⟨?_, ?_, ?_⟩, fun p q => ⟨?_, ?_, ?_⟩, fun p q => ⟨?_, ?_, ?_⟩⟩, fun t n q1 q2 => ⟨fun i hi => ?_, ?_, ?_⟩, ?_, ⟨?_, fun i q => ?_⟩, fun i hi => ?_⟩
  · rw [e _ _ rfl]; exact h1.2
  · rw [e _ _ rfl]; exact h2.1
  · rw [e _ _ rfl]; exact h2.2 i hi
  · rw [e _ _ rfl]; exact h3.1
  · rw [e _ _ rfl]; exact h3.2
  · rw [e _ _ rfl]; exact h4.1
  · rw [e _ _ rfl]; exact h4.2.1
  · rw [e _ _ rfl]; exact h4.2.2.1
  · rw [e _ _ rfl]; exact h4.2.2.2.1
  · rw [e _ _ rfl]; exact h4.2.2.2.2.1
  · rw [e _ _ rfl]; exact h4.2.2.2.2.2.1 j hj
  · rw [e _ _ rfl]; exact h4.2.2.2.2.2.2.1
  · rw [e _ _ rfl]; exact h4.2.2.2.2.2.2.2
  · rw [e _ _ rfl]; exact h5.1 t q
  · rw [e _ _ rfl]; exact h5.2.1 d q
  · rw [e _ _ rfl]; exact h5.2.2 p q
  · rw [e _ _ rfl]; exact (h6 d q).1
  · rw [e _ _ rfl]; exact (h6 d q).2.1
  · rw [e _ _ rfl]; exact (h6 d q).2.2
  · rw [e _ _ rfl]; exact (h7 p q).1
  · rw [e _ _ rfl]; exact (h7 p q).2.1
  · rw [e _ _ rfl]; exact (h7 p q).2.2.1
  · rw [e _ _ rfl]; exact (h7 p q).2.2.2
  · rw [e _ _ rfl]; exact (h8.1 p q).1
  · rw [e _ _ rfl]; exact (h8.1 p q).2.1
  · rw [e _ _ rfl]; exact (h8.1 p q).2.2
  · rw [e _ _ rfl]; exact (h8.2.1 p q).1
  · rw [e _ _ rfl]; exact (h8.2.1 p q).2.1
  · rw [e _ _ rfl]; exact (h8.2.1 p q).2.2
  · rw [e _ _ rfl]; exact (h8.2.2 p q).1
  · rw [e _ _ rfl]; exact (h8.2.2 p q).2.1
  · rw [e _ _ rfl]; exact (h8.2.2 p q).2.2
  · rw [e _ _ rfl]; exact (h9 t n q1 q2).1 i hi
  · rw [e _ _ rfl]; exact (h9 t n q1 q2).2.1
  · rw [e _ _ rfl]; exact (h9 t n q1 q2).2.2
  · rw [e _ _ rfl]; exact h10
  · rw [e _ _ rfl]; exact h11.1
  · rw [e _ _ rfl]; exact h11.2 i q
  · rw [e _ _ rfl]; exact h12 i hi
/-- what a state of a run is like behind k calls -/
def wfH (α : mm_Mem) : Prop := ((α 0 3 = 0 ∧ α 0 4 = 0 ∧ α 0 5 = 0 ∧ α 0 6 = 0 ∧ α 0 7 = 0) ∨ (2 ≤ α 0 3 ∧ α 0 3 ≤ 6 ∧ 2 ≤ α 0 4 ∧ α 0 4 ≤ 5 ∧ 0 ≤ α 0 5 ∧ α 0 5 ≤ 3 ∧ 0 ≤ α 0 6 ∧ α 0 6 ≤ 4 ∧ 0 ≤ α 0 7 ∧ α 0 7 ≤ 4)) ∧ (0 ≤ α 0 8 ∧ α 0 8 ≤ 6 ∧ 0 ≤ α 0 9 ∧ α 0 9 ≤ 6 ∧ 0 ≤ α 0 10 ∧ α 0 10 ≤ 4) ∧ 0 ≤ α 0 11 ∧ α 0 11 ≤ 9999 ∧ 0 ≤ α 0 12 ∧ α 0 12 ≤ 9999
def wfD (α : mm_Mem) : Prop := ∀ d : Nat, (d : Int) < α 0 6 → 0 ≤ α 5 d ∧ α 5 d ≤ 4 ∧ 0 ≤ α 6 d ∧ α 6 d ≤ 40 ∧ 0 ≤ α 7 d ∧ α 7 d ≤ 9 ∧ (α 5 d = 3 → α 7 d ≤ 4)
def wfP (α : mm_Mem) : Prop := ∀ p : Nat, (p : Int) < α 0 7 → 0 ≤ α 8 p ∧ α 8 p < α 0 6 ∧ 0 ≤ α 9 p ∧ α 9 p < α 0 5 ∧ 0 ≤ α 10 p ∧ α 10 p ≤ 100 ∧ 0 ≤ α 11 p ∧ α 11 p ≤ 100 ∧ 0 ≤ α 12 p ∧ α 12 p ≤ 1000
def wfE (α : mm_Mem) : Prop := ∀ e, 0 ≤ α 15 e ∧ α 15 e ≤ 1000 ∧ -1 ≤ α 16 e ∧ α 16 e ≤ 999 ∧ 0 ≤ α 17 e ∧ α 17 e ≤ 255
def wfC (k : Nat) (α : mm_Mem) : Prop := (∀ p, 0 ≤ α 13 p ∧ α 13 p ≤ 60 * k ∧ 0 ≤ α 14 p ∧ α 14 p ≤ 60 * k) ∧ (∀ d, -1 ≤ α 18 d ∧ α 18 d ≤ 2 ∧ 0 ≤ α 19 d ∧ α 19 d ≤ 60 * k ∧ 0 ≤ α 20 d ∧ α 20 d ≤ 60 * k) ∧ ∀ i, 0 ≤ α 24 i ∧ α 24 i ≤ k
def alA (α : mm_Mem) (t m n : Nat) : Prop := α 23 (1000 * t + m) = α 23 (1000 * t + n) ∧ α 22 (1000 * t + m) = α 22 (1000 * t + n)
def wfW (α : mm_Mem) : Prop := ∀ t : Nat, (t : Int) < α 0 5 → (∀ n, n < 1000 → (∀ i : Nat, (i : Int) < α 0 4 → 0 ≤ wnA α t n i ∧ wnA α t n i < α 0 3) ∧ 0 ≤ α 22 (1000 * t + n) ∧ α 22 (1000 * t + n) ≤ 99 ∧ α 23 (1000 * t + n) = numA (α 0 3) (wnA α t n) (α 0 4).toNat) ∧ ∀ m n, m < 999 → n < 999 → alA α t m n → alA α t (m + 1) (n + 1)
def WF (k : Nat) (α : mm_Mem) : Prop := (0 ≤ α 0 0 ∧ α 0 0 ≤ 1600 ∧ (∀ i, 0 ≤ α 1 i ∧ α 1 i ≤ 255) ∧ 0 ≤ α 0 1 ∧ α 0 1 ≤ 5 ∧ -1 ≤ α 0 2 ∧ α 0 2 ≤ 1600) ∧ wfH α ∧ wfD α ∧ wfP α ∧ wfE α ∧ wfC k α ∧ wfW α ∧ (0 ≤ α 0 13 ∧ α 0 13 ≤ 2147483647) ∧ (0 ≤ α 0 14 ∧ α 0 14 ≤ 69 ∧ ∀ i, 0 ≤ α 25 i ∧ α 25 i ≤ 255)
def FrC (τ τ' : mm_Mem) : Prop := ∀ o, (o < 2 ∨ 140 ≤ o) → τ' o = τ o
def FrM (τ τ' : mm_Mem) : Prop := ∀ o, (o < 140 ∨ 194 ≤ o) → τ' o = τ o
theorem FrC.rf {τ : mm_Mem} : FrC τ τ := fun _ _ => rfl
theorem FrM.rf {τ : mm_Mem} : FrM τ τ := fun _ _ => rfl
theorem FrC.tr {a b c : mm_Mem} (h1 : FrC a b) (h2 : FrC b c) : FrC a c := fun o h => (h2 o h).trans (h1 o h)
theorem FrM.tr {a b c : mm_Mem} (h1 : FrM a b) (h2 : FrM b c) : FrM a c := fun o h => (h2 o h).trans (h1 o h)
theorem FrC.w1 {τ τ' : mm_Mem} {o k : Nat} {v : Int} (h : FrC τ τ') (ho : 2 ≤ o ∧ o < 140) : FrC τ (wr τ' o k v) := fun o' h' => (wr_obj (by omega)).trans (h o' h')
theorem FrM.w1 {τ τ' : mm_Mem} {o k : Nat} {v : Int} (h : FrM τ τ') (ho : 140 ≤ o ∧ o < 194) : FrM τ (wr τ' o k v) := fun o' h' => (wr_obj (by omega)).trans (h o' h')
