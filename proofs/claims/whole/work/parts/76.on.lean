/-! on, both sides -/
def tw (α : mm_Mem) (x : Nat) : Int := 256 * α 1 x + α 1 (x + 1)
def plE (α : mm_Mem) (dd t : Nat) : Nat := 2 * (α 0 7).toNat + 5 * (dd * (α 0 5).toNat + t)
def efP (α : mm_Mem) (dd t : Nat) : Prop := (earA α dd t = true → tw α (plE α dd t) ≤ 1000 ∧ (α 5 dd = 2 → tw α (plE α dd t + 2) ≤ 1000) ∧ (¬ α 5 dd = 2 → tw α (plE α dd t + 2) = 0)) ∧ (earA α dd t = false → tw α (plE α dd t) = 0 ∧ tw α (plE α dd t + 2) = 0 ∧ α 1 (plE α dd t + 4) = 0)
def fitP (α : mm_Mem) : Prop := ∀ p : Nat, (p : Int) < α 0 7 → tw α (2 * p) ≤ 1000
def fitE (α : mm_Mem) : Prop := ∀ dd t : Nat, (dd : Int) < α 0 6 → (t : Int) < α 0 5 → efP α dd t
def onP (α : mm_Mem) : Prop := 0 < α 0 3 ∧ α 0 0 = 2 * α 0 7 + 5 * α 0 6 * α 0 5 + 1 ∧ ckA (α 1) ((α 0 0).toNat - 1) 0 33 = α 1 ((α 0 0).toNat - 1) ∧ fitP α ∧ fitE α
def earW (β : mm_Mem) (e : Nat) (a c f : Int) : mm_Mem := wr (wr (wr β 15 e a) 16 e c) 17 e f
def reP : Nat → Nat → mm_Mem → mm_Mem
  | 0, _, β => β
  | c + 1, p, β => reP c (p + 1) (wr β 12 p (tw β (2 * p)))
def reE (β : mm_Mem) (dd t : Nat) : mm_Mem := earW β (3 * dd + t) (tw β (plE β dd t)) (tw β (plE β dd t + 2) - 1) (β 1 (plE β dd t + 4))
def reT (dd : Nat) : Nat → Nat → mm_Mem → mm_Mem
  | 0, _, β => β
  | c + 1, t, β => reT dd c (t + 1) (reE β dd t)
def reD : Nat → Nat → mm_Mem → mm_Mem
  | 0, _, β => β
  | c + 1, dd, β => reD c (dd + 1) (reT dd (β 0 5).toNat 0 β)
def onA (α : mm_Mem) : mm_Mem := reD (α 0 6).toNat 0 (reP (α 0 7).toNat 0 (wr α 0 0 0))
def okR (α α' : mm_Mem) : Prop := ∀ j, j ≠ 12 → j ≠ 15 → j ≠ 16 → j ≠ 17 → α' j = α j
theorem okR.rf {α : mm_Mem} : okR α α := fun _ _ _ _ _ => rfl
theorem okR.tr {α β γ : mm_Mem} (h : okR α β) (h' : okR β γ) : okR α γ := fun j a b c d => (h' j a b c d).trans (h j a b c d)
theorem okR.p {α : mm_Mem} {p : Nat} {v : Int} : okR α (wr α 12 p v) := fun j a _ _ _ => wr_obj a
theorem okR.e {α : mm_Mem} {e : Nat} {x y z : Int} : okR α (earW α e x y z) := fun j _ b c d => by rw [earW, wr_obj d, wr_obj c, wr_obj b]
theorem earW_at {α : mm_Mem} {e : Nat} {x y z : Int} : earW α e x y z 15 = wr α 15 e x 15 ∧ earW α e x y z 16 = wr α 16 e y 16 ∧ earW α e x y z 17 = wr α 17 e z 17 := by
  refine ⟨?_, ?_, ?_⟩
  · rw [earW, wr_obj (by omega), wr_obj (by omega)]
  · rw [earW, wr_obj (by omega)]
    funext i
    by_cases q : i = e
    · subst q; rw [wr_same, wr_same]
    · rw [wr_row q, wr_row q, wr_obj (by omega)]
  · rw [earW]
    funext i
    by_cases q : i = e
    · subst q; rw [wr_same, wr_same]
    · rw [wr_row q, wr_row q, wr_obj (by omega), wr_obj (by omega)]
theorem okR.twe {α β : mm_Mem} (o : okR α β) : tw β = tw α := by
  funext x; unfold tw; rw [o 1 (by omega) (by omega) (by omega) (by omega)]
theorem okR.pl {α β : mm_Mem} (o : okR α β) : plE β = plE α := by
  funext x y; unfold plE; rw [o 0 (by omega) (by omega) (by omega) (by omega)]
theorem okR.ear {α β : mm_Mem} (o : okR α β) : earA β = earA α := earA_cg (by rw [o 0 (by omega) (by omega) (by omega) (by omega)]) (o 8 (by omega) (by omega) (by omega) (by omega)) (o 9 (by omega) (by omega) (by omega) (by omega))
theorem okR.ef {α β : mm_Mem} (o : okR α β) {dd t : Nat} (e : efP α dd t) : efP β dd t := by
  unfold efP
  rw [o.twe, o.pl, o.ear, o 5 (by omega) (by omega) (by omega) (by omega), o 1 (by omega) (by omega) (by omega) (by omega)]
  exact e
theorem okR.fe {α β : mm_Mem} (o : okR α β) (e : fitE α) : fitE β := by
  intro dd t h1 h2
  rw [o 0 (by omega) (by omega) (by omega) (by omega)] at h1 h2
  exact o.ef (e dd t h1 h2)
theorem okR.fp {α β : mm_Mem} (o : okR α β) (e : fitP α) : fitP β := by
  intro p h1
  rw [o 0 (by omega) (by omega) (by omega) (by omega)] at h1
  rw [o.twe]; exact e p h1
section On
variable {E : mm_Env} {d k h b : Nat} {α β τ : mm_Mem} {Q : mm_Q0}
theorem tw_r (w : WF k α) (x : Nat) : 0 ≤ tw α x ∧ tw α x ≤ 65535 := by
  have a := w.1.2.2.1 x
  have b := w.1.2.2.1 (x + 1)
  unfold tw; omega
theorem pl_c {dd t : Nat} (w : WF k α) (hd : (dd : Int) < α 0 6) (ht : (t : Int) < α 0 5) : 2 * α 0 7 + 5 * ((dd : Int) * α 0 5 + (t : Int)) = (plE α dd t : Nat) ∧ plE α dd t + 5 ≤ 69 := by
  have hw := w.le
  unfold plE
  have e5 : ((α 0 5).toNat : Int) = α 0 5 := by omega
  have m : dd * (α 0 5).toNat ≤ 3 * 3 := Nat.mul_le_mul (by omega) (by omega)
  have e : (dd : Int) * α 0 5 = ((dd * (α 0 5).toNat : Nat) : Int) := by rw [Int.natCast_mul, e5]
  rw [e]
  generalize dd * (α 0 5).toNat = z at m
  omega
theorem WF.w_earW {e : Nat} {x y z : Int} (w : WF k α) (hx : 0 ≤ x ∧ x ≤ 1000) (hy : -1 ≤ y ∧ y ≤ 999) (hz : 0 ≤ z ∧ z ≤ 255) : WF k (earW α e x y z) := by
  have o := okR.e (α := α) (e := e) (x := x) (y := y) (z := z)
  obtain ⟨e1, e2, e3⟩ := earW_at (α := α) (e := e) (x := x) (y := y) (z := z)
  have r12 : earW α e x y z 12 = α 12 := by rw [earW, wr_obj (by omega), wr_obj (by omega), wr_obj (by omega)]
  generalize earW α e x y z = β at o e1 e2 e3 r12
  obtain ⟨h1, h2, h3, h4, h5, h6, h7, h8, h9⟩ := w
  have r : ∀ j, (j < 12 ∨ j = 13 ∨ j = 14 ∨ 17 < j) → β j = α j := fun j hj => o j (by omega) (by omega) (by omega) (by omega)
  refine ⟨?_, ?_, ?_, ?_, ?_, ?_, ?_, ?_, ?_⟩
  · rw [r 0 (by omega), r 1 (by omega)]; exact h1
  · unfold wfH; rw [r 0 (by omega)]; exact h2
  · unfold wfD; rw [r 0 (by omega), r 5 (by omega), r 6 (by omega), r 7 (by omega)]; exact h3
  · unfold wfP; rw [r 0 (by omega), r 8 (by omega), r 9 (by omega), r 10 (by omega), r 11 (by omega), r12]; exact h4
  · intro i
    rw [e1, e2, e3]
    have := h5 i
    by_cases q : i = e
    · subst q; rw [wr_same, wr_same, wr_same]; omega
    · rw [wr_row q, wr_row q, wr_row q]; exact this
  · unfold wfC; rw [r 13 (by omega), r 14 (by omega), r 18 (by omega), r 19 (by omega), r 20 (by omega), r 24 (by omega)]; exact h6
  · unfold wfW alA wnA; rw [r 0 (by omega), r 21 (by omega), r 22 (by omega), r 23 (by omega)]; exact h7
  · rw [r 0 (by omega)]; exact h8
  · rw [r 0 (by omega), r 25 (by omega)]; exact h9
end On
