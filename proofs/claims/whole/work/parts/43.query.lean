/-! what is only asked: fault, status, octet, has, door, person, opened, ear, apart; seed, waste -/
theorem kdH {h : Nat} (hh : h = 4 ∨ h = 38) : KD h = some (.inr 2) := by rcases hh with rfl | rfl <;> rfl
theorem RepC.live {k h : Nat} {α τ : mm_Mem} (H : RepC k h α τ) : τ 2 2 = (h : Int) ∧ KD h = some (.inr 2) := ⟨H.2.2.1.2.1, kdH H.2.2.1.1⟩
theorem RepC.hs {k h : Nat} {α τ : mm_Mem} (H : RepC k h α τ) : τ h 0 = α 0 3 ∧ τ h 1 = α 0 4 ∧ τ h 2 = α 0 5 ∧ τ h 3 = α 0 6 ∧ τ h 4 = α 0 7 ∧ τ h 5 = α 0 11 ∧ τ h 6 = α 0 12 := by
  obtain ⟨g, g5, g6, -⟩ := H.2.2.2.1
  exact ⟨g 0 (by decide), g 1 (by decide), g 2 (by decide), g 3 (by decide), g 4 (by decide), g5, g6⟩
theorem earA_lt {k : Nat} {α : mm_Mem} (w : WF k α) {d t : Int} (h : earA α d t = true) : 0 ≤ t ∧ t < α 0 5 ∧ 0 ≤ d ∧ d < α 0 6 := by
  unfold earA at h
  obtain ⟨p, hp, h2⟩ := List.any_eq_true.mp h
  simp only [Bool.and_eq_true, decide_eq_true_eq] at h2
  have := w.2.2.2.1 p h2.1
  omega
def hasA (α : mm_Mem) (a : Int) : Int := if a = 0 then α 0 3 else if a = 1 then α 0 4 else if a = 2 then α 0 5 else if a = 3 then α 0 6 else if a = 4 then α 0 7 else if a = 5 then α 0 8 else if a = 6 then α 0 9 else if a = 7 then α 0 10 else if a = 8 then α 0 11 else if a = 9 then α 0 12 else -1
def doorR (α : mm_Mem) (d a : Int) : Int := if 0 ≤ d ∧ d < α 0 6 then (if a = 0 then α 5 d.toNat else if a = 1 then α 6 d.toNat else if a = 2 then α 7 d.toNat else if a = 3 then maskA α d.toNat else -1) else -1
def personR (α : mm_Mem) (p a : Int) : Int := if 0 ≤ p ∧ p < α 0 7 then (if a = 0 then α 8 p.toNat else if a = 1 then α 9 p.toNat else if a = 2 then α 12 p.toNat else if a = 3 then α 10 p.toNat else if a = 4 then α 11 p.toNat else if a = 5 then α 13 p.toNat else if a = 6 then α 14 p.toNat else -1) else -1
def openedR (α : mm_Mem) (d a : Int) : Int := if 0 ≤ d ∧ d < α 0 6 then (if a = 0 then α 18 d.toNat else if a = 1 then α 19 d.toNat else if a = 2 then α 20 d.toNat else -1) else -1
def earR (α : mm_Mem) (d t a : Int) : Int := if (0 ≤ d ∧ d < α 0 6) ∧ earA α d t = true then (if a = 0 then α 15 (3 * d.toNat + t.toNat) else if a = 1 then α 16 (3 * d.toNat + t.toNat) else if a = 2 then α 17 (3 * d.toNat + t.toNat) else -1) else -1
def apartR (α : mm_Mem) (p : Int) : Int := if 0 ≤ p ∧ p < α 0 7 then α 12 p.toNat - α 15 (3 * (α 8 p.toNat).toNat + (α 9 p.toNat).toNat) else -10000
section CQuery
variable {E : mm_Env} {d k h b : Nat} {α τ : mm_Mem} {Q : mm_Q0}
theorem c_fault {a : Int} (H : RepC k h α τ) (ha : inR a) (k1 : Q (some (vI (faultR α a))) τ) : M0 E d qX10_fault [vR 2, vI a] τ Q := by
  obtain ⟨f1, f2⟩ := H.2.1
  unfold faultR at k1
  refine mX10_fault ⟨ha, fun q => ?_, fun q => ?_, fun q => ?_⟩
  · rw [if_neg q.1, if_neg q.2] at k1; exact k1
  · rw [if_pos q] at k1; rw [f1]; exact k1
  · rw [if_neg (by omega), if_pos q] at k1; rw [f2]; exact k1
theorem c_status {a : Int} (H : RepC k h α τ) (ha : inR a) (k1 : Q (some (vI (statusR α a))) τ) : M0 E d qX10_status [vR 2, vI a] τ Q := by
  have hr := H.2.2.2.2.2.2.2.2.2.2.1
  unfold statusR at k1
  refine mX10_status ⟨ha, fun q => ?_, fun q => ⟨fun q2 => ⟨by omega, by omega, ?_⟩, fun q2 => ?_⟩⟩
  · rw [if_neg (by omega)] at k1; exact k1
  · rw [if_pos (by omega)] at k1; rw [hr _ (by omega)]; exact k1
  · rw [if_neg (by omega)] at k1; exact k1
theorem c_octet {a : Int} (w : WF k α) (H : RepC k h α τ) (ha : inR a) (k1 : Q (some (vI (octetR α a))) τ) : M0 E d qX10_octet [vR 2, vI a] τ Q := by
  obtain ⟨o1, o2⟩ := H.2.2.2.2.2.2.2.2.2.1
  have wo := w.2.2.2.2.2.2.2.2
  unfold octetR at k1
  refine mX10_octet ⟨ha, fun q => ?_, fun q => ⟨fun q2 => ?_, fun q2 => ⟨fun q3 => ⟨by omega, by omega, ?_⟩, fun q3 => ?_⟩⟩⟩
  · rw [if_neg (by omega)] at k1; exact k1
  · rw [if_neg (by omega)] at k1; exact k1
  · rw [if_pos (by omega)] at k1; rw [o2 _ (by omega)]; exact k1
  · omega
theorem c_seed {a : Int} (hk : k ≤ 600) (w : WF k α) (H : RepC k h α τ) (ha : inR a) (k1 : ∀ τ', RepC k h (seedA α a) τ' → FrC τ τ' → Q (some (vB (seedR a))) τ') : M0 E d qX10_seed [vR 2, vI a] τ Q := by
  have hr := H.2.2.2.2.2.2.2.2.2.2.1 4 (by decide)
  have wr0 := w.2.2.2.2.2.1.2.2 4
  have hw := w.le
  refine mX10_seed ⟨ha, fun q => ?_, fun q => ⟨⟨by omega, by omega⟩, ?_⟩⟩
  · have e1 : seedA α a = wr α 0 13 a := if_pos q
    have e2 : seedR a = true := decide_eq_true q
    rw [e1, e2] at k1
    refine k1 _ (H.most ⟨hw.1, hw.2.1, hw.2.2.1⟩ (fun j _ _ => wr_row (by omega)) (fun j _ _ => wr_obj (by omega)) ⟨wr_row (by omega), wr_row (by omega)⟩ (fun o _ _ => wr_obj (by omega)) (fun o _ _ => wr_obj (by omega)) ⟨wr_obj (by omega), by rw [wr_obj (by omega)], wr_obj (by omega)⟩ ?_ ?_ ?_ ?_ ?_) (FrC.rf.w1 (by omega))
    · exact H.1.cg (wr_row (by omega)) (wr_obj (by omega)) (wr_row (by omega)) (wr_obj (by omega))
    · exact H.2.1.cg (wr_row (by omega)) (wr_row (by omega)) (by rw [wr_obj (by omega)]) (by rw [wr_obj (by omega)])
    · rw [wr_same, wr_same]
    · exact H.2.2.2.2.2.2.2.2.2.1.cg (wr_row (by omega)) (wr_obj (by omega)) (wr_row (by omega)) (wr_obj (by omega))
    · exact H.2.2.2.2.2.2.2.2.2.2.1.cg (wr_obj (by omega)) (wr_obj (by omega))
  · have e1 : seedA α a = refA α 4 := if_neg q
    have e2 : seedR a = false := decide_eq_false q
    rw [e1, e2] at k1
    exact k1 _ (H.ref w (by decide)) (FrC.rf.w1 (by omega))
theorem WF.seed_ {a : Int} (w : WF k α) (ha : inR a) : WF (k + 1) (seedA α a) := by
  unfold seedA
  split
  · rename_i q
    have w1 := w.1
    have h := w.2.2.2.2.2.1.2.2
    have w9 := w.2.2.2.2.2.2.2.2
    have ha2 := ha.2
    refine w.most (by omega) (fun j _ _ => wr_row (by omega)) (fun j _ _ => wr_obj (by omega)) ?_ ?_ ?_ ?_
    · rw [wr_row (by omega), wr_row (by omega), wr_row (by omega), wr_obj (by omega)]; exact w1
    · rw [wr_same]; omega
    · rw [wr_row (by omega), wr_obj (by omega)]; exact w9
    · intro i; rw [wr_obj (by omega)]; have := h i; omega
  · exact w.ref
theorem c_howMany {o : Nat} {a : Int} (k1 : KD o = some (.inr 5)) (h0 : 0 ≤ a) (h3 : a < 3) (k2 : Q (some (vI (τ (o + 2) a.toNat))) τ) : M0 E d qX5_howMany [vR o, vI a] τ Q :=
  mX5_howMany k1 ⟨⟨by omega, by omega⟩, fun q => by omega, fun _ => ⟨fun _ => ⟨h0, h3, k2⟩, fun q => by omega⟩⟩
theorem c_has {a : Int} (H : RepC k h α τ) (ha : inR a) (k1 : Q (some (vI (hasA α a))) τ) : M0 E (d + 1) qX10_has [vR 2, vI a] τ Q := by
  obtain ⟨l1, l2⟩ := H.live
  obtain ⟨g1, g2, g3, g4⟩ := H.2.2.2.1
  have kr := (kHouse l2).2.2.2.2.2.2.2.2.2.2.2.2.1
  unfold hasA at k1
  refine mX10_has ⟨ha, fun q => ?_, fun q => ?_, fun q => ?_, fun q => ?_, fun q => ?_, fun q => ?_, fun q => ?_, fun q => ?_, fun q => ?_, fun q => ?_, fun q => ?_⟩
  · rw [if_neg (by omega), if_neg (by omega), if_neg (by omega), if_neg (by omega), if_neg (by omega), if_neg (by omega), if_neg (by omega), if_neg (by omega), if_neg (by omega), if_neg (by omega)] at k1; exact k1
  · subst q; exact ⟨h, l1, l2, by rw [g1 0 (by decide)]; exact k1⟩
  · subst q; exact ⟨h, l1, l2, by rw [g1 1 (by decide)]; exact k1⟩
  · subst q; exact ⟨h, l1, l2, by rw [g1 2 (by decide)]; exact k1⟩
  · subst q; exact ⟨h, l1, l2, by rw [g1 3 (by decide)]; exact k1⟩
  · subst q; exact ⟨h, l1, l2, by rw [g1 4 (by decide)]; exact k1⟩
  · subst q; exact ⟨h, l1, l2, c_howMany kr (by decide) (by decide) ⟨_, rfl, by rw [show h + 6 + 2 = h + 8 from rfl, show (0 : Int).toNat = 0 from rfl, g4 0 (by decide)]; exact k1⟩⟩
  · subst q; exact ⟨h, l1, l2, c_howMany kr (by decide) (by decide) ⟨_, rfl, by rw [show h + 6 + 2 = h + 8 from rfl, show (1 : Int).toNat = 1 from rfl, g4 1 (by decide)]; exact k1⟩⟩
  · subst q; exact ⟨h, l1, l2, c_howMany kr (by decide) (by decide) ⟨_, rfl, by rw [show h + 6 + 2 = h + 8 from rfl, show (2 : Int).toNat = 2 from rfl, g4 2 (by decide)]; exact k1⟩⟩
  · subst q; exact ⟨h, l1, l2, by rw [g2]; exact k1⟩
  · subst q; exact ⟨h, l1, l2, by rw [g3]; exact k1⟩
theorem c_isTune {a : Int} (w : WF k α) (H : RepC k h α τ) (ha : inR a) (k1 : Q (some (vB (decide (0 ≤ a ∧ a < α 0 5)))) τ) : M0 E d qX10_isTune [vR 2, vI a] τ Q := by
  obtain ⟨l1, l2⟩ := H.live
  have g := H.hs.2.2.1
  have hw := w.le
  have no : ¬ (0 ≤ a ∧ a < α 0 5) → Q (some (vB false)) τ := fun q => by rw [decide_eq_false q] at k1; exact k1
  refine mX10_isTune ⟨ha, fun q => no (by omega), fun q => ⟨h, l1, l2, ?_⟩⟩
  rw [g]
  refine ⟨fun q2 => no (by show ¬ _; omega), fun q2 => ⟨fun q3 => no (by show ¬ _; omega), fun q3 => ?_⟩⟩
  have q4 : 0 ≤ a ∧ a < α 0 5 := ⟨by omega, by have : ¬ α 0 5 ≤ a := q2; omega⟩
  rw [decide_eq_true q4] at k1; exact k1
theorem c_isWhistle {a : Int} (ha : inR a) (k1 : Q (some (vB (decide (0 ≤ a ∧ a < 1000)))) τ) : M0 E d qX10_isWhistle [vI a] τ Q := by
  refine mX10_isWhistle ⟨ha, fun q => ?_, fun q => ⟨fun q2 => ?_, fun q2 => ?_⟩⟩
  · rw [decide_eq_false (by omega)] at k1; exact k1
  · rw [decide_eq_false (by omega)] at k1; exact k1
  · rw [decide_eq_true (by omega)] at k1; exact k1
theorem c_doorAt {a : Int} (w : WF k α) (H : RepC k h α τ) (ha : inR a) (k1 : 0 ≤ a → a < α 0 6 → KD (h + 14 + 4 * a.toNat) = some (.inr 0) → Q (some (vR (h + 14 + 4 * a.toNat))) τ) (k2 : ¬ (0 ≤ a ∧ a < α 0 6) → Q (some (vR 0)) τ) : M0 E d qX10_doorAt [vR 2, vI a] τ Q := by
  obtain ⟨l1, l2⟩ := H.live
  have g := H.hs.2.2.2.1
  have hw := w.le
  refine mX10_doorAt ⟨ha, fun q => k2 (by omega), fun q => ⟨h, l1, l2, ?_⟩⟩
  rw [g]
  refine ⟨fun q2 => k2 (by have : α 0 6 ≤ a := q2; omega), fun q2 => ?_⟩
  have q5 : ¬ α 0 6 ≤ a := q2
  exact ⟨fun q3 => by omega, fun q3 => ⟨h, l1, l2, by omega, by omega, k1 (by omega) (by omega) (kHouseD l2 (j := a.toNat) (by omega)).2⟩⟩
theorem c_personAt {a : Int} (w : WF k α) (H : RepC k h α τ) (ha : inR a) (k1 : 0 ≤ a → a < α 0 7 → KD (h + 30 + a.toNat) = some (.inr 3) → Q (some (vR (h + 30 + a.toNat))) τ) (k2 : ¬ (0 ≤ a ∧ a < α 0 7) → Q (some (vR 0)) τ) : M0 E d qX10_personAt [vR 2, vI a] τ Q := by
  obtain ⟨l1, l2⟩ := H.live
  have g := H.hs.2.2.2.2.1
  have hw := w.le
  refine mX10_personAt ⟨ha, fun q => k2 (by omega), fun q => ⟨h, l1, l2, ?_⟩⟩
  rw [g]
  refine ⟨fun q2 => k2 (by have : α 0 7 ≤ a := q2; omega), fun q2 => ?_⟩
  have q5 : ¬ α 0 7 ≤ a := q2
  exact ⟨fun q3 => by omega, fun q3 => ⟨h, l1, l2, by omega, by omega, k1 (by omega) (by omega) (kHouseP l2 (j := a.toNat) (by omega)).2⟩⟩
theorem RepC.door {a : Int} (H : RepC k h α τ) (h0 : 0 ≤ a) (h1 : a < α 0 6) : (τ (h + 14 + 4 * a.toNat) 1 = α 5 a.toNat ∧ τ (h + 14 + 4 * a.toNat) 2 = α 6 a.toNat ∧ τ (h + 14 + 4 * a.toNat) 3 = α 7 a.toNat ∧ τ (h + 14 + 4 * a.toNat) 4 = maskA α a.toNat ∧ τ (h + 14 + 4 * a.toNat) 5 = α 18 a.toNat ∧ τ (h + 14 + 4 * a.toNat) 6 = α 19 a.toNat ∧ τ (h + 14 + 4 * a.toNat) 7 = α 20 a.toNat) ∧
  ∀ t, t < 3 → τ (h + 14 + 4 * a.toNat + 1) t = α 15 (3 * a.toNat + t) ∧ τ (h + 14 + 4 * a.toNat + 2) t = α 16 (3 * a.toNat + t) ∧ τ (h + 14 + 4 * a.toNat + 3) t = α 17 (3 * a.toNat + t) := H.2.2.2.2.2.1 a.toNat (by omega)
theorem RepC.pers {a : Int} (H : RepC k h α τ) (h0 : 0 ≤ a) (h1 : a < α 0 7) : τ (h + 30 + a.toNat) 1 = α 8 a.toNat ∧ τ (h + 30 + a.toNat) 2 = α 9 a.toNat ∧ τ (h + 30 + a.toNat) 3 = α 10 a.toNat ∧ τ (h + 30 + a.toNat) 4 = α 11 a.toNat ∧ τ (h + 30 + a.toNat) 5 = α 12 a.toNat ∧ τ (h + 30 + a.toNat) 6 = α 13 a.toNat ∧ τ (h + 30 + a.toNat) 7 = α 14 a.toNat := by
  have g := H.2.2.2.2.2.2.1 a.toNat (by omega)
  exact ⟨g 0 (by decide), g 1 (by decide), g 2 (by decide), g 3 (by decide), g 4 (by decide), g 5 (by decide), g 6 (by decide)⟩
theorem c_door {a0 a1 : Int} (w : WF k α) (H : RepC k h α τ) (h0 : inR a0) (h1 : inR a1) (k1 : Q (some (vI (doorR α a0 a1))) τ) : M0 E (d + 1) qX10_door [vR 2, vI a0, vI a1] τ Q := by
  unfold doorR at k1
  refine mX10_door (c_doorAt w H h0 (fun q1 q2 kd => ⟨_, rfl, fun _ => ?_, fun q => by omega⟩) (fun q => ⟨_, rfl, fun q2 => absurd rfl q2, fun _ => ?_⟩))
  · obtain ⟨⟨d1, d2, d3, d4, -⟩, -⟩ := H.door q1 q2
    rw [if_pos ⟨q1, q2⟩] at k1
    rw [d1, d2, d3, d4]
    refine ⟨h1, fun q => ?_, fun q => ⟨kd, ?_⟩, fun q => ⟨kd, ?_⟩, fun q => ⟨kd, ?_⟩, fun q => ⟨kd, ?_⟩⟩
    · rw [if_neg (by omega), if_neg (by omega), if_neg (by omega), if_neg (by omega)] at k1; exact k1
    all_goals (subst q; exact k1)
  · rw [if_neg q] at k1; exact k1
theorem c_person {a0 a1 : Int} (w : WF k α) (H : RepC k h α τ) (h0 : inR a0) (h1 : inR a1) (k1 : Q (some (vI (personR α a0 a1))) τ) : M0 E (d + 1) qX10_person [vR 2, vI a0, vI a1] τ Q := by
  unfold personR at k1
  refine mX10_person (c_personAt w H h0 (fun q1 q2 kd => ⟨_, rfl, fun _ => ?_, fun q => by omega⟩) (fun q => ⟨_, rfl, fun q2 => absurd rfl q2, fun _ => ?_⟩))
  · obtain ⟨g0, g1, g2, g3, g4, g5, g6⟩ := H.pers q1 q2
    rw [if_pos ⟨q1, q2⟩] at k1
    refine ⟨h1, fun q => ?_, fun q => ⟨kd, ?_⟩, fun q => ⟨kd, ?_⟩, fun q => ⟨kd, ?_⟩, fun q => ⟨kd, ?_⟩, fun q => ⟨kd, ?_⟩, fun q => ⟨kd, ?_⟩, fun q => ⟨kd, ?_⟩⟩
    · rw [if_neg (by omega), if_neg (by omega), if_neg (by omega), if_neg (by omega), if_neg (by omega), if_neg (by omega), if_neg (by omega)] at k1; exact k1
    · subst q; rw [g0]; exact k1
    · subst q; rw [g1]; exact k1
    · subst q; rw [g4]; exact k1
    · subst q; rw [g2]; exact k1
    · subst q; rw [g3]; exact k1
    · subst q; rw [g5]; exact k1
    · subst q; rw [g6]; exact k1
  · rw [if_neg q] at k1; exact k1
theorem c_opened {a0 a1 : Int} (w : WF k α) (H : RepC k h α τ) (h0 : inR a0) (h1 : inR a1) (k1 : Q (some (vI (openedR α a0 a1))) τ) : M0 E (d + 1) qX10_opened [vR 2, vI a0, vI a1] τ Q := by
  unfold openedR at k1
  refine mX10_opened (c_doorAt w H h0 (fun q1 q2 kd => ⟨_, rfl, fun _ => ?_, fun q => by omega⟩) (fun q => ⟨_, rfl, fun q2 => absurd rfl q2, fun _ => ?_⟩))
  · obtain ⟨⟨-, -, -, -, d5, d6, d7⟩, -⟩ := H.door q1 q2
    rw [if_pos ⟨q1, q2⟩] at k1
    rw [d5, d6, d7]
    refine ⟨h1, fun q => ?_, fun q => ⟨kd, ?_⟩, fun q => ⟨kd, ?_⟩, fun q => ⟨kd, ?_⟩⟩
    · rw [if_neg (by omega), if_neg (by omega), if_neg (by omega)] at k1; exact k1
    all_goals (subst q; exact k1)
  · rw [if_neg q] at k1; exact k1
/-- whether a bit stands in a mask of three -/
def e3 (e0 e1 e2 : Bool) (t : Int) : Bool := if t = 0 then e0 else if t = 1 then e1 else if t = 2 then e2 else false
theorem c_hasEar {o : Nat} {t : Int} {e0 e1 e2 : Bool} (kd : KD o = some (.inr 0)) (hm : τ o 4 = bI e0 + 2 * bI e1 + 4 * bI e2) (ht : inR t) (k1 : Q (some (vB (e3 e0 e1 e2 t))) τ) : M0 E d qX0_hasEar [vR o, vI t] τ Q := by
  unfold e3 at k1
  refine mX0_hasEar kd ⟨ht, fun q => ?_, fun q => ⟨fun q2 => ?_, fun q2 => ⟨zm_andR _ _, ?_⟩⟩⟩
  · rw [if_neg (by omega), if_neg (by omega), if_neg (by omega)] at k1; exact k1
  · rw [if_neg (by omega), if_neg (by omega), if_neg (by omega)] at k1; exact k1
  · rw [hm]
    rcases (by omega : t = 0 ∨ t = 1 ∨ t = 2) with rfl | rfl | rfl <;> cases e0 <;> cases e1 <;> cases e2 <;> exact ⟨fun q => by first | exact k1 | exact absurd rfl q, fun q => by first | exact k1 | exact absurd q (by decide)⟩
theorem e3_ear {k : Nat} {α : mm_Mem} (w : WF k α) (dd t : Int) : e3 (earA α dd 0) (earA α dd 1) (earA α dd 2) t = earA α dd t := by
  unfold e3
  have hw := w.le
  by_cases q0 : t = 0
  · subst q0; simp
  · by_cases q1 : t = 1
    · subst q1; simp
    · by_cases q2 : t = 2
      · subst q2; simp
      · rw [if_neg q0, if_neg q1, if_neg q2]
        cases he : earA α dd t with
        | false => rfl
        | true => have := earA_lt w he; omega
theorem c_hasEarD {a t : Int} (w : WF k α) (H : RepC k h α τ) (h0 : 0 ≤ a) (h1 : a < α 0 6) (ht : inR t) (kd : KD (h + 14 + 4 * a.toNat) = some (.inr 0)) (k1 : Q (some (vB (earA α a t))) τ) : M0 E d qX0_hasEar [vR (h + 14 + 4 * a.toNat), vI t] τ Q := by
  obtain ⟨⟨-, -, -, d4, -⟩, -⟩ := H.door h0 h1
  have e : ((a.toNat : Nat) : Int) = a := by omega
  unfold maskA at d4
  rw [e] at d4
  exact c_hasEar kd d4 ht (by rw [e3_ear w]; exact k1)
theorem c_ear {a0 a1 a2 : Int} (w : WF k α) (H : RepC k h α τ) (h0 : inR a0) (h1 : inR a1) (h2 : inR a2) (k1 : Q (some (vI (earR α a0 a1 a2))) τ) : M0 E (d + 1) qX10_ear [vR 2, vI a0, vI a1, vI a2] τ Q := by
  unfold earR at k1
  have hw := w.le
  refine mX10_ear (c_doorAt w H h0 (fun q1 q2 kd => ⟨_, rfl, fun q => by omega, fun _ => ⟨kd, ?_⟩⟩) (fun q => ⟨_, rfl, fun _ => ?_, fun q2 => absurd rfl q2⟩))
  · refine c_hasEarD w H q1 q2 h1 kd ⟨_, rfl, fun q3 => ?_, fun q3 => ?_⟩
    · have hl := earA_lt w q3
      rw [if_pos ⟨⟨q1, q2⟩, q3⟩] at k1
      obtain ⟨g1, g2, g3⟩ := (H.door q1 q2).2 a1.toNat (by omega)
      rw [g1, g2, g3]
      refine ⟨h2, fun q => ?_, fun q => ⟨by omega, by omega, ?_⟩, fun q => ⟨by omega, by omega, ?_⟩, fun q => ⟨by omega, by omega, ?_⟩⟩
      · rw [if_neg (by omega), if_neg (by omega), if_neg (by omega)] at k1; exact k1
      all_goals (subst q; exact k1)
    · rw [if_neg (fun z => by rw [q3] at z; cases z.2)] at k1; exact k1
  · rw [if_neg (fun z => q z.1)] at k1; exact k1
theorem earA_self {k : Nat} {α : mm_Mem} (w : WF k α) {p : Int} (h0 : 0 ≤ p) (h1 : p < α 0 7) : earA α (α 8 p.toNat) (α 9 p.toNat) = true := by
  have hw := w.le
  unfold earA
  refine List.any_eq_true.mpr ⟨p.toNat, List.mem_range.mpr (by omega), ?_⟩
  simp only [Bool.and_eq_true, decide_eq_true_eq]
  exact ⟨by omega, trivial, trivial⟩
theorem wfPz {p : Int} (w : WF k α) (h0 : 0 ≤ p) (h1 : p < α 0 7) : 0 ≤ α 8 p.toNat ∧ α 8 p.toNat < α 0 6 ∧ 0 ≤ α 9 p.toNat ∧ α 9 p.toNat < α 0 5 ∧ 0 ≤ α 10 p.toNat ∧ α 10 p.toNat ≤ 100 ∧ 0 ≤ α 11 p.toNat ∧ α 11 p.toNat ≤ 100 ∧ 0 ≤ α 12 p.toNat ∧ α 12 p.toNat ≤ 1000 := w.2.2.2.1 p.toNat (by omega)
theorem c_apart {a0 : Int} (w : WF k α) (H : RepC k h α τ) (h0 : inR a0) (k1 : Q (some (vI (apartR α a0))) τ) : M0 E (d + 1) qX10_apart [vR 2, vI a0] τ Q := by
  unfold apartR at k1
  have hw := w.le
  refine mX10_apart (c_personAt w H h0 (fun q1 q2 kd => ⟨_, rfl, fun _ => ⟨kd, ?_⟩, fun q => by omega⟩) (fun q => ⟨_, rfl, fun q2 => absurd rfl q2, fun _ => ?_⟩))
  · obtain ⟨g0, g1, -, -, g4, -⟩ := H.pers q1 q2
    have wp := wfPz w q1 q2
    rw [if_pos ⟨q1, q2⟩] at k1
    rw [g0]
    refine c_doorAt w H ⟨by omega, by omega⟩ (fun q3 q4 kd2 => ⟨_, rfl, fun q => by omega, fun _ => ⟨kd2, ?_⟩⟩) (fun q => absurd ⟨wp.1, wp.2.1⟩ q)
    rw [g1]
    refine c_hasEarD w H q3 q4 ⟨by omega, by omega⟩ kd2 ⟨_, rfl, fun _ => ⟨by omega, by omega, ?_⟩, fun q => ?_⟩
    · obtain ⟨f1, -, -⟩ := (H.door q3 q4).2 (α 9 a0.toNat).toNat (by omega)
      rw [g4, g1, f1]
      exact k1
    · have e := earA_self w q1 q2
      have q' : earA α (α 8 a0.toNat) (α 9 a0.toNat) = false := q
      rw [e] at q'
      cases q'
  · rw [if_neg q] at k1; exact k1
end CQuery
