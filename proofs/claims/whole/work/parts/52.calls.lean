/-! come, slip, waste, listen -/
def canA (α : mm_Mem) (p : Int) : Prop := (0 ≤ p ∧ p < α 0 7) ∧ α 12 p.toNat < 1000
def whA (α : mm_Mem) (p : Nat) : Nat → Nat := wpA α (α 9 p).toNat (α 12 p).toNat
def comeA (α : mm_Mem) (p : Int) : mm_Mem := if (0 ≤ p ∧ p < α 0 7) ∧ α 12 p.toNat < 1000 then cmA α p.toNat (whA α p.toNat) else refA α 2
def comeR (α : mm_Mem) (p : Int) : Int := if (0 ≤ p ∧ p < α 0 7) ∧ α 12 p.toNat < 1000 then cmR α p.toNat (whA α p.toNat) else -2
def slipC (α : mm_Mem) (p q v : Int) : Prop := ((0 ≤ p ∧ p < α 0 7) ∧ α 12 p.toNat < 1000) ∧ (0 ≤ q ∧ q < α 0 4) ∧ (0 ≤ v ∧ v < α 0 3) ∧ (whA α p.toNat q.toNat : Int) ≠ v
def slipA (α : mm_Mem) (p q v : Int) : mm_Mem := if ((0 ≤ p ∧ p < α 0 7) ∧ α 12 p.toNat < 1000) ∧ (0 ≤ q ∧ q < α 0 4) ∧ (0 ≤ v ∧ v < α 0 3) ∧ (whA α p.toNat q.toNat : Int) ≠ v then cmA α p.toNat (tp_up (whA α p.toNat) q.toNat v.toNat) else refA α 2
def slipR (α : mm_Mem) (p q v : Int) : Int := if ((0 ≤ p ∧ p < α 0 7) ∧ α 12 p.toNat < 1000) ∧ (0 ≤ q ∧ q < α 0 4) ∧ (0 ≤ v ∧ v < α 0 3) ∧ (whA α p.toNat q.toNat : Int) ≠ v then cmR α p.toNat (tp_up (whA α p.toNat) q.toNat v.toNat) else -2
def wasteA (α : mm_Mem) (p n : Int) : mm_Mem := if (0 ≤ p ∧ p < α 0 7) ∧ (1 ≤ n ∧ n ≤ 99) ∧ α 12 p.toNat + n ≤ 1000 then wr α 12 p.toNat (α 12 p.toNat + n) else refA α 2
def wasteR (α : mm_Mem) (p n : Int) : Int := if (0 ≤ p ∧ p < α 0 7) ∧ (1 ≤ n ∧ n ≤ 99) ∧ α 12 p.toNat + n ≤ 1000 then α 12 p.toNat + n else -1
/-- a person's count alone is new: the class -/
theorem RepC.cnt1 {k h p : Nat} {v : Int} {α τ : mm_Mem} (w : WF k α) (H : RepC k h α τ) (hp : p < 4) : RepC k h (wr α 12 p v) (wr τ (h + 30 + p) 5 v) := by
  have hw := w.le
  have hh := H.2.2.1.1
  refine H.cst ⟨hw.1, hw.2.1, hw.2.2.1⟩ (Nat.le_refl _) (fun j hj => wr_obj (by omega)) (fun o j _ ho => by rw [wr_obj (by omega)]) (fun x hx => by rw [wr_obj (by omega)]) (fun x hx => ?_) (fun x hx => ?_) (fun x hx i hi => ?_) (fun o o1 o2 => ?_)
  · by_cases e : x = p
    · subst e; rw [wr_row (by omega)]
    · rw [wr_obj (by omega)]
  · rw [wr_obj (by omega)] at hx
    have em : maskA (wr α 12 p v) = maskA α := maskA_cg (by rw [wr_obj (by omega)]) (wr_obj (by omega)) (wr_obj (by omega))
    have w0 : ∀ j, j ≠ 12 → wr α 12 p v j = α j := fun j hj => wr_obj hj
    rw [em, w0 5 (by omega), w0 6 (by omega), w0 7 (by omega), w0 15 (by omega), w0 16 (by omega), w0 17 (by omega), w0 18 (by omega), w0 19 (by omega), w0 20 (by omega), wr_obj (show h + 14 + 4 * x ≠ h + 30 + p by omega), wr_obj (show h + 14 + 4 * x + 1 ≠ h + 30 + p by omega), wr_obj (show h + 14 + 4 * x + 2 ≠ h + 30 + p by omega), wr_obj (show h + 14 + 4 * x + 3 ≠ h + 30 + p by omega)]
    exact H.2.2.2.2.2.1 x hx
  · rw [wr_obj (by omega)] at hx
    have hP := H.2.2.2.2.2.2.1 x hx i hi
    by_cases e : x = p
    · subst e
      by_cases q : i = 4
      · subst q; rw [wr_same, wr_same]
      · rw [wr_row (by omega), wr_obj (by omega)]; exact hP
    · rw [wr_obj (by omega)]
      by_cases q : i = 4
      · subst q; rw [wr_row e]; exact hP
      · rw [wr_obj (by omega)]; exact hP
  · rw [wr_obj (by omega)]; exact H.2.2.2.2.2.2.2.2.2.2.2.2 o o1 o2
section Calls
variable {E : mm_Env} {d k h b : Nat} {α τ : mm_Mem} {Q : mm_Q0}
theorem wh_ok {p : Nat} (w : WF k α) (p1 : (p : Int) < α 0 7) (h12 : α 12 p < 1000) : tp_ok (whA α p) ∧ fvA α (whA α p) := by
  have wp := w.2.2.2.1 p p1
  exact ⟨wpA_ok w (by omega) (by omega), fv_wp w (by omega) (by omega)⟩
theorem ref2 (w : WF k α) (hk : k ≤ 600) (H : RepC k h α τ) : inR (τ 139 2 + 1) := by
  have := H.2.2.2.2.2.2.2.2.2.2.1 2 (by omega)
  have := w.2.2.2.2.2.1.2.2 2
  exact ⟨by omega, by omega⟩
theorem c_come {a : Int} (w : WF k α) (hk : k ≤ 600) (H : RepC k h α τ) (ha : inR a) (k1 : ∀ τ', RepC k h (comeA α a) τ' → FrC τ τ' → Q (some (vI (comeR α a))) τ') : M0 E (d + 7) qX10_come [vR 2, vI a] τ Q := by
  have hw := w.le
  have hh := H.2.2.1.1
  have no : ¬ ((0 ≤ a ∧ a < α 0 7) ∧ α 12 a.toNat < 1000) → inR (τ 139 2 + 1) ∧ Q (some (vI (-2))) (wr τ 139 2 (τ 139 2 + 1)) := by
    intro q
    unfold comeA comeR at k1
    rw [if_neg q, if_neg q] at k1
    exact ⟨ref2 w hk H, k1 _ (H.ref w (by omega)) (FrC.rf.w1 (by omega))⟩
  refine mX10_come (c_personAt w H ha (fun a0 a1 kd => ⟨_, rfl, fun q => by omega, fun _ => ⟨kd, ?_⟩⟩) (fun q => ⟨_, rfl, fun _ => no (fun z => q z.1), fun z => absurd rfl z⟩))
  obtain ⟨q1, q2, q3, q4, q5, q6, q7⟩ := H.pers a0 a1
  have wp := w.2.2.2.1 a.toNat (by omega)
  rw [q5, q2]
  refine ⟨fun q => ?_, fun q => no (fun z => q z.2)⟩
  have pos : (0 ≤ a ∧ a < α 0 7) ∧ α 12 a.toNat < 1000 := ⟨⟨a0, a1⟩, q⟩
  unfold comeA comeR at k1
  rw [if_pos pos, if_pos pos] at k1
  refine c_tuneAt w H (by omega) (by omega) (by omega) (by omega) ⟨_, rfl, ?_⟩
  exact c_whistleAtDoor (p := a.toNat) w hk H (wh_ok w (by omega) q).1 (by omega) (fun τ' H' F' => ⟨_, rfl, k1 τ' H' F'⟩)
theorem m_canCome {p : Int} (H : RepM b α τ) (p0 : 0 ≤ p) (p1 : p < 4) (k1 : Q (some (vB (decide (α 12 p.toNat < 1000)))) τ) : M0 E d qX11_canCome [vR 140, vI p] τ Q := by
  have c := (H.cnt p0 p1).1
  refine mX11_canCome ⟨p0, p1, ?_⟩
  rw [c]
  refine ⟨fun q => ?_, fun q => ?_⟩
  · rw [decide_eq_false (by omega)] at k1; exact k1
  · rw [decide_eq_true (by omega)] at k1; exact k1
theorem m_refused2 (w : WF k α) (hk : k ≤ 600) (H : RepM b α τ) (k1 : ∀ τ', RepM b (refA α 2) τ' → FrM τ τ' → Q (some (vI (-2))) τ') : M0 E d qX11_refused2 [vR 140] τ Q := by
  have := H.2.2.2.2.2.2.2.2.2.2.2 2 (by omega)
  have := w.2.2.2.2.2.1.2.2 2
  exact mX11_refused2 ⟨⟨by omega, by omega⟩, k1 _ (H.ref (by omega)) (FrM.rf.w1 (by omega))⟩
theorem m_come {a : Int} (w : WF k α) (hk : k ≤ 600) (H : RepM b α τ) (ha : inR a) (k1 : ∀ τ', RepM b (comeA α a) τ' → FrM τ τ' → Q (some (vI (comeR α a))) τ') : M0 E (d + 7) qX11_come [vR 140, vI a] τ Q := by
  have hw := w.le
  have hb := H.bk
  have no : ¬ ((0 ≤ a ∧ a < α 0 7) ∧ α 12 a.toNat < 1000) → M0 E (d + 6) qX11_refused2 [vR 140] τ (fun v τ3 => ∃ r4 : Int, v = some (vI r4) ∧ Q (some (vI r4)) τ3) := by
    intro q
    unfold comeA comeR at k1
    rw [if_neg q, if_neg q] at k1
    exact m_refused2 w hk H (fun τ' H' F' => ⟨_, rfl, k1 τ' H' F'⟩)
  refine mX11_come (m_isPerson w H ha ⟨_, rfl, fun q => no (fun z => of_decide_eq_false q z.1), fun q => ?_⟩)
  have q := of_decide_eq_true q
  have wp := w.2.2.2.1 a.toNat (by omega)
  refine m_canCome H (by omega) (by omega) ⟨_, rfl, fun q2 => ?_, fun q2 => no (fun z => of_decide_eq_false q2 z.2)⟩
  have q2 := of_decide_eq_true q2
  have pos : (0 ≤ a ∧ a < α 0 7) ∧ α 12 a.toNat < 1000 := ⟨q, q2⟩
  unfold comeA comeR at k1
  rw [if_pos pos, if_pos pos] at k1
  obtain ⟨g1, g2, g3, g4⟩ := H.pers q.1 q.2
  have c := (H.cnt q.1 (by omega)).1
  refine m_person4 H ⟨_, rfl, by omega, by omega, by omega, by omega, ?_⟩
  rw [g2, c]
  refine m_whistles w H (by omega) (by omega) (by omega) (by omega) (fun τ1 F1 F2 M1 H1 => ⟨rfl, ?_⟩)
  have l := m_comes (E := E) (d := d) (p := a.toNat) (f := whA α a.toNat) w hk H1 (wh_ok w (by omega) q2).2 M1 (by omega) q2 (Q := fun v τ16 => ∃ r17 : Int, v = some (vI r17) ∧ Q (some (vI r17)) τ16) (fun τ' H' F' => ⟨_, rfl, k1 τ' H' (fun o ho => (F' o (by omega)).trans (F1 o (by omega) (by omega)))⟩)
  rw [show ((a.toNat : Nat) : Int) = a by omega] at l
  exact l
theorem c_slip {a q v : Int} (w : WF k α) (hk : k ≤ 600) (H : RepC k h α τ) (ha : inR a) (hq : inR q) (hv : inR v) (k1 : ∀ τ', RepC k h (slipA α a q v) τ' → FrC τ τ' → Q (some (vI (slipR α a q v))) τ') : M0 E (d + 7) qX10_slip [vR 2, vI a, vI q, vI v] τ Q := by
  have hw := w.le
  have hh := H.2.2.1.1
  obtain ⟨l1, l2⟩ := H.live
  obtain ⟨s1, s2, s3, s4, s5, s6, s7⟩ := H.hs
  have no : ∀ o : Nat, ¬ (((0 ≤ a ∧ a < α 0 7) ∧ α 12 a.toNat < 1000) ∧ (0 ≤ q ∧ q < α 0 4) ∧ (0 ≤ v ∧ v < α 0 3) ∧ (whA α a.toNat q.toNat : Int) ≠ v) → V0 E (d + 7) qX10_slip 83 [some (vR 2), none, some (vI q), some (vI v), some (vR o), none] [vI 0] τ Q := by
    intro o z
    unfold slipA slipR at k1
    rw [if_neg z, if_neg z] at k1
    exact bX10_slip_83 ⟨⟨by decide, by decide⟩, fun y => absurd rfl y, fun _ => ⟨ref2 w hk H, k1 _ (H.ref w (by omega)) (FrC.rf.w1 (by omega))⟩⟩
  refine mX10_slip (c_personAt w H ha (fun a0 a1 kd => ⟨_, rfl, fun z => by omega, fun _ => ⟨kd, ?_⟩⟩) (fun z => ⟨_, rfl, fun _ => no _ (fun y => z y.1.1), fun y => absurd rfl y⟩))
  obtain ⟨q1, q2, q3, q4, q5, q6, q7⟩ := H.pers a0 a1
  have wp := w.2.2.2.1 a.toNat (by omega)
  rw [q5, q2]
  refine ⟨fun z => no _ (fun y => by have := y.1.2; omega), fun z => ⟨hq, fun z2 => no _ (fun y => by have := y.2.1; omega), fun z2 => ⟨h, l1, l2, ?_⟩⟩⟩
  rw [s2]
  refine ⟨fun z3 => no _ (fun y => by have := y.2.1; omega), fun z3 => ⟨hv, fun z4 => no _ (fun y => by have := y.2.2.1; omega), fun z4 => ⟨h, l1, l2, ?_⟩⟩⟩
  rw [s1]
  have w3 := w.tune (t := (α 9 a.toNat).toNat) (by omega)
  have ok := (wh_ok w (p := a.toNat) (by omega) (by omega)).1
  refine ⟨fun z5 => no _ (fun y => by have := y.2.2.1; omega), fun z5 => c_tuneAt w H (by omega) (by omega) (by omega) (by omega) ⟨_, rfl, c_noteIn ok (by omega) (by omega) ⟨_, rfl, ?_, fun z6 => no _ (fun y => y.2.2.2 z6), fun z6 => ?_⟩⟩⟩
  · have := ok q.toNat (by omega); unfold whA at this; exact ⟨by omega, by omega⟩
  · have pos : ((0 ≤ a ∧ a < α 0 7) ∧ α 12 a.toNat < 1000) ∧ (0 ≤ q ∧ q < α 0 4) ∧ (0 ≤ v ∧ v < α 0 3) ∧ (whA α a.toNat q.toNat : Int) ≠ v := ⟨⟨⟨a0, a1⟩, by omega⟩, by omega, by omega, z6⟩
    unfold slipA slipR at k1
    rw [if_pos pos, if_pos pos] at k1
    refine bX10_slip_83 ⟨⟨by decide, by decide⟩, fun _ => ⟨kd, ?_⟩, fun y => absurd y (by decide)⟩
    rw [q5, q2]
    refine c_tuneAt w H (by omega) (by omega) (by omega) (by omega) ⟨_, rfl, c_withNote ok (by omega) (by omega) (by omega) (by omega) ⟨_, rfl, ?_⟩⟩
    exact c_whistleAtDoor (p := a.toNat) w hk H (tp_up_ok ok (by omega)) (by omega) (fun τ' H' F' => ⟨_, rfl, k1 τ' H' F'⟩)
theorem fv_up {f : Nat → Nat} {q v : Nat} (hf : fvA α f) (hq : (q : Int) < α 0 4) (hv : (v : Int) < α 0 3) : fvA α (tp_up f q v) := by
  refine ⟨fun i hi => ?_, fun i hi => ?_⟩
  · unfold tp_up
    by_cases e : i = q
    · rw [if_pos e]; exact hv
    · rw [if_neg e]; exact hf.1 i hi
  · unfold tp_up
    rw [if_neg (by intro e; subst e; exact hi hq)]; exact hf.2 i hi
theorem m_slip {a q v : Int} (w : WF k α) (hk : k ≤ 600) (H : RepM b α τ) (ha : inR a) (hq : inR q) (hv : inR v) (k1 : ∀ τ', RepM b (slipA α a q v) τ' → FrM τ τ' → Q (some (vI (slipR α a q v))) τ') : M0 E (d + 7) qX11_slip [vR 140, vI a, vI q, vI v] τ Q := by
  have hw := w.le
  have hb := H.bk
  have hs := H.hs
  have no : ∀ τ1, RepM b α τ1 → FrM τ τ1 → ¬ (((0 ≤ a ∧ a < α 0 7) ∧ α 12 a.toNat < 1000) ∧ (0 ≤ q ∧ q < α 0 4) ∧ (0 ≤ v ∧ v < α 0 3) ∧ (whA α a.toNat q.toNat : Int) ≠ v) → M0 E (d + 6) qX11_refused2 [vR 140] τ1 (fun v τ3 => ∃ r4 : Int, v = some (vI r4) ∧ Q (some (vI r4)) τ3) := by
    intro τ1 H1 F1 z
    unfold slipA slipR at k1
    rw [if_neg z, if_neg z] at k1
    exact m_refused2 w hk H1 (fun τ' H' F' => ⟨_, rfl, k1 τ' H' (F1.tr F')⟩)
  have hwf := w.2.1.1
  refine mX11_slip (m_isPerson w H ha ⟨_, rfl, fun z => no τ H FrM.rf (fun y => of_decide_eq_false z y.1.1), fun z => ?_⟩)
  have z := of_decide_eq_true z
  have wp := w.2.2.2.1 a.toNat (by omega)
  refine m_canCome H (by omega) (by omega) ⟨_, rfl, fun z2 => no τ H FrM.rf (fun y => of_decide_eq_false z2 y.1.2), fun z2 => ⟨by omega, by omega, ?_⟩⟩
  have z2 := of_decide_eq_true z2
  have w3 := w.tune (t := (α 9 a.toNat).toNat) (by omega)
  rw [hb.2.2, hs.2.1]
  refine m_is hq ⟨by omega, by omega⟩ ⟨by omega, by omega⟩ ⟨_, rfl, fun z3 => no τ H FrM.rf (fun y => of_decide_eq_false z3 (by have := y.2.1; omega)), fun z3 => ⟨by omega, by omega, ?_⟩⟩
  have z3 := of_decide_eq_true z3
  rw [hb.2.2, hs.1]
  refine m_is hv ⟨by omega, by omega⟩ ⟨by omega, by omega⟩ ⟨_, rfl, fun z4 => ?_, fun z4 => no τ H FrM.rf (fun y => of_decide_eq_false z4 (by have := y.2.2.1; omega))⟩
  have z4 := of_decide_eq_true z4
  obtain ⟨g1, g2, g3, g4⟩ := H.pers z.1 z.2
  have c := (H.cnt z.1 (by omega)).1
  refine m_person4 H ⟨_, rfl, by omega, by omega, by omega, by omega, ?_⟩
  rw [g2, c]
  have ok := wh_ok w (p := a.toNat) (by omega) z2
  refine m_whistles w H (by omega) (by omega) (by omega) (by omega) (fun τ1 F1 F2 M1 H1 => ⟨rfl, by omega, by omega, hv, ?_⟩)
  have FF : FrM τ τ1 := fun o ho => F1 o (by omega) (by omega)
  have e1 : τ1 188 q.toNat = (whA α a.toNat q.toNat : Int) := M1.1 q.toNat (by omega)
  rw [e1]
  refine ⟨fun z5 => ⟨by omega, by omega, ?_⟩, fun z5 => no τ1 H1 FF (fun y => y.2.2.2 z5)⟩
  have pos : ((0 ≤ a ∧ a < α 0 7) ∧ α 12 a.toNat < 1000) ∧ (0 ≤ q ∧ q < α 0 4) ∧ (0 ≤ v ∧ v < α 0 3) ∧ (whA α a.toNat q.toNat : Int) ≠ v := ⟨⟨z, z2⟩, by omega, by omega, z5⟩
  unfold slipA slipR at k1
  rw [if_pos pos, if_pos pos] at k1
  have H2 : RepM b α (wr τ1 188 q.toNat v) := H1.frame (fun o j hr => by
    by_cases e : o = 188
    · subst e; exact absurd hr (by simp [relM])
    · rw [wr_obj e])
  have fv2 := fv_up (α := α) (q := q.toNat) (v := v.toNat) ok.2 (by omega) (by omega)
  refine m_numbers w H2 fv2 w3 (fun j hj => ?_) (fun τ2 F3 F4 M2 H3 => ⟨rfl, ?_⟩)
  · unfold tp_up
    by_cases e : j = q.toNat
    · subst e; rw [wr_same, if_pos rfl]; omega
    · rw [wr_row e, if_neg e]; exact M1.1 j hj
  · have l := m_comes (E := E) (d := d) (p := a.toNat) (f := tp_up (whA α a.toNat) q.toNat v.toNat) w hk H3 fv2 M2 (by omega) z2 (Q := fun v τ16 => ∃ r17 : Int, v = some (vI r17) ∧ Q (some (vI r17)) τ16) (fun τ' H' F' => ⟨_, rfl, k1 τ' H' (fun o ho => by rw [F' o (by omega), F3 o (by omega), wr_obj (by omega), F1 o (by omega) (by omega)])⟩)
    rw [show ((a.toNat : Nat) : Int) = a by omega] at l
    exact l
theorem c_waste {a n : Int} (w : WF k α) (hk : k ≤ 600) (H : RepC k h α τ) (ha : inR a) (hn : inR n) (k1 : ∀ τ', RepC k h (wasteA α a n) τ' → FrC τ τ' → Q (some (vI (wasteR α a n))) τ') : M0 E (d + 7) qX10_waste [vR 2, vI a, vI n] τ Q := by
  have hw := w.le
  have hh := H.2.2.1.1
  have no : ¬ ((0 ≤ a ∧ a < α 0 7) ∧ (1 ≤ n ∧ n ≤ 99) ∧ α 12 a.toNat + n ≤ 1000) → inR (τ 139 2 + 1) ∧ Q (some (vI (-1))) (wr τ 139 2 (τ 139 2 + 1)) := by
    intro q
    unfold wasteA wasteR at k1
    rw [if_neg q, if_neg q] at k1
    exact ⟨ref2 w hk H, k1 _ (H.ref w (by omega)) (FrC.rf.w1 (by omega))⟩
  refine mX10_waste (c_personAt w H ha (fun a0 a1 kd => ⟨_, rfl, fun q => by omega, fun _ => ⟨hn, fun q => no (fun z => by have := z.2.1; omega), fun q => ⟨fun q2 => no (fun z => by have := z.2.1; omega), fun q2 => ⟨kd, ?_⟩⟩⟩⟩) (fun q => ⟨_, rfl, fun _ => no (fun z => q z.1), fun z => absurd rfl z⟩))
  obtain ⟨q1, q2, q3, q4, q5, q6, q7⟩ := H.pers a0 a1
  have wp := w.2.2.2.1 a.toNat (by omega)
  rw [q5]
  refine ⟨⟨by omega, by omega⟩, fun q => ?_, fun q => no (fun z => by have := z.2.2; omega)⟩
  have pos : (0 ≤ a ∧ a < α 0 7) ∧ (1 ≤ n ∧ n ≤ 99) ∧ α 12 a.toNat + n ≤ 1000 := ⟨⟨a0, a1⟩, by omega, q⟩
  unfold wasteA wasteR at k1
  rw [if_pos pos, if_pos pos] at k1
  exact k1 _ (RepC.cnt1 w H (by omega)) (FrC.rf.w1 (by omega))
theorem m_waste {a n : Int} (w : WF k α) (hk : k ≤ 600) (H : RepM b α τ) (ha : inR a) (hn : inR n) (k1 : ∀ τ', RepM b (wasteA α a n) τ' → FrM τ τ' → Q (some (vI (wasteR α a n))) τ') : M0 E (d + 7) qX11_waste [vR 140, vI a, vI n] τ Q := by
  have hw := w.le
  have hb := H.bk
  have no : ¬ ((0 ≤ a ∧ a < α 0 7) ∧ (1 ≤ n ∧ n ≤ 99) ∧ α 12 a.toNat + n ≤ 1000) → M0 E (d + 6) qX11_refuses [vR 140, vI 2] τ (fun v τ3 => ∃ r4 : Int, v = some (vI r4) ∧ Q (some (vI r4)) τ3) := by
    intro q
    unfold wasteA wasteR at k1
    rw [if_neg q, if_neg q] at k1
    exact m_refuses (i := 2) hk w H (by omega) (fun τ' H' F' => ⟨_, rfl, k1 τ' H' F'⟩)
  refine mX11_waste (m_isPerson w H ha ⟨_, rfl, fun q => no (fun z => of_decide_eq_false q z.1), fun q => m_is hn ⟨by decide, by decide⟩ ⟨by decide, by decide⟩ ⟨_, rfl, fun q2 => no (fun z => of_decide_eq_false q2 z.2.1), fun q2 => ?_⟩⟩)
  have q := of_decide_eq_true q
  have q2 := of_decide_eq_true q2
  have wp := w.2.2.2.1 a.toNat (by omega)
  have c := (H.cnt q.1 (by omega)).1
  refine ⟨by omega, by omega, ?_⟩
  rw [c]
  refine ⟨⟨by omega, by omega⟩, fun q3 => ⟨by omega, by omega, by omega, by omega, by omega, by omega, ?_⟩, fun q3 => no (fun z => q3 z.2.2)⟩
  unfold wasteA wasteR at k1
  rw [if_pos ⟨q, q2, q3⟩, if_pos ⟨q, q2, q3⟩] at k1
  rw [wr_same]
  exact k1 _ H.cnt1 (FrM.rf.w1 (by omega))
end Calls
