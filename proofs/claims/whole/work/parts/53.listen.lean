/-! listen -/
def tpF (α : mm_Mem) (n : Nat) : Nat → Nat := fun i => if i < n then (α 1 i).toNat else 0
/-- the first so many bytes of the tape are notes -/
def okN (α : mm_Mem) (n : Nat) : Bool := (List.range n).all (fun i => decide (α 1 i < α 0 3))
theorem okN_iff {α : mm_Mem} {n : Nat} : okN α n = true ↔ ∀ i, i < n → α 1 i < α 0 3 := by
  unfold okN
  rw [List.all_eq_true]
  constructor
  · intro h i hi; exact of_decide_eq_true (h i (List.mem_range.mpr hi))
  · intro h i hi; exact decide_eq_true (h i (List.mem_range.mp hi))
def lisC (α : mm_Mem) (x : Int) : Prop := (0 ≤ x ∧ x < α 0 6) ∧ α 0 0 = α 0 4 ∧ okN α (α 0 4).toNat = true
def lisA (α : mm_Mem) (x : Int) : mm_Mem := if (0 ≤ x ∧ x < α 0 6) ∧ α 0 0 = α 0 4 ∧ okN α (α 0 4).toNat = true then hnA (wr α 0 0 0) x.toNat (tpF α (α 0 4).toNat) else refA (wr α 0 0 0) 2
def lisR (α : mm_Mem) (x : Int) : Int := if (0 ≤ x ∧ x < α 0 6) ∧ α 0 0 = α 0 4 ∧ okN α (α 0 4).toNat = true then heR (wr α 0 0 0) x.toNat (tpF α (α 0 4).toNat) else -2
section Listen
variable {E : mm_Env} {d k h b : Nat} {α τ : mm_Mem} {Q : mm_Q0}
theorem WF.tap0 (w : WF k α) : WF k (wr α 0 0 0) := by
  have w1 := w.1
  refine w.tape (fun j a _ => wr_obj a) (fun i a => wr_row a) ⟨by rw [wr_same]; omega, by rw [wr_same]; omega, fun i => ?_⟩
  rw [wr_obj (by omega)]; exact w1.2.2.1 i
theorem RepC.tap0 (w : WF k α) (H : RepC k h α τ) : RepC k h (wr α 0 0 0) (wr τ 2 1 0) := by
  refine H.tape w (fun j a _ => wr_obj a) (fun i a => wr_row a) (fun o a _ => wr_obj a) (fun i a => wr_row a) ⟨by rw [wr_same, wr_same], fun i hi => ?_⟩
  rw [wr_obj (by omega), wr_obj (by omega)]; exact H.1.2 i hi
theorem RepM.tap0 (H : RepM b α τ) : RepM b (wr α 0 0 0) (wr τ 140 1 0) := by
  refine H.tape (fun j a _ => wr_obj a) (fun i a => wr_row a) (fun o a _ => wr_obj a) (fun i a => wr_row a) ⟨by rw [wr_same, wr_same], fun i hi => ?_⟩
  rw [wr_obj (by omega), wr_obj (by omega)]; exact H.2.1.2 i hi
theorem tpF_ok {n : Nat} (w : WF k α) (hz : α 0 3 ≤ 6) (ok : okN α n = true) : tp_ok (tpF α n) := by
  intro i hi
  unfold tpF
  split
  · rename_i q
    have := okN_iff.mp ok i q
    omega
  · omega
theorem okN_up {n : Nat} (h1 : okN α n = true) (h2 : α 1 n < α 0 3) : okN α (n + 1) = true := by
  rw [okN_iff]
  intro i hi
  by_cases e : i = n
  · subst e; exact h2
  · exact okN_iff.mp h1 i (by omega)
theorem c_tapedL (w : WF k α) (H : RepC k h (wr α 0 0 0) τ) (hz : α 0 3 ≤ 6) (h5 : α 0 4 ≤ 5) : ∀ (m i : Nat), (i : Int) + m = α 0 4 → okN α i = true → Q (some (vI (if okN α (α 0 4).toNat = true then (tp (tpF α (α 0 4).toNat) : Nat) else -1))) τ → V0 E (d + 1) qX10_tapedTune 17 [some (vR 2), some (vI (α 0 4)), some (vI (tp (tpF α i) : Nat)), some (vI (i : Int))] [] τ Q
  | 0, i, hi, ok, k1 => by
    refine bX10_tapedTune_17 ⟨⟨by omega, by omega⟩, ⟨by omega, by omega⟩, fun _ => ?_, fun q => by omega⟩
    rw [show (α 0 4).toNat = i by omega, if_pos ok] at k1; exact k1
  | m + 1, i, hi, ok, k1 => by
    obtain ⟨l1, l2⟩ := H.live
    obtain ⟨s1, s2, s3, s4, s5, s6, s7⟩ := H.hs
    rw [wr_row (by omega)] at s1
    have tv : τ 3 i = α 1 i := by have := H.1.2 i (by omega); rw [wr_obj (by omega)] at this; exact this
    have tr := w.1.2.2.1 i
    have en : ((i : Int) + 1) = ((i + 1 : Nat) : Int) := by omega
    refine bX10_tapedTune_17 ⟨⟨by omega, by omega⟩, ⟨by omega, by omega⟩, fun q => by omega, fun _ => ⟨by omega, by omega, h, l1, l2, ?_⟩⟩
    rw [Int.toNat_natCast, tv, s1]
    refine ⟨fun q => ⟨by omega, by omega, c_withNote (tpF_ok w hz ok) (by omega) (by omega) (by omega) (by omega) ⟨_, rfl, ?_⟩⟩, fun q => ?_⟩
    · have e : tp_up (tpF α i) (i : Int).toNat (α 1 i).toNat = tpF α (i + 1) := by
        funext j
        unfold tp_up tpF
        rw [Int.toNat_natCast]
        by_cases e : j = i
        · subst e; rw [if_pos rfl, if_pos (by omega)]
        · rw [if_neg e]
          by_cases y : j < i
          · rw [if_pos y, if_pos (by omega)]
          · rw [if_neg y, if_neg (by omega)]
      rw [e, en]
      exact c_tapedL w H hz h5 m (i + 1) (by omega) (okN_up ok q) k1
    · rw [if_neg] at k1
      · exact k1
      · intro z
        exact q (okN_iff.mp z i (by omega))
theorem c_tapedTune (w : WF k α) (H : RepC k h (wr α 0 0 0) τ) (k1 : Q (some (vI (if α 0 0 = α 0 4 ∧ okN α (α 0 4).toNat = true then (tp (tpF α (α 0 4).toNat) : Nat) else -1))) τ) : M0 E (d + 1) qX10_tapedTune [vR 2, vI (α 0 0)] τ Q := by
  obtain ⟨l1, l2⟩ := H.live
  obtain ⟨s1, s2, s3, s4, s5, s6, s7⟩ := H.hs
  rw [wr_row (by omega)] at s2
  have w1 := w.1
  have wh := w.2.1.1
  refine mX10_tapedTune ⟨h, l1, l2, ⟨by omega, by omega⟩, ?_⟩
  rw [s2]
  refine ⟨fun q => ?_, fun q => ?_⟩
  · have l := c_tapedL (E := E) (d := d) (Q := Q) w H (by omega) (by omega) (α 0 4).toNat 0 (by omega) rfl ?_
    · rw [q]; exact l
    · by_cases ok : okN α (α 0 4).toNat = true
      · rw [if_pos ⟨q, ok⟩] at k1; rw [if_pos ok]; exact k1
      · rw [if_neg (fun z => ok z.2)] at k1; rw [if_neg ok]; exact k1
  · rw [if_neg (fun z => q z.1)] at k1; exact k1
theorem c_listen {a : Int} (w : WF k α) (hk : k ≤ 600) (H : RepC k h α τ) (ha : inR a) (k1 : ∀ τ', RepC k h (lisA α a) τ' → FrC τ τ' → Q (some (vI (lisR α a))) τ') : M0 E (d + 7) qX10_listen [vR 2, vI a] τ Q := by
  have hw := w.le
  have wh := w.2.1.1
  have w' := w.tap0
  have H' := H.tap0 w
  have F' : FrC τ (wr τ 2 1 0) := FrC.rf.w1 (by omega)
  have no : ¬ ((0 ≤ a ∧ a < α 0 6) ∧ α 0 0 = α 0 4 ∧ okN α (α 0 4).toNat = true) → inR (wr τ 2 1 0 139 2 + 1) ∧ Q (some (vI (-2))) (wr (wr τ 2 1 0) 139 2 (wr τ 2 1 0 139 2 + 1)) := by
    intro q
    unfold lisA lisR at k1
    rw [if_neg q, if_neg q] at k1
    exact ⟨ref2 w' hk H', k1 _ (H'.ref w' (by omega)) (F'.w1 (by omega))⟩
  have e1 : τ 2 1 = α 0 0 := H.1.1
  have step : ∀ o : Nat, (o = 0 → ¬ (0 ≤ a ∧ a < α 0 6)) → (o ≠ 0 → (0 ≤ a ∧ a < α 0 6) ∧ o = h + 14 + 4 * a.toNat ∧ KD o = some (.inr 0)) → M0 E (d + 6) qX10_takeTape [vR 2] τ (fun v τ3 => ∃ r4 : Int, v = some (vI r4) ∧ M0 E (d + 6) qX10_tapedTune [vR 2, vI r4] τ3 (fun v τ5 => ∃ r6 : Int, v = some (vI r6) ∧ ((o = 0 → inR ((τ5 139 2) + 1) ∧ Q (some (vI (-2))) (wr τ5 139 2 ((τ5 139 2) + 1))) ∧ (¬ o = 0 → inR r6 ∧ ((r6 ≠ (-1) → KD o = some (.inr 0) ∧ M0 E (d + 6) qX0_hear [vR o, vR 78, vI r6] τ5 (fun v τ11 => ∃ r12 : Int, v = some (vI r12) ∧ Q (some (vI r12)) τ11)) ∧ (r6 = (-1) → inR ((τ5 139 2) + 1) ∧ Q (some (vI (-2))) (wr τ5 139 2 ((τ5 139 2) + 1)))))))) := by
    intro o o1 o2
    refine mX10_takeTape ⟨_, rfl, ?_⟩
    rw [e1]
    refine c_tapedTune w H' ⟨_, rfl, fun z => no (fun y => o1 z y.1), fun z => ?_⟩
    obtain ⟨z1, z2, z3⟩ := o2 z
    by_cases ok : α 0 0 = α 0 4 ∧ okN α (α 0 4).toNat = true
    · rw [if_pos ok]
      have okf := tpF_ok w (by omega) ok.2
      have lt := tp_lt okf
      refine ⟨tp_R okf, fun _ => ⟨z3, ?_⟩, fun y => by omega⟩
      rw [z2]
      unfold lisA lisR at k1
      rw [if_pos ⟨z1, ok⟩, if_pos ⟨z1, ok⟩] at k1
      exact c_hearD w' hk H' okf (by rw [wr_row (by omega)]; omega) (fun τ' Hx Fx => ⟨_, rfl, k1 τ' Hx (F'.tr Fx)⟩)
    · rw [if_neg ok]
      exact ⟨⟨by decide, by decide⟩, fun y => absurd rfl y, fun _ => no (fun y => ok y.2)⟩
  refine mX10_listen (c_doorAt w H ha (fun a0 a1 kd => ⟨_, rfl, step _ (fun z => by omega) (fun _ => ⟨⟨a0, a1⟩, rfl, kd⟩)⟩) (fun q => ⟨_, rfl, step _ (fun _ => q) (fun z => absurd rfl z)⟩))
theorem m_lis93 {x : Int} {n : Nat} (w : WF k α) (hk : k ≤ 600) (x0 : 0 ≤ x ∧ x < α 0 6) (hn : (n : Int) = α 0 4) (ok : okN α n = true) : ∀ (m i : Nat) (τ : mm_Mem), i + m = n → RepM b (wr α 0 0 0) τ → (∀ j, j < i → τ 188 j = α 1 j) → (∀ τ', RepM b (hnA (wr α 0 0 0) x.toNat (tpF α n)) τ' → FrM τ τ' → Q (some (vI (heR (wr α 0 0 0) x.toNat (tpF α n)))) τ') → V0 E (d + 6) qX11_listen 93 [some (vR 140), some (vI x), some (vI (n : Int)), none, some (vI (i : Int))] [] τ Q
  | 0, i, τ, hi, H, lo, k1 => by
    have wh := w.2.1.1
    have hw := w.le
    have ok' := okN_iff.mp ok
    have w1 := w.1.2.2.1
    have fv : fvA (wr α 0 0 0) (tpF α n) := by
      refine ⟨fun j hj => ?_, fun j hj => ?_⟩
      · rw [wr_row (by omega)] at hj ⊢
        have := ok' j (by omega)
        unfold tpF; rw [if_pos (by omega)]; have := w1 j; omega
      · rw [wr_row (by omega)] at hj
        unfold tpF; rw [if_neg (by omega)]
    refine bX11_listen_93 ⟨⟨by omega, by omega⟩, ⟨by omega, by omega⟩, fun _ => m_numbers w.tap0 H fv ?_ (fun j hj => ?_) (fun τ1 F1 F2 M1 H1 => ⟨rfl, ?_⟩), fun q => by omega⟩
    · rw [wr_row (by omega), wr_row (by omega)]; omega
    · rw [wr_row (by omega)] at hj
      rw [lo j (by omega)]
      unfold tpF; rw [if_pos (by omega)]; have := w1 j; omega
    · rw [show x = ((x.toNat : Nat) : Int) by omega]
      refine m_hearsNow w.tap0 hk H1 fv M1 (by rw [wr_row (by omega)]; omega) (fun τ' H' F' => ⟨_, rfl, ?_⟩)
      exact k1 τ' H' (fun o ho => (F' o (by omega)).trans (F1 o (by omega)))
  | m + 1, i, τ, hi, H, lo, k1 => by
    have wh := w.2.1.1
    have hw := w.le
    have en : ((i : Int) + 1) = ((i + 1 : Nat) : Int) := by omega
    have tv : τ 141 i = α 1 i := by have := H.2.1.2 i (by omega); rw [wr_obj (by omega)] at this; exact this
    refine bX11_listen_93 ⟨⟨by omega, by omega⟩, ⟨by omega, by omega⟩, fun q => by omega, fun _ => ⟨by omega, by omega, by omega, by omega, ?_⟩⟩
    rw [en, Int.toNat_natCast, tv]
    refine m_lis93 w hk x0 hn ok m (i + 1) _ (by omega) (H.frame (fun o j hr => ?_)) (fun j hj => ?_) (fun τ' H' F' => k1 τ' H' (fun o ho => (F' o ho).trans (wr_obj (by omega))))
    · by_cases e : o = 188
      · subst e; exact absurd hr (by simp [relM])
      · rw [wr_obj e]
    · by_cases e : j = i
      · subst e; rw [wr_same]
      · rw [wr_row e]; exact lo j (by omega)
theorem m_lis40 {x : Int} (w : WF k α) (hk : k ≤ 600) (H : RepM b (wr α 0 0 0) τ) (k1 : ∀ τ', RepM b (lisA α x) τ' → FrM τ τ' → Q (some (vI (lisR α x))) τ') : ∀ (m i : Nat) (g : Int), (i : Int) + m = α 0 0 → (g = 0 ∨ g = 1) → (g = 0 → ¬ ((0 ≤ x ∧ x < α 0 6) ∧ α 0 0 = α 0 4 ∧ okN α (α 0 4).toNat = true)) → (g = 1 → (0 ≤ x ∧ x < α 0 6) ∧ α 0 0 = α 0 4 ∧ okN α i = true) → V0 E (d + 6) qX11_listen 40 [some (vR 140), some (vI x), some (vI (α 0 0)), some (vI g), some (vI (i : Int))] [] τ Q := by
  have no : ¬ ((0 ≤ x ∧ x < α 0 6) ∧ α 0 0 = α 0 4 ∧ okN α (α 0 4).toNat = true) → M0 E (d + 5) qX11_refused2 [vR 140] τ (fun v τ3 => ∃ r4 : Int, v = some (vI r4) ∧ Q (some (vI r4)) τ3) := by
    intro q
    unfold lisA lisR at k1
    rw [if_neg q, if_neg q] at k1
    exact m_refused2 w.tap0 hk H (fun τ' H' F' => ⟨_, rfl, k1 τ' H' F'⟩)
  have w1 := w.1
  have wh := w.2.1.1
  obtain ⟨b1, b2, b3⟩ := H.bk
  have h3 := H.hs.1
  rw [wr_row (by omega)] at h3
  intro m
  induction m with
  | zero =>
    intro i g hi hg n0 n1
    refine bX11_listen_40 ⟨⟨by omega, by omega⟩, ⟨by omega, by omega⟩, fun _ => ⟨⟨by omega, by omega⟩, fun q => ?_, fun q => no (n0 q)⟩, fun q => by omega⟩
    obtain ⟨z1, z2, z3⟩ := n1 (by omega)
    have e : (α 0 0) = ((i : Nat) : Int) := by omega
    have ok : okN α (α 0 4).toNat = true := by rw [show (α 0 4).toNat = i by omega]; exact z3
    unfold lisA lisR at k1
    rw [if_pos ⟨z1, z2, ok⟩, if_pos ⟨z1, z2, ok⟩, show (α 0 4).toNat = i by omega] at k1
    rw [e]
    exact m_lis93 w hk z1 (by omega) z3 i 0 τ (by omega) H (fun j hj => absurd hj (Nat.not_lt_zero _)) k1
  | succ m ih =>
    intro i g hi hg n0 n1
    have en : ((i : Int) + 1) = ((i + 1 : Nat) : Int) := by omega
    refine bX11_listen_40 ⟨⟨by omega, by omega⟩, ⟨by omega, by omega⟩, fun q => by omega, fun _ => ⟨⟨by omega, by omega⟩, fun q => ⟨fun z => absurd q z, fun _ => no (n0 q)⟩, fun q => ?_⟩⟩
    obtain ⟨z1, z2, z3⟩ := n1 (by omega)
    have tv : τ 141 i = α 1 i := by have := H.2.1.2 i (by omega); rw [wr_obj (by omega)] at this; exact this
    refine ⟨by omega, by omega, by omega, by omega, ?_⟩
    rw [b3, h3, Int.toNat_natCast, tv, en]
    refine ⟨fun y => ih (i + 1) 0 (by omega) (Or.inl rfl) (fun _ z => ?_) (fun z => absurd z (by decide)), fun y => ih (i + 1) 1 (by omega) (Or.inr rfl) (fun z => absurd z (by decide)) (fun _ => ⟨z1, z2, okN_up z3 (by omega)⟩)⟩
    have := okN_iff.mp z.2.2 i (by omega)
    omega
theorem m_listen {a : Int} (w : WF k α) (hk : k ≤ 600) (H : RepM b α τ) (ha : inR a) (k1 : ∀ τ', RepM b (lisA α a) τ' → FrM τ τ' → Q (some (vI (lisR α a))) τ') : M0 E (d + 6) qX11_listen [vR 140, vI a] τ Q := by
  have H' := H.tap0
  have w1 := w.1
  have e1 : τ 140 1 = α 0 0 := H.2.1.1
  have F' : FrM τ (wr τ 140 1 0) := FrM.rf.w1 (by omega)
  obtain ⟨b1, b2, b3⟩ := H'.bk
  have h4 := H'.hs.2.1
  rw [wr_row (show 4 ≠ 0 by omega)] at h4
  have key := m_lis40 (E := E) (d := d) (x := a) (Q := Q) w hk H' (fun τ' H2 F2 => k1 τ' H2 (F'.tr F2)) (α 0 0).toNat 0
  refine mX11_listen (m_isDoor w.tap0 H' ha ⟨_, rfl, fun q => ?_, fun q => ⟨by omega, by omega, ?_⟩⟩)
  · rw [wr_row (by omega)] at q
    rw [e1]
    exact key 0 (by omega) (Or.inl rfl) (fun _ z => of_decide_eq_false q z.1) (fun z => absurd z (by decide))
  · rw [wr_row (by omega)] at q
    have q := of_decide_eq_true q
    rw [b3, h4, e1]
    exact ⟨fun z => key 0 (by omega) (Or.inl rfl) (fun _ y => z y.2.1) (fun y => absurd y (by decide)), fun z => key 1 (by omega) (Or.inr rfl) (fun y => absurd y (by decide)) (fun _ => ⟨q, z, rfl⟩)⟩
end Listen
