/-! the reference's answers to what is only asked -/
section MQuery
variable {E : mm_Env} {d k b : Nat} {α τ : mm_Mem} {Q : mm_Q0}
theorem RepM.bk (H : RepM b α τ) : τ 140 12 = (b : Int) ∧ b < 2 ∧ (τ 140 12).toNat = b := ⟨H.1.2, H.1.1, by rw [H.1.2]; omega⟩
theorem RepM.hs (H : RepM b α τ) : τ 142 b = α 0 3 ∧ τ 143 b = α 0 4 ∧ τ 144 b = α 0 5 ∧ τ 152 b = α 0 6 ∧ τ 157 b = α 0 7 ∧ τ 148 (3 * b) = α 0 8 ∧ τ 148 (3 * b + 1) = α 0 9 ∧ τ 148 (3 * b + 2) = α 0 10 ∧ τ 163 b = α 0 11 ∧ τ 164 b = α 0 12 := by
  obtain ⟨a1, a2, a3, a4, a5, a6, a7, a8⟩ := H.2.2.2.1
  exact ⟨a1, a2, a3, a4, a5, a6 0 (by decide), a6 1 (by decide), a6 2 (by decide), a7, a8⟩
theorem m_is {a x y : Int} (ha : inR a) (hx : inR x) (hy : inR y) (k1 : Q (some (vB (decide (x ≤ a ∧ a ≤ y)))) τ) : M0 E d qX11_is [vI a, vI x, vI y] τ Q := by
  refine mX11_is ⟨ha, hx, fun q => ?_, fun q => ⟨hy, fun q2 => ?_, fun q2 => ?_⟩⟩
  · rw [decide_eq_false (by omega)] at k1; exact k1
  · rw [decide_eq_false (by omega)] at k1; exact k1
  · rw [decide_eq_true (by omega)] at k1; exact k1
theorem m_isTune {a : Int} (w : WF k α) (H : RepM b α τ) (ha : inR a) (k1 : Q (some (vB (decide (0 ≤ a ∧ a < α 0 5)))) τ) : M0 E (d + 1) qX11_isTune [vR 140, vI a] τ Q := by
  obtain ⟨b1, b2, b3⟩ := H.bk
  have hw := w.le
  refine mX11_isTune ⟨by omega, by omega, ?_⟩
  rw [b3, H.hs.2.2.1]
  refine m_is ha ⟨by decide, by decide⟩ ⟨by omega, by omega⟩ ⟨_, rfl, ?_⟩
  have e : decide (0 ≤ a ∧ a ≤ α 0 5 - 1) = decide (0 ≤ a ∧ a < α 0 5) := decide_eq_decide.mpr (by omega)
  rw [e]; exact k1
theorem m_isDoor {a : Int} (w : WF k α) (H : RepM b α τ) (ha : inR a) (k1 : Q (some (vB (decide (0 ≤ a ∧ a < α 0 6)))) τ) : M0 E (d + 1) qX11_isDoor [vR 140, vI a] τ Q := by
  obtain ⟨b1, b2, b3⟩ := H.bk
  have hw := w.le
  refine mX11_isDoor ⟨by omega, by omega, ?_⟩
  rw [b3, H.hs.2.2.2.1]
  refine m_is ha ⟨by decide, by decide⟩ ⟨by omega, by omega⟩ ⟨_, rfl, ?_⟩
  have e : decide (0 ≤ a ∧ a ≤ α 0 6 - 1) = decide (0 ≤ a ∧ a < α 0 6) := decide_eq_decide.mpr (by omega)
  rw [e]; exact k1
theorem m_isPerson {a : Int} (w : WF k α) (H : RepM b α τ) (ha : inR a) (k1 : Q (some (vB (decide (0 ≤ a ∧ a < α 0 7)))) τ) : M0 E (d + 1) qX11_isPerson [vR 140, vI a] τ Q := by
  obtain ⟨b1, b2, b3⟩ := H.bk
  have hw := w.le
  refine mX11_isPerson ⟨by omega, by omega, ?_⟩
  rw [b3, H.hs.2.2.2.2.1]
  refine m_is ha ⟨by decide, by decide⟩ ⟨by omega, by omega⟩ ⟨_, rfl, ?_⟩
  have e : decide (0 ≤ a ∧ a ≤ α 0 7 - 1) = decide (0 ≤ a ∧ a < α 0 7) := decide_eq_decide.mpr (by omega)
  rw [e]; exact k1
theorem m_isWhistle {a : Int} (ha : inR a) (k1 : Q (some (vB (decide (0 ≤ a ∧ a < 1000)))) τ) : M0 E (d + 1) qX11_isWhistle [vI a] τ Q := by
  refine mX11_isWhistle (m_is ha ⟨by decide, by decide⟩ ⟨by decide, by decide⟩ ⟨_, rfl, ?_⟩)
  have e : decide (0 ≤ a ∧ a ≤ 999) = decide (0 ≤ a ∧ a < 1000) := decide_eq_decide.mpr (by omega)
  rw [e]; exact k1
theorem m_door4 {a : Int} (H : RepM b α τ) (k1 : Q (some (vI (4 * (b : Int) + a))) τ) : M0 E d qX11_door4 [vR 140, vI a] τ Q := mX11_door4 (by rw [H.bk.1]; exact k1)
theorem m_person4 {a : Int} (H : RepM b α τ) (k1 : Q (some (vI (4 * (b : Int) + a))) τ) : M0 E d qX11_person4 [vR 140, vI a] τ Q := mX11_person4 (by rw [H.bk.1]; exact k1)
theorem RepM.pers {p : Int} (H : RepM b α τ) (h0 : 0 ≤ p) (h1 : p < α 0 7) : τ 159 (4 * (b : Int) + p).toNat = α 8 p.toNat ∧ τ 160 (4 * (b : Int) + p).toNat = α 9 p.toNat ∧ τ 161 (4 * (b : Int) + p).toNat = α 10 p.toNat ∧ τ 162 (4 * (b : Int) + p).toNat = α 11 p.toNat := by
  have e : (4 * (b : Int) + p).toNat = 4 * b + p.toNat := by omega
  rw [e]
  exact H.2.2.2.2.2.2.1 p.toNat (by omega)
theorem RepM.door {a : Int} (H : RepM b α τ) (h0 : 0 ≤ a) (h1 : a < α 0 6) : τ 154 (4 * (b : Int) + a).toNat = α 5 a.toNat ∧ τ 155 (4 * (b : Int) + a).toNat = α 6 a.toNat ∧ τ 156 (4 * (b : Int) + a).toNat = α 7 a.toNat := by
  have e : (4 * (b : Int) + a).toNat = 4 * b + a.toNat := by omega
  rw [e]
  exact H.2.2.2.2.2.1 a.toNat (by omega)
/-- the search for an ear, from a person on -/
def earF (α : mm_Mem) (dd t : Int) (p : Nat) : Bool := (List.range' p (4 - p)).any (fun p => decide ((p : Int) < α 0 7) && (decide (α 8 p = dd) && decide (α 9 p = t)))
theorem earF_0 {dd t : Int} : earF α dd t 0 = earA α dd t := by
  unfold earF earA
  rw [List.range_eq_range']
theorem earF_s {dd t : Int} {p : Nat} (hp : p < 4) : earF α dd t p = ((decide ((p : Int) < α 0 7) && (decide (α 8 p = dd) && decide (α 9 p = t))) || earF α dd t (p + 1)) := by
  unfold earF
  have e : 4 - p = (4 - (p + 1)) + 1 := by omega
  rw [e, List.range'_succ, List.any_cons]
theorem earF_end {dd t : Int} {p : Nat} (hp : α 0 7 ≤ (p : Int)) : earF α dd t p = false := by
  unfold earF
  rw [List.any_eq_false]
  intro q hq
  have := List.mem_range'_1.mp hq
  simp only [Bool.and_eq_true, decide_eq_true_eq, not_and]
  intro h1
  omega
theorem m_isEarL {dd t : Int} (w : WF k α) (H : RepM b α τ) (hd : inR dd) (ht : inR t) : ∀ (n p : Nat), p + n = 4 → Q (some (vB (earF α dd t p))) τ → V0 E (d + 1) qX11_isEar 2 [some (vR 140), some (vI dd), some (vI t), some (vI (p : Int))] [] τ Q
  | 0, p, hp, k1 => by
    obtain ⟨b1, b2, b3⟩ := H.bk
    have hw := w.le
    refine bX11_isEar_2 ⟨by omega, by omega, ⟨by omega, by omega⟩, fun _ => ?_, fun q => ?_⟩
    · rw [earF_end (by omega)] at k1; exact k1
    · rw [b3, H.hs.2.2.2.2.1] at q; omega
  | n + 1, p, hp, k1 => by
    obtain ⟨b1, b2, b3⟩ := H.bk
    have hw := w.le
    refine bX11_isEar_2 ⟨by omega, by omega, ⟨by omega, by omega⟩, fun q => ?_, fun q => ?_⟩
    · rw [b3, H.hs.2.2.2.2.1] at q; rw [earF_end q] at k1; exact k1
    · rw [b3, H.hs.2.2.2.2.1] at q
      have hq : (p : Int) < α 0 7 := by omega
      obtain ⟨g1, g2, -⟩ := H.pers (p := (p : Int)) (by omega) hq
      rw [Int.toNat_natCast] at g1 g2
      have next : Q (some (vB (earF α dd t (p + 1)))) τ → V0 E (d + 1) qX11_isEar 2 [some (vR 140), some (vI dd), some (vI t), some (vI ((p : Int) + 1))] [] τ Q := fun k2 => by
        have e : ((p : Int) + 1) = ((p + 1 : Nat) : Int) := by omega
        rw [e]
        exact m_isEarL w H hd ht n (p + 1) (by omega) k2
      rw [earF_s (by omega), decide_eq_true hq, Bool.true_and] at k1
      refine m_person4 H ⟨_, rfl, by omega, by omega, hd, fun q2 => ?_, fun q2 => ?_⟩
      · rw [g1] at q2
        rw [decide_eq_false q2, Bool.false_and, Bool.false_or] at k1
        exact next k1
      · rw [g1] at q2
        refine m_person4 H ⟨_, rfl, by omega, by omega, ht, fun q3 => ?_, fun q3 => ?_⟩
        · rw [g2] at q3
          rw [decide_eq_false q3, Bool.and_false, Bool.false_or] at k1
          exact next k1
        · rw [g2] at q3
          rw [decide_eq_true q2, decide_eq_true q3, Bool.true_and, Bool.true_or] at k1
          exact k1
theorem m_isEar {dd t : Int} (w : WF k α) (H : RepM b α τ) (hd : inR dd) (ht : inR t) (k1 : Q (some (vB (earA α dd t))) τ) : M0 E (d + 1) qX11_isEar [vR 140, vI dd, vI t] τ Q :=
  mX11_isEar (m_isEarL w H hd ht 4 0 rfl (by rw [earF_0]; exact k1))
theorem m_fault {a : Int} (H : RepM b α τ) (ha : inR a) (k1 : Q (some (vI (faultR α a))) τ) : M0 E d qX11_fault [vR 140, vI a] τ Q := by
  obtain ⟨f1, f2⟩ := H.2.2.1
  unfold faultR at k1
  refine mX11_fault ⟨ha, fun q => ⟨fun q2 => ?_, fun q2 => ?_⟩, fun q => ?_⟩
  · rw [if_neg q, if_neg q2] at k1; exact k1
  · rw [if_neg q, if_pos q2] at k1; rw [f2]; exact k1
  · rw [if_pos q] at k1; rw [f1]; exact k1
theorem m_status {a : Int} (H : RepM b α τ) (ha : inR a) (k1 : Q (some (vI (statusR α a))) τ) : M0 E (d + 1) qX11_status [vR 140, vI a] τ Q := by
  have hr := H.2.2.2.2.2.2.2.2.2.2.2
  unfold statusR at k1
  refine mX11_status (m_is ha ⟨by decide, by decide⟩ ⟨by decide, by decide⟩ ⟨_, rfl, fun q => ?_, fun q => ?_⟩)
  · have q := of_decide_eq_false q
    rw [if_neg (by omega)] at k1; exact k1
  · have q := of_decide_eq_true q
    rw [if_pos (by omega)] at k1
    exact ⟨by omega, by omega, by rw [hr _ (by omega)]; exact k1⟩
theorem m_octet {a : Int} (w : WF k α) (H : RepM b α τ) (ha : inR a) (k1 : Q (some (vI (octetR α a))) τ) : M0 E d qX11_octet [vR 140, vI a] τ Q := by
  obtain ⟨o1, o2⟩ := H.2.2.2.2.2.2.2.2.2.2.1
  have wo := w.2.2.2.2.2.2.2.2
  unfold octetR at k1
  refine mX11_octet ⟨ha, fun q => ?_, fun q => ⟨fun q2 => ?_, fun q2 => ⟨by omega, by omega, ?_⟩⟩⟩
  · rw [if_neg (by omega)] at k1; exact k1
  · rw [if_neg (by omega)] at k1; exact k1
  · rw [if_pos (by omega)] at k1; rw [o2 _ (by omega)]; exact k1
theorem m_seed {a : Int} (hk : k ≤ 600) (w : WF k α) (H : RepM b α τ) (ha : inR a) (k1 : ∀ τ', RepM b (seedA α a) τ' → FrM τ τ' → Q (some (vB (seedR a))) τ') : M0 E (d + 1) qX11_seed [vR 140, vI a] τ Q := by
  refine mX11_seed ⟨ha, fun q => ?_, fun q => ?_⟩
  · have e1 : seedA α a = wr α 0 13 a := if_pos q
    have e2 : seedR a = true := decide_eq_true q
    rw [e1, e2] at k1
    refine k1 _ (H.most (fun j _ _ => wr_row (by omega)) (fun j _ _ => wr_obj (by omega)) (wr_row (by omega)) (fun o _ _ => wr_obj (by omega)) (fun o _ _ => wr_obj (by omega)) ?_ ?_ ?_ ?_ ?_) (FrM.rf.w1 (by omega))
    · rw [wr_row (by omega), wr_row (by omega), wr_obj (by omega), wr_obj (by omega)]; exact H.2.1
    · rw [wr_row (by omega), wr_row (by omega), wr_row (by omega), wr_row (by omega)]; exact H.2.2.1
    · rw [wr_same, wr_same]
    · rw [wr_row (by omega), wr_row (by omega), wr_obj (by omega), wr_obj (by omega)]; exact H.2.2.2.2.2.2.2.2.2.2.1
    · rw [wr_obj (by omega), wr_obj (by omega)]; exact H.2.2.2.2.2.2.2.2.2.2.2
  · have e1 : seedA α a = refA α 4 := if_neg q
    have e2 : seedR a = false := decide_eq_false q
    rw [e1, e2] at k1
    exact m_refuses (i := 4) hk w H (by decide) (fun τ' H' F' => ⟨_, rfl, ⟨by decide, by decide⟩, fun _ => k1 τ' H' F', fun q => absurd (by decide) q⟩)
theorem m_has {a : Int} (H : RepM b α τ) (ha : inR a) (k1 : Q (some (vI (hasA α a))) τ) : M0 E d qX11_has [vR 140, vI a] τ Q := by
  obtain ⟨b1, b2, b3⟩ := H.bk
  obtain ⟨g0, g1, g2, g3, g4, g5, g6, g7, g8, g9⟩ := H.hs
  have e0 : (3 * τ 140 12).toNat = 3 * b := by omega
  have e1 : (3 * τ 140 12 + 1).toNat = 3 * b + 1 := by omega
  have e2 : (3 * τ 140 12 + 2).toNat = 3 * b + 2 := by omega
  unfold hasA at k1
  refine mX11_has ⟨ha, fun q => ?_, fun q => ⟨by omega, by omega, ?_⟩, fun q => ⟨by omega, by omega, ?_⟩, fun q => ⟨by omega, by omega, ?_⟩, fun q => ⟨by omega, by omega, ?_⟩, fun q => ⟨by omega, by omega, ?_⟩, fun q => ⟨by omega, by omega, ?_⟩, fun q => ⟨by omega, by omega, ?_⟩, fun q => ⟨by omega, by omega, ?_⟩, fun q => ⟨by omega, by omega, ?_⟩, fun q => ⟨by omega, by omega, ?_⟩⟩
  · rw [if_neg (by omega), if_neg (by omega), if_neg (by omega), if_neg (by omega), if_neg (by omega), if_neg (by omega), if_neg (by omega), if_neg (by omega), if_neg (by omega), if_neg (by omega)] at k1; exact k1
  · subst q; rw [b3, g0]; exact k1
  · subst q; rw [b3, g1]; exact k1
  · subst q; rw [b3, g2]; exact k1
  · subst q; rw [b3, g3]; exact k1
  · subst q; rw [b3, g4]; exact k1
  · subst q; rw [e0, g5]; exact k1
  · subst q; rw [e1, g6]; exact k1
  · subst q; rw [e2, g7]; exact k1
  · subst q; rw [b3, g8]; exact k1
  · subst q; rw [b3, g9]; exact k1
theorem RepM.cnt {p : Int} (H : RepM b α τ) (h0 : 0 ≤ p) (h1 : p < 4) : τ 179 p.toNat = α 12 p.toNat ∧ τ 180 p.toNat = α 13 p.toNat ∧ τ 181 p.toNat = α 14 p.toNat := H.2.2.2.2.2.2.2.1.1 p.toNat (by omega)
theorem RepM.ear {e : Int} (H : RepM b α τ) (h0 : 0 ≤ e) (h1 : e < 12) : τ 182 e.toNat = α 15 e.toNat ∧ τ 183 e.toNat = α 16 e.toNat ∧ τ 184 e.toNat = α 17 e.toNat := H.2.2.2.2.2.2.2.1.2.1 e.toNat (by omega)
theorem RepM.opn {e : Int} (H : RepM b α τ) (h0 : 0 ≤ e) (h1 : e < 4) : τ 185 e.toNat = α 18 e.toNat ∧ τ 186 e.toNat = α 19 e.toNat ∧ τ 187 e.toNat = α 20 e.toNat := H.2.2.2.2.2.2.2.1.2.2 e.toNat (by omega)
theorem m_opened {a0 a1 : Int} (w : WF k α) (H : RepM b α τ) (h0 : inR a0) (h1 : inR a1) (k1 : Q (some (vI (openedR α a0 a1))) τ) : M0 E (d + 2) qX11_opened [vR 140, vI a0, vI a1] τ Q := by
  unfold openedR at k1
  have hw := w.le
  refine mX11_opened (m_isDoor w H h0 ⟨_, rfl, fun q => ?_, fun q => ?_⟩)
  · have q := of_decide_eq_true q
    obtain ⟨o1, o2, o3⟩ := H.opn (e := a0) (by omega) (by omega)
    rw [if_pos q] at k1
    rw [o1, o2, o3]
    refine ⟨h1, fun q0 => ⟨fun q1 => ⟨fun q2 => ?_, fun q2 => ⟨by omega, by omega, ?_⟩⟩, fun q1 => ⟨by omega, by omega, ?_⟩⟩, fun q0 => ⟨by omega, by omega, ?_⟩⟩
    · rw [if_neg q0, if_neg q1, if_neg q2] at k1; exact k1
    · rw [if_neg q0, if_neg q1, if_pos q2] at k1; exact k1
    · rw [if_neg q0, if_pos q1] at k1; exact k1
    · rw [if_pos q0] at k1; exact k1
  · have q := of_decide_eq_false q
    rw [if_neg q] at k1; exact k1
theorem m_ear {a0 a1 a2 : Int} (w : WF k α) (H : RepM b α τ) (h0 : inR a0) (h1 : inR a1) (h2 : inR a2) (k1 : Q (some (vI (earR α a0 a1 a2))) τ) : M0 E (d + 2) qX11_ear [vR 140, vI a0, vI a1, vI a2] τ Q := by
  unfold earR at k1
  have hw := w.le
  refine mX11_ear (m_isDoor w H h0 ⟨_, rfl, fun q => ?_, fun q => m_isTune w H h1 ⟨_, rfl, fun q2 => ?_, fun q2 => m_isEar w H h0 h1 ⟨_, rfl, fun q3 => ?_, fun q3 => ?_⟩⟩⟩)
  · have q := of_decide_eq_false q
    rw [if_neg (fun z => q z.1)] at k1; exact k1
  · have q2 := of_decide_eq_false q2
    rw [if_neg (fun z => q2 (by have := earA_lt w z.2; omega))] at k1; exact k1
  · have q := of_decide_eq_true q
    have q2 := of_decide_eq_true q2
    have e : (3 * a0 + a1).toNat = 3 * a0.toNat + a1.toNat := by omega
    obtain ⟨o1, o2, o3⟩ := H.ear (e := 3 * a0 + a1) (by omega) (by omega)
    rw [if_pos ⟨q, q3⟩] at k1
    rw [o1, o2, o3, e]
    refine ⟨h2, fun r0 => ⟨fun r1 => ⟨fun r2 => ?_, fun r2 => ⟨by omega, by omega, ?_⟩⟩, fun r1 => ⟨by omega, by omega, ?_⟩⟩, fun r0 => ⟨by omega, by omega, ?_⟩⟩
    · rw [if_neg r0, if_neg r1, if_neg r2] at k1; exact k1
    · rw [if_neg r0, if_neg r1, if_pos r2] at k1; exact k1
    · rw [if_neg r0, if_pos r1] at k1; exact k1
    · rw [if_pos r0] at k1; exact k1
  · rw [if_neg (fun z => by rw [q3] at z; cases z.2)] at k1; exact k1
theorem m_apart {a0 : Int} (w : WF k α) (H : RepM b α τ) (h0 : inR a0) (k1 : Q (some (vI (apartR α a0))) τ) : M0 E (d + 2) qX11_apart [vR 140, vI a0] τ Q := by
  unfold apartR at k1
  have hw := w.le
  obtain ⟨b1, b2, b3⟩ := H.bk
  refine mX11_apart (m_isPerson w H h0 ⟨_, rfl, fun q => ?_, fun q => ?_⟩)
  · have q := of_decide_eq_false q
    rw [if_neg q] at k1; exact k1
  · have q := of_decide_eq_true q
    have wp := wfPz w q.1 q.2
    obtain ⟨g1, g2, -⟩ := H.pers q.1 q.2
    obtain ⟨c1, -⟩ := H.cnt (p := a0) q.1 (by omega)
    rw [if_pos q] at k1
    refine ⟨by omega, by omega, m_person4 H ⟨_, rfl, by omega, by omega, m_person4 H ⟨_, rfl, by omega, by omega, ?_⟩⟩⟩
    rw [g1, g2]
    obtain ⟨o1, -⟩ := H.ear (e := 3 * α 8 a0.toNat + α 9 a0.toNat) (by omega) (by omega)
    have e : (3 * α 8 a0.toNat + α 9 a0.toNat).toNat = 3 * (α 8 a0.toNat).toNat + (α 9 a0.toNat).toNat := by omega
    refine ⟨by omega, by omega, ?_⟩
    rw [c1, o1, e]
    exact k1
end MQuery
