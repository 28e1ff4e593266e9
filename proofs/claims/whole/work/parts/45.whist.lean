/-! whistles by their numbers: note, find, tells, round -/
theorem num_inj {nt : Int} (hn : 1 ≤ nt) {f g : Nat → Int} : ∀ (L : Nat), (∀ i, i < L → 0 ≤ f i ∧ f i < nt) → (∀ i, i < L → 0 ≤ g i ∧ g i < nt) → numA nt f L = numA nt g L → ∀ i, i < L → f i = g i
  | 0, _, _, _, i, hi => absurd hi (Nat.not_lt_zero _)
  | L + 1, hf, hg, h, i, hi => by
    have a := hf L (by omega)
    have b := hg L (by omega)
    simp only [numA] at h
    have e1 : f L = (numA nt f L * nt + f L) % nt := by rw [Int.add_comm, Int.add_mul_emod_self_right, Int.emod_eq_of_lt a.1 a.2]
    have e2 : g L = (numA nt g L * nt + g L) % nt := by rw [Int.add_comm, Int.add_mul_emod_self_right, Int.emod_eq_of_lt b.1 b.2]
    have e3 : f L = g L := by rw [e1, e2, h]
    have e4 : numA nt f L = numA nt g L := by
      rw [e3] at h
      have h2 : numA nt f L * nt = numA nt g L * nt := by omega
      exact Int.eq_of_mul_eq_mul_right (by omega) h2
    by_cases q : i = L
    · subst q; exact e3
    · exact num_inj hn L (fun j hj => hf j (by omega)) (fun j hj => hg j (by omega)) e4 i (by omega)
theorem num_congr {nt : Int} {f g : Nat → Int} : ∀ (L : Nat), (∀ i, i < L → f i = g i) → numA nt f L = numA nt g L
  | 0, _ => rfl
  | L + 1, h => by
    simp only [numA]
    rw [num_congr L (fun i hi => h i (by omega)), h L (by omega)]
theorem num_range {nt : Int} (hn : 1 ≤ nt) {f : Nat → Int} : ∀ (L : Nat), (∀ i, i < L → 0 ≤ f i ∧ f i < nt) → 0 ≤ numA nt f L ∧ numA nt f L < nt ^ L
  | 0, _ => by simp [numA]
  | L + 1, h => by
    have a := h L (by omega)
    obtain ⟨i1, i2⟩ := num_range hn L (fun i hi => h i (by omega))
    simp only [numA]
    rw [Int.pow_succ]
    constructor
    · have := Int.mul_nonneg i1 (show 0 ≤ nt by omega); omega
    · have : (numA nt f L + 1) * nt ≤ nt ^ L * nt := Int.mul_le_mul_of_nonneg_right (by omega) (by omega)
      rw [Int.add_mul] at this
      omega
section Whist
variable {E : mm_Env} {d k h b : Nat} {α τ : mm_Mem} {Q : mm_Q0}
theorem WF.tune {t : Nat} (w : WF k α) (ht : (t : Int) < α 0 5) : 2 ≤ α 0 3 ∧ α 0 3 ≤ 6 ∧ 2 ≤ α 0 4 ∧ α 0 4 ≤ 5 := by
  obtain ⟨hh, -⟩ := w.2.1
  omega
theorem wpA_ok {t n : Nat} (w : WF k α) (ht : (t : Int) < α 0 5) (hn : n < 1000) : tp_ok (wpA α t n) := by
  intro i hi
  have w3 := w.tune ht
  unfold wpA
  split
  · rename_i q
    have := ((w.2.2.2.2.2.2.1 t ht).1 n hn).1 i q
    omega
  · omega
theorem whi_eq {t n t' n' : Nat} (w : WF k α) (ht : (t : Int) < α 0 5) (hn : n < 1000) (ht' : (t' : Int) < α 0 5) (hn' : n' < 1000) : tp (wpA α t n) = tp (wpA α t' n') ↔ α 23 (1000 * t + n) = α 23 (1000 * t' + n') := by
  have w3 := w.tune ht
  obtain ⟨a1, a2, a3, a4⟩ := (w.2.2.2.2.2.2.1 t ht).1 n hn
  obtain ⟨b1, b2, b3, b4⟩ := (w.2.2.2.2.2.2.1 t' ht').1 n' hn'
  rw [a4, b4]
  constructor
  · intro q
    have q2 := tp_inj (wpA_ok w ht hn) (wpA_ok w ht' hn') q
    apply num_congr
    intro i hi
    have q3 := q2 i (by omega)
    unfold wpA at q3
    rw [if_pos (by omega), if_pos (by omega)] at q3
    have := a1 i (by omega)
    have := b1 i (by omega)
    omega
  · intro q
    have q2 := num_inj (by omega) _ (fun i hi => a1 i (by omega)) (fun i hi => b1 i (by omega)) q
    apply tp_congr
    intro i hi
    unfold wpA
    by_cases q3 : (i : Int) < α 0 4
    · rw [if_pos q3, if_pos q3, q2 i (by omega)]
    · rw [if_neg q3, if_neg q3]
theorem num_bnd {t n : Nat} (w : WF k α) (ht : (t : Int) < α 0 5) (hn : n < 1000) : 0 ≤ α 23 (1000 * t + n) ∧ α 23 (1000 * t + n) < α 0 3 ^ (α 0 4).toNat ∧ α 0 3 ^ (α 0 4).toNat ≤ 7776 := by
  have w3 := w.tune ht
  obtain ⟨a1, a2, a3, a4⟩ := (w.2.2.2.2.2.2.1 t ht).1 n hn
  rw [a4]
  obtain ⟨r1, r2⟩ := num_range (nt := α 0 3) (by omega) (α 0 4).toNat (fun i hi => a1 i (by omega))
  refine ⟨r1, r2, ?_⟩
  have h1 : α 0 3 = 2 ∨ α 0 3 = 3 ∨ α 0 3 = 4 ∨ α 0 3 = 5 ∨ α 0 3 = 6 := by omega
  have h2 : α 0 4 = 2 ∨ α 0 4 = 3 ∨ α 0 4 = 4 ∨ α 0 4 = 5 := by omega
  rcases h1 with e | e | e | e | e <;> rcases h2 with f | f | f | f <;> rw [e, f] <;> decide
theorem c_isThere {t n : Int} (ht : inR t) (hn : inR n) (k1 : Q (some (vB (decide ((0 ≤ t ∧ t < 3) ∧ 0 ≤ n ∧ n < 1000)))) τ) : M0 E d qX9_isThere [vI t, vI n] τ Q := by
  refine mX9_isThere ⟨ht, fun q => ?_, fun q => ⟨fun q2 => ?_, fun q2 => ⟨hn, fun q3 => ?_, fun q3 => ⟨fun q4 => ?_, fun q4 => ?_⟩⟩⟩⟩
  · rw [decide_eq_false (by omega)] at k1; exact k1
  · rw [decide_eq_false (by omega)] at k1; exact k1
  · rw [decide_eq_false (by omega)] at k1; exact k1
  · rw [decide_eq_false (by omega)] at k1; exact k1
  · rw [decide_eq_true (by omega)] at k1; exact k1
theorem RepC.whi {t n : Int} (H : RepC k h α τ) (t0 : 0 ≤ t) (t1 : t < α 0 5) (n0 : 0 ≤ n) (n1 : n < 1000) : τ (79 + 1 + t.toNat) n.toNat = (tp (wpA α t.toNat n.toNat) : Nat) ∧ τ (83 + 1 + t.toNat) n.toNat = α 23 (1000 * t.toNat + n.toNat) ∧ τ (87 + 1 + t.toNat) n.toNat = α 22 (1000 * t.toNat + n.toNat) := H.2.2.2.2.2.2.2.1.2 t.toNat n.toNat (by omega) (by omega)
theorem c_tuneAt {t n : Int} (w : WF k α) (H : RepC k h α τ) (t0 : 0 ≤ t) (t1 : t < α 0 5) (n0 : 0 ≤ n) (n1 : n < 1000) (k1 : Q (some (vI (tp (wpA α t.toNat n.toNat) : Nat))) τ) : M0 E (d + 1) qX9_tuneAt [vR 78, vI t, vI n] τ Q := by
  have hw := w.le
  refine mX9_tuneAt (c_isThere ⟨by omega, by omega⟩ ⟨by omega, by omega⟩ ⟨_, rfl, fun q => absurd (of_decide_eq_false q) (by omega), fun _ => ⟨by omega, by omega, by omega, by omega, ?_⟩⟩)
  rw [(H.whi t0 t1 n0 n1).1]; exact k1
theorem c_numberAt {t n : Int} (w : WF k α) (H : RepC k h α τ) (t0 : 0 ≤ t) (t1 : t < α 0 5) (n0 : 0 ≤ n) (n1 : n < 1000) (k1 : Q (some (vI (α 23 (1000 * t.toNat + n.toNat)))) τ) : M0 E (d + 1) qX9_numberAt [vR 78, vI t, vI n] τ Q := by
  have hw := w.le
  refine mX9_numberAt (c_isThere ⟨by omega, by omega⟩ ⟨by omega, by omega⟩ ⟨_, rfl, fun q => absurd (of_decide_eq_false q) (by omega), fun _ => ⟨by omega, by omega, by omega, by omega, ?_⟩⟩)
  rw [(H.whi t0 t1 n0 n1).2.1]; exact k1
theorem c_keptAt {t n : Int} (w : WF k α) (H : RepC k h α τ) (t0 : 0 ≤ t) (t1 : t < α 0 5) (n0 : 0 ≤ n) (n1 : n < 1000) (k1 : Q (some (vI (α 22 (1000 * t.toNat + n.toNat)))) τ) : M0 E (d + 1) qX9_keptAt [vR 78, vI t, vI n] τ Q := by
  have hw := w.le
  refine mX9_keptAt (c_isThere ⟨by omega, by omega⟩ ⟨by omega, by omega⟩ ⟨_, rfl, fun q => absurd (of_decide_eq_false q) (by omega), fun _ => ⟨by omega, by omega, by omega, by omega, ?_⟩⟩)
  rw [(H.whi t0 t1 n0 n1).2.2]; exact k1
theorem c_noteIn {f : Nat → Nat} {p : Int} (hf : tp_ok f) (p0 : 0 ≤ p) (p1 : p < 5) (k1 : Q (some (vI (f p.toNat : Nat))) τ) : M0 E d qX9_noteIn [vI (tp f : Nat), vI p] τ Q := by
  refine mX9_noteIn ?_
  have e : p = ((p.toNat : Nat) : Int) := by omega
  rw [e, tp_note hf (by omega)]
  exact k1
theorem c_withNote {f : Nat → Nat} {p v : Int} (hf : tp_ok f) (p0 : 0 ≤ p) (p1 : p < 5) (v0 : 0 ≤ v) (v1 : v < 8) (k1 : Q (some (vI (tp (tp_up f p.toNat v.toNat) : Nat))) τ) : M0 E d qX9_withNote [vI (tp f : Nat), vI p, vI v] τ Q := by
  refine mX9_withNote ?_
  have e : p = ((p.toNat : Nat) : Int) := by omega
  have e2 : v = ((v.toNat : Nat) : Int) := by omega
  rw [e, e2, tp_with hf (by omega) (by omega)]
  exact k1
def noteR (α : mm_Mem) (t n p : Int) : Int := if (0 ≤ t ∧ t < α 0 5) ∧ 0 ≤ n ∧ n < 1000 then (if p = -1 then α 23 (1000 * t.toNat + n.toNat) else if p = -2 then α 22 (1000 * t.toNat + n.toNat) else if 0 ≤ p ∧ p < α 0 4 then wnA α t.toNat n.toNat p.toNat else -1) else -1
theorem c_note {a0 a1 a2 : Int} (w : WF k α) (H : RepC k h α τ) (h0 : inR a0) (h1 : inR a1) (h2 : inR a2) (k1 : Q (some (vI (noteR α a0 a1 a2))) τ) : M0 E (d + 2) qX10_note [vR 2, vI a0, vI a1, vI a2] τ Q := by
  unfold noteR at k1
  have hw := w.le
  obtain ⟨l1, l2⟩ := H.live
  refine mX10_note (c_isTune w H h0 ⟨_, rfl, fun q => ?_, fun q => c_isWhistle h1 ⟨_, rfl, fun q2 => ?_, fun q2 => ?_⟩⟩)
  · have q := of_decide_eq_false q
    rw [if_neg (fun z => q z.1)] at k1; exact k1
  · have q2 := of_decide_eq_false q2
    rw [if_neg (fun z => q2 z.2)] at k1; exact k1
  · have q := of_decide_eq_true q
    have q2 := of_decide_eq_true q2
    have w3 := w.tune (t := a0.toNat) (by omega)
    rw [if_pos ⟨q, q2⟩] at k1
    refine ⟨h2, fun r => ?_, fun r => ⟨h, l1, l2, ?_⟩⟩
    · rw [if_neg (by omega), if_neg (by omega), if_neg (by omega)] at k1; exact k1
    · rw [H.hs.2.1]
      refine ⟨fun r1 => ⟨fun r2 => ⟨fun r3 => ?_, fun r3 => ?_⟩, fun r2 => ?_⟩, fun r1 => ?_⟩
      · rw [if_neg r2, if_neg r3, if_pos (by omega)] at k1
        refine c_tuneAt w H q.1 q.2 q2.1 q2.2 ⟨_, rfl, c_noteIn (wpA_ok w (by omega) (by omega)) (by omega) (by omega) ⟨_, rfl, ?_⟩⟩
        have a := ((w.2.2.2.2.2.2.1 a0.toNat (by omega)).1 a1.toNat (by omega)).1 a2.toNat (by omega)
        have e : ((wpA α a0.toNat a1.toNat a2.toNat : Nat) : Int) = wnA α a0.toNat a1.toNat a2.toNat := by
          unfold wpA
          rw [if_pos (by omega)]
          omega
        rw [e]; exact k1
      · rw [if_neg r2, if_pos r3] at k1
        exact c_keptAt w H q.1 q.2 q2.1 q2.2 ⟨_, rfl, k1⟩
      · rw [if_pos r2] at k1
        exact c_numberAt w H q.1 q.2 q2.1 q2.2 ⟨_, rfl, k1⟩
      · rw [if_neg (by omega), if_neg (by omega), if_neg (by omega)] at k1; exact k1
theorem RepM.whi {t n : Int} (H : RepM b α τ) (t0 : 0 ≤ t) (t1 : t < α 0 5) (n0 : 0 ≤ n) (n1 : n < 1000) : (∀ i : Nat, (i : Int) < α 0 4 → τ 176 (5 * (1000 * t + n) + (i : Int)).toNat = wnA α t.toNat n.toNat i) ∧ τ 177 (1000 * t + n).toNat = α 22 (1000 * t.toNat + n.toNat) ∧ τ 178 (1000 * t + n).toNat = α 23 (1000 * t.toNat + n.toNat) := by
  have g := H.2.2.2.2.2.2.2.2.1 t.toNat n.toNat (by omega) (by omega)
  have e : (1000 * t + n).toNat = 1000 * t.toNat + n.toNat := by omega
  rw [e]
  refine ⟨fun i hi => ?_, g.2.1, g.2.2⟩
  have e2 : (5 * (1000 * t + n) + (i : Int)).toNat = 5 * (1000 * t.toNat + n.toNat) + i := by omega
  rw [e2]; exact g.1 i hi
theorem m_note {a0 a1 a2 : Int} (w : WF k α) (H : RepM b α τ) (h0 : inR a0) (h1 : inR a1) (h2 : inR a2) (k1 : Q (some (vI (noteR α a0 a1 a2))) τ) : M0 E (d + 2) qX11_note [vR 140, vI a0, vI a1, vI a2] τ Q := by
  unfold noteR at k1
  have hw := w.le
  obtain ⟨b1, b2, b3⟩ := H.bk
  refine mX11_note (m_isTune w H h0 ⟨_, rfl, fun q => ?_, fun q => m_isWhistle h1 ⟨_, rfl, fun q2 => ?_, fun q2 => ?_⟩⟩)
  · have q := of_decide_eq_false q
    rw [if_neg (fun z => q z.1)] at k1; exact k1
  · have q := of_decide_eq_true q
    have q2 := of_decide_eq_true q2
    have w3 := w.tune (t := a0.toNat) (by omega)
    obtain ⟨g1, g2, g3⟩ := H.whi q.1 q.2 q2.1 q2.2
    rw [if_pos ⟨q, q2⟩] at k1
    refine ⟨h2, fun r => ⟨fun r2 => ⟨by omega, by omega, ?_⟩, fun r2 => ⟨by omega, by omega, ?_⟩⟩, fun r => ⟨by omega, by omega, ?_⟩⟩
    · rw [b3, H.hs.2.1]
      refine m_is h2 ⟨by decide, by decide⟩ ⟨by omega, by omega⟩ ⟨_, rfl, fun r3 => ?_, fun r3 => ?_⟩
      · have r3 := of_decide_eq_false r3
        rw [if_neg r, if_neg r2, if_neg (by omega)] at k1; exact k1
      · have r3 := of_decide_eq_true r3
        rw [if_neg r, if_neg r2, if_pos (by omega)] at k1
        refine ⟨by omega, by omega, ?_⟩
        have g := g1 a2.toNat (by omega)
        rw [show ((a2.toNat : Nat) : Int) = a2 by omega] at g
        rw [g]; exact k1
    · rw [g2]; rw [if_neg r, if_pos r2] at k1; exact k1
    · rw [g3]; rw [if_pos r] at k1; exact k1
  · have q2 := of_decide_eq_false q2
    rw [if_neg (fun z => q2 z.2)] at k1; exact k1
/-- the first number from n on, within so many, at which something holds; else -1 -/
def fsA (P : Nat → Bool) : Nat → Nat → Int
  | 0, _ => -1
  | c + 1, n => if P n = true then (n : Int) else fsA P c (n + 1)
def findR (α : mm_Mem) (t n v : Int) : Int := if (0 ≤ t ∧ t < α 0 5) ∧ 0 ≤ n ∧ n < 1000 then fsA (fun i => decide (α 23 (1000 * t.toNat + i) = v)) (1000 - n.toNat) n.toNat else -1
theorem num_R {t n : Nat} (w : WF k α) (ht : (t : Int) < α 0 5) (hn : n < 1000) : inR (α 23 (1000 * t + n)) := by
  have := num_bnd w ht hn
  exact ⟨by omega, by omega⟩
theorem c_findL {t v : Int} (w : WF k α) (H : RepC k h α τ) (t0 : 0 ≤ t) (t1 : t < α 0 5) (hv : inR v) : ∀ (c n : Nat), n + c = 1000 → Q (some (vI (fsA (fun i => decide (α 23 (1000 * t.toNat + i) = v)) c n))) τ → V0 E (d + 2) qX10_find 20 [some (vR 2), some (vI t), none, some (vI v), some (vI (n : Int))] [] τ Q
  | 0, n, hn, k1 => bX10_find_20 ⟨⟨by omega, by omega⟩, fun _ => k1, fun q => by omega⟩
  | c + 1, n, hn, k1 => by
    refine bX10_find_20 ⟨⟨by omega, by omega⟩, fun q => by omega, fun _ => c_numberAt w H t0 t1 (by omega) (by omega) ⟨_, rfl, num_R w (by omega) (by omega), hv, fun q => ?_, fun q => ?_⟩⟩
    · rw [Int.toNat_natCast] at q
      have e : ((n : Int) + 1) = ((n + 1 : Nat) : Int) := by omega
      rw [e]
      refine c_findL w H t0 t1 hv c (n + 1) (by omega) ?_
      rw [fsA, if_neg (by simpa using q)] at k1; exact k1
    · rw [Int.toNat_natCast] at q
      rw [fsA, if_pos (by simpa using q)] at k1; exact k1
theorem c_find {a0 a1 a2 : Int} (w : WF k α) (H : RepC k h α τ) (h0 : inR a0) (h1 : inR a1) (h2 : inR a2) (k1 : Q (some (vI (findR α a0 a1 a2))) τ) : M0 E (d + 2) qX10_find [vR 2, vI a0, vI a1, vI a2] τ Q := by
  unfold findR at k1
  refine mX10_find (c_isTune w H h0 ⟨_, rfl, fun q => ?_, fun q => c_isWhistle h1 ⟨_, rfl, fun q2 => ?_, fun q2 => ?_⟩⟩)
  · have q := of_decide_eq_false q
    rw [if_neg (fun z => q z.1)] at k1; exact k1
  · have q := of_decide_eq_true q
    have q2 := of_decide_eq_true q2
    rw [if_pos ⟨q, q2⟩] at k1
    have l := c_findL (d := d) (E := E) w H q.1 q.2 h2 (1000 - a1.toNat) a1.toNat (by omega) k1
    rw [show ((a1.toNat : Nat) : Int) = a1 by omega] at l
    exact l
  · have q2 := of_decide_eq_false q2
    rw [if_neg (fun z => q2 z.2)] at k1; exact k1
theorem m_findL {t v : Int} (w : WF k α) (H : RepM b α τ) (t0 : 0 ≤ t) (t1 : t < α 0 5) (hv : inR v) : ∀ (c n : Nat), n + c = 1000 → Q (some (vI (fsA (fun i => decide (α 23 (1000 * t.toNat + i) = v)) c n))) τ → V0 E (d + 1) qX11_find 20 [some (vR 140), some (vI t), none, some (vI v), some (vI (n : Int))] [] τ Q
  | 0, n, hn, k1 => bX11_find_20 ⟨⟨by omega, by omega⟩, fun _ => k1, fun q => by omega⟩
  | c + 1, n, hn, k1 => by
    have hw := w.le
    obtain ⟨-, -, g3⟩ := H.whi (n := (n : Int)) t0 t1 (by omega) (by omega)
    rw [Int.toNat_natCast] at g3
    refine bX11_find_20 ⟨⟨by omega, by omega⟩, fun q => by omega, fun _ => ⟨by omega, by omega, hv, fun q => ?_, fun q => ?_⟩⟩
    · rw [g3] at q
      have e : ((n : Int) + 1) = ((n + 1 : Nat) : Int) := by omega
      rw [e]
      refine m_findL w H t0 t1 hv c (n + 1) (by omega) ?_
      rw [fsA, if_neg (by simpa using q)] at k1; exact k1
    · rw [g3] at q
      rw [fsA, if_pos (by simpa using q)] at k1; exact k1
theorem m_find {a0 a1 a2 : Int} (w : WF k α) (H : RepM b α τ) (h0 : inR a0) (h1 : inR a1) (h2 : inR a2) (k1 : Q (some (vI (findR α a0 a1 a2))) τ) : M0 E (d + 2) qX11_find [vR 140, vI a0, vI a1, vI a2] τ Q := by
  unfold findR at k1
  refine mX11_find (m_isTune w H h0 ⟨_, rfl, fun q => ?_, fun q => m_isWhistle h1 ⟨_, rfl, fun q2 => ?_, fun q2 => ?_⟩⟩)
  · have q := of_decide_eq_false q
    rw [if_neg (fun z => q z.1)] at k1; exact k1
  · have q := of_decide_eq_true q
    have q2 := of_decide_eq_true q2
    rw [if_pos ⟨q, q2⟩] at k1
    have l := m_findL (d := d + 1) (E := E) w H q.1 q.2 h2 (1000 - a1.toNat) a1.toNat (by omega) k1
    rw [show ((a1.toNat : Nat) : Int) = a1 by omega] at l
    exact l
  · have q2 := of_decide_eq_false q2
    rw [if_neg (fun z => q2 z.2)] at k1; exact k1
/-- like fsA, counted from a start -/
def fsB (P : Nat → Bool) (s : Nat) : Nat → Nat → Int
  | 0, _ => -1
  | c + 1, n => if P n = true then (n : Int) - s + 1 else fsB P s c (n + 1)
def tellsR (α : mm_Mem) (t u n : Int) : Int := if (0 ≤ t ∧ t < α 0 5) ∧ (0 ≤ u ∧ u < α 0 5) ∧ t ≠ u ∧ 0 ≤ n ∧ n < 1000 then fsB (fun i => decide (α 23 (1000 * t.toNat + i) ≠ α 23 (1000 * u.toNat + i))) n.toNat (1000 - n.toNat) n.toNat else -1
theorem tp_R {f : Nat → Nat} (hf : tp_ok f) : inR (tp f : Nat) := by
  have := tp_lt hf
  exact ⟨by omega, by omega⟩
theorem c_tellsL {t u : Int} {s : Nat} (w : WF k α) (H : RepC k h α τ) (t0 : 0 ≤ t) (t1 : t < α 0 5) (u0 : 0 ≤ u) (u1 : u < α 0 5) (hs : s < 1000) : ∀ (c n : Nat), n + c = 1000 → Q (some (vI (fsB (fun i => decide (α 23 (1000 * t.toNat + i) ≠ α 23 (1000 * u.toNat + i))) s c n))) τ → V0 E (d + 2) qX10_tells 33 [some (vR 2), some (vI t), some (vI u), some (vI (s : Int)), some (vI (n : Int))] [] τ Q
  | 0, n, hn, k1 => bX10_tells_33 ⟨⟨by omega, by omega⟩, fun _ => k1, fun q => by omega⟩
  | c + 1, n, hn, k1 => by
    have a1 := wpA_ok w (t := t.toNat) (n := (n : Int).toNat) (by omega) (by omega)
    have a2 := wpA_ok w (t := u.toNat) (n := (n : Int).toNat) (by omega) (by omega)
    have iff := whi_eq w (t := t.toNat) (n := n) (t' := u.toNat) (n' := n) (by omega) (by omega) (by omega) (by omega)
    refine bX10_tells_33 ⟨⟨by omega, by omega⟩, fun q => by omega, fun _ => c_tuneAt w H t0 t1 (by omega) (by omega) ⟨_, rfl, c_tuneAt w H u0 u1 (by omega) (by omega) ⟨_, rfl, tp_R a1, tp_R a2, fun q => ?_, fun q => ?_⟩⟩⟩
    · rw [Int.toNat_natCast] at q
      have q2 := iff.mp (by omega)
      have e : ((n : Int) + 1) = ((n + 1 : Nat) : Int) := by omega
      rw [e]
      refine c_tellsL w H t0 t1 u0 u1 hs c (n + 1) (by omega) ?_
      rw [fsB, if_neg (by simpa using q2)] at k1; exact k1
    · rw [Int.toNat_natCast] at q
      have q2 : ¬ α 23 (1000 * t.toNat + n) = α 23 (1000 * u.toNat + n) := fun z => q (by have := iff.mpr z; omega)
      rw [fsB, if_pos (by simpa using q2)] at k1; exact k1
theorem c_tells {a0 a1 a2 : Int} (w : WF k α) (H : RepC k h α τ) (h0 : inR a0) (h1 : inR a1) (h2 : inR a2) (k1 : Q (some (vI (tellsR α a0 a1 a2))) τ) : M0 E (d + 2) qX10_tells [vR 2, vI a0, vI a1, vI a2] τ Q := by
  unfold tellsR at k1
  refine mX10_tells (c_isTune w H h0 ⟨_, rfl, fun q => ?_, fun q => c_isTune w H h1 ⟨_, rfl, fun q1 => ?_, fun q1 => ⟨h0, h1, fun q2 => ?_, fun q2 => c_isWhistle h2 ⟨_, rfl, fun q3 => ?_, fun q3 => ?_⟩⟩⟩⟩)
  · have q := of_decide_eq_false q
    rw [if_neg (fun z => q z.1)] at k1; exact k1
  · have q1 := of_decide_eq_false q1
    rw [if_neg (fun z => q1 z.2.1)] at k1; exact k1
  · rw [if_neg (fun z => z.2.2.1 q2)] at k1; exact k1
  · have q := of_decide_eq_true q
    have q1 := of_decide_eq_true q1
    have q3 := of_decide_eq_true q3
    rw [if_pos ⟨q, q1, q2, q3⟩] at k1
    have l := c_tellsL (d := d) (E := E) w H q.1 q.2 q1.1 q1.2 (s := a2.toNat) (by omega) (1000 - a2.toNat) a2.toNat (by omega) k1
    rw [show ((a2.toNat : Nat) : Int) = a2 by omega] at l
    exact l
  · have q3 := of_decide_eq_false q3
    rw [if_neg (fun z => q3 z.2.2.2)] at k1; exact k1
theorem m_tellsL {t u : Int} {s : Nat} (w : WF k α) (H : RepM b α τ) (t0 : 0 ≤ t) (t1 : t < α 0 5) (u0 : 0 ≤ u) (u1 : u < α 0 5) (hs : s < 1000) : ∀ (c n : Nat), n + c = 1000 → Q (some (vI (fsB (fun i => decide (α 23 (1000 * t.toNat + i) ≠ α 23 (1000 * u.toNat + i))) s c n))) τ → V0 E (d + 1) qX11_tells 33 [some (vR 140), some (vI t), some (vI u), some (vI (s : Int)), some (vI (n : Int))] [] τ Q
  | 0, n, hn, k1 => bX11_tells_33 ⟨⟨by omega, by omega⟩, fun _ => k1, fun q => by omega⟩
  | c + 1, n, hn, k1 => by
    have hw := w.le
    obtain ⟨-, -, g3⟩ := H.whi (n := (n : Int)) t0 t1 (by omega) (by omega)
    obtain ⟨-, -, f3⟩ := H.whi (n := (n : Int)) u0 u1 (by omega) (by omega)
    rw [Int.toNat_natCast] at g3 f3
    refine bX11_tells_33 ⟨⟨by omega, by omega⟩, fun q => by omega, fun _ => ⟨by omega, by omega, by omega, by omega, fun q => ?_, fun q => ?_⟩⟩
    · rw [g3, f3] at q
      have e : ((n : Int) + 1) = ((n + 1 : Nat) : Int) := by omega
      rw [e]
      refine m_tellsL w H t0 t1 u0 u1 hs c (n + 1) (by omega) ?_
      rw [fsB, if_neg (by simpa using q)] at k1; exact k1
    · rw [g3, f3] at q
      rw [fsB, if_pos (by simpa using q)] at k1; exact k1
theorem m_tells {a0 a1 a2 : Int} (w : WF k α) (H : RepM b α τ) (h0 : inR a0) (h1 : inR a1) (h2 : inR a2) (k1 : Q (some (vI (tellsR α a0 a1 a2))) τ) : M0 E (d + 2) qX11_tells [vR 140, vI a0, vI a1, vI a2] τ Q := by
  unfold tellsR at k1
  refine mX11_tells (m_isTune w H h0 ⟨_, rfl, fun q => ?_, fun q => m_isTune w H h1 ⟨_, rfl, fun q1 => ?_, fun q1 => ⟨h0, h1, fun q2 => ?_, fun q2 => m_isWhistle h2 ⟨_, rfl, fun q3 => ?_, fun q3 => ?_⟩⟩⟩⟩)
  · have q := of_decide_eq_false q
    rw [if_neg (fun z => q z.1)] at k1; exact k1
  · have q1 := of_decide_eq_false q1
    rw [if_neg (fun z => q1 z.2.1)] at k1; exact k1
  · rw [if_neg (fun z => z.2.2.1 q2)] at k1; exact k1
  · have q := of_decide_eq_true q
    have q1 := of_decide_eq_true q1
    have q3 := of_decide_eq_true q3
    rw [if_pos ⟨q, q1, q2, q3⟩] at k1
    have l := m_tellsL (d := d + 1) (E := E) w H q.1 q.2 q1.1 q1.2 (s := a2.toNat) (by omega) (1000 - a2.toNat) a2.toNat (by omega) k1
    rw [show ((a2.toNat : Nat) : Int) = a2 by omega] at l
    exact l
  · have q3 := of_decide_eq_false q3
    rw [if_neg (fun z => q3 z.2.2.2)] at k1; exact k1
end Whist
