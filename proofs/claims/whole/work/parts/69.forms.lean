/-! forms: knows, sure, right -/
def smN (g : Nat → Nat) : Nat → Nat
  | 0 => 0
  | i + 1 => smN g i + g i
def fA (nt L f : Nat) : Nat := f / (nt - 1) / L
def fB (nt L f : Nat) : Nat := f / (nt - 1) % L
def fC (nt f : Nat) : Nat := f % (nt - 1) + 1
def plF (nt L f : Nat) (g : Nat → Nat) : Nat := (fA nt L f * smN g L + fB nt L f) % L
def nxF (nt L f : Nat) (g : Nat → Nat) : Nat → Nat := tp_up g (plF nt L f g) ((g (plF nt L f g) + fC nt f) % nt)
def nA (α : mm_Mem) : Nat := (α 0 3).toNat
def lA (α : mm_Mem) : Nat := (α 0 4).toNat
def fmN (α : mm_Mem) : Nat := lA α * lA α * (nA α - 1)
def stB (α : mm_Mem) (t f m : Nat) : Bool := decide (tp (nxF (nA α) (lA α) f (wpA α t m)) = tp (wpA α t (m + 1)))
def fitB (α : mm_Mem) (t n f : Nat) : Nat → Bool
  | 0 => true
  | j + 1 => fitB α t n f j && stB α t f (n + j)
theorem smN_le {g : Nat → Nat} : ∀ i, (∀ j, j < i → g j < 8) → smN g i ≤ 7 * i
  | 0, _ => Nat.le_refl _
  | i + 1, h => by
    have := smN_le i (fun j hj => h j (by omega))
    have := h i (by omega)
    rw [smN]; omega
theorem tp_num {k : Nat} {α : mm_Mem} {g g' : Nat → Nat} (w : WF k α) (hL : 2 ≤ α 0 3 ∧ α 0 3 ≤ 6 ∧ 2 ≤ α 0 4 ∧ α 0 4 ≤ 5) (hg : fvA α g) (hg' : fvA α g') : tp g = tp g' ↔ numA (α 0 3) (fun i => (g i : Int)) (α 0 4).toNat = numA (α 0 3) (fun i => (g' i : Int)) (α 0 4).toNat := by
  have ok := fvA_ok w hg
  have ok' := fvA_ok w hg'
  constructor
  · intro q
    have q2 := tp_inj ok ok' q
    apply num_congr
    intro i hi
    rw [q2 i (by omega)]
  · intro q
    have q2 := num_inj (by omega) _ (fun i hi => ⟨by omega, hg.1 i (by omega)⟩) (fun i hi => ⟨by omega, hg'.1 i (by omega)⟩) q
    apply tp_congr
    intro i hi
    by_cases z : (i : Int) < α 0 4
    · have := q2 i (by omega); omega
    · rw [hg.2 i z, hg'.2 i z]
section Forms
variable {E : mm_Env} {d k h b : Nat} {α τ : mm_Mem} {Q : mm_Q0}
theorem num_wp {t n : Nat} (w : WF k α) (t1 : (t : Int) < α 0 5) (n1 : n < 1000) : numA (α 0 3) (fun i => (wpA α t n i : Int)) (α 0 4).toNat = α 23 (1000 * t + n) := by
  obtain ⟨a1, a2, a3, a4⟩ := (w.2.2.2.2.2.2.1 t t1).1 n n1
  rw [a4]
  apply num_congr
  intro i hi
  have := a1 i (by omega)
  unfold wpA; rw [if_pos (by omega)]; omega
theorem fm_r {f : Nat} (hL : 2 ≤ α 0 3 ∧ α 0 3 ≤ 6 ∧ 2 ≤ α 0 4 ∧ α 0 4 ≤ 5) (hf : f < fmN α) : fA (nA α) (lA α) f < lA α ∧ fB (nA α) (lA α) f < lA α ∧ 1 ≤ fC (nA α) f ∧ fC (nA α) f ≤ 5 ∧ fmN α ≤ 125 := by
  unfold fmN at hf ⊢
  have hl : 2 ≤ lA α ∧ lA α ≤ 5 := by unfold lA; omega
  have hn : 2 ≤ nA α ∧ nA α ≤ 6 := by unfold nA; omega
  refine ⟨?_, Nat.mod_lt _ (by omega), by unfold fC; omega, ?_, ?_⟩
  · unfold fA
    rw [Nat.div_div_eq_div_mul]
    rw [Nat.div_lt_iff_lt_mul (Nat.mul_pos (by omega) (by omega))]
    rw [Nat.mul_comm (nA α - 1), ← Nat.mul_assoc]; exact hf
  · unfold fC
    have := Nat.mod_lt f (show 0 < nA α - 1 by omega)
    omega
  · have h1 : lA α * lA α ≤ 5 * 5 := Nat.mul_le_mul hl.2 hl.2
    have h2 : lA α * lA α * (nA α - 1) ≤ 5 * 5 * 5 := Nat.mul_le_mul h1 (by omega)
    exact h2
theorem nx_fv {f : Nat} {g : Nat → Nat} (hL : 2 ≤ α 0 3 ∧ α 0 3 ≤ 6 ∧ 2 ≤ α 0 4 ∧ α 0 4 ≤ 5) (hg : fvA α g) : fvA α (nxF (nA α) (lA α) f g) := by
  have p : plF (nA α) (lA α) f g < lA α := Nat.mod_lt _ (by unfold lA; omega)
  have q := Nat.mod_lt (g (plF (nA α) (lA α) f g) + fC (nA α) f) (show 0 < nA α by unfold nA; omega)
  have en : ((nA α : Nat) : Int) = α 0 3 := by unfold nA; omega
  have el : ((lA α : Nat) : Int) = α 0 4 := by unfold lA; omega
  exact fv_up hg (by omega) (by omega)
/-- what the class's forms know -/
def fmI (α : mm_Mem) (P : Nat → Bool) (τ : mm_Mem) : Prop := (τ 136 1 = (lA α : Int) ∧ τ 136 2 = (nA α : Int) ∧ τ 136 3 = (fmN α : Int)) ∧ ∀ f, f < fmN α → τ 137 f = bI (P f)
theorem c_sumOfL {g : Nat → Nat} {L : Nat} (hg : tp_ok g) (hL : L ≤ 5) : ∀ (c i : Nat), i + c = L → Q (some (vI (smN g L : Nat))) τ → V0 E (d + 1) qX9_sumOf 4 [some (vI (tp g : Nat)), some (vI (L : Int)), some (vI (smN g i : Nat)), some (vI (i : Int))] [] τ Q
  | 0, i, hi, k1 => by
    refine bX9_sumOf_4 ⟨⟨by omega, by omega⟩, ⟨by omega, by omega⟩, fun _ => ?_, fun q => by omega⟩
    rw [show i = L by omega]; exact k1
  | c + 1, i, hi, k1 => by
    have en : ((i : Int) + 1) = ((i + 1 : Nat) : Int) := by omega
    refine bX9_sumOf_4 ⟨⟨by omega, by omega⟩, ⟨by omega, by omega⟩, fun q => by omega, fun _ => c_noteIn hg (by omega) (by omega) ⟨_, rfl, ?_⟩⟩
    rw [Int.toNat_natCast, en, show ((smN g i : Nat) : Int) + ((g i : Nat) : Int) = ((smN g (i + 1) : Nat) : Int) by rw [smN]; omega]
    exact c_sumOfL hg hL c (i + 1) (by omega) k1
theorem c_sumOf {g : Nat → Nat} {L : Nat} (hg : tp_ok g) (hL : L ≤ 5) (k1 : Q (some (vI (smN g L : Nat))) τ) : M0 E (d + 1) qX9_sumOf [vI (tp g : Nat), vI (L : Int)] τ Q :=
  mX9_sumOf (c_sumOfL hg hL L 0 (by omega) k1)
theorem nat_tdiv (a c : Nat) : Int.tdiv (a : Int) (c : Int) = ((a / c : Nat) : Int) := by rw [Int.tdiv_eq_ediv_of_nonneg (Int.natCast_nonneg _)]; exact (Int.natCast_ediv a c).symm
theorem nat_tmod (a c : Nat) : Int.tmod (a : Int) (c : Int) = ((a % c : Nat) : Int) := by rw [tm_pos (Int.natCast_nonneg _)]; exact (Int.natCast_emod a c).symm
theorem c_nextBy {f : Nat} {g : Nat → Nat} {P : Nat → Bool} (w : WF k α) (hL : 2 ≤ α 0 3 ∧ α 0 3 ≤ 6 ∧ 2 ≤ α 0 4 ∧ α 0 4 ≤ 5) (I : fmI α P τ) (hf : f < fmN α) (hg : fvA α g) (k1 : Q (some (vI (tp (nxF (nA α) (lA α) f g) : Nat))) τ) : M0 E (d + 2) qX1_nextBy [vR 136, vI (f : Int), vI (tp g : Nat)] τ Q := by
  obtain ⟨⟨i1, i2, i3⟩, i4⟩ := I
  obtain ⟨r1, r2, r3, r4, r5⟩ := fm_r hL hf
  have ok := fvA_ok w hg
  have hl : 2 ≤ lA α ∧ lA α ≤ 5 := by unfold lA; omega
  have hn : 2 ≤ nA α ∧ nA α ≤ 6 := by unfold nA; omega
  have en : (nA α : Int) - 1 = ((nA α - 1 : Nat) : Int) := by omega
  have d1 : f / (nA α - 1) ≤ f := Nat.div_le_self _ _
  have sm := smN_le (g := g) (lA α) (fun j hj => ok j (by omega))
  have mb : fA (nA α) (lA α) f * smN g (lA α) ≤ 5 * 35 := Nat.mul_le_mul (by omega) (by omega)
  refine mX1_nextBy ?_
  rw [i1, i2, en, nat_tdiv, nat_tdiv, nat_tmod, nat_tmod]
  refine ⟨⟨by omega, by omega⟩, ⟨by omega, by omega⟩, by omega, ?_, by omega, by omega, by omega, by omega, c_sumOf ok (by omega) ⟨_, rfl, ?_⟩⟩
  · generalize f / (nA α - 1) = z at d1; exact ⟨by omega, by omega⟩
  have e1 : ((f / (nA α - 1) / lA α : Nat) : Int) * ((smN g (lA α) : Nat) : Int) + ((f / (nA α - 1) % lA α : Nat) : Int) = ((fA (nA α) (lA α) f * smN g (lA α) + fB (nA α) (lA α) f : Nat) : Int) := by
    unfold fA fB
    rw [Int.natCast_add, Int.natCast_mul]
  rw [e1, i1, nat_tmod]
  have pl : plF (nA α) (lA α) f g < lA α := Nat.mod_lt _ (by omega)
  have ep : (fA (nA α) (lA α) f * smN g (lA α) + fB (nA α) (lA α) f) % lA α = plF (nA α) (lA α) f g := rfl
  rw [ep]
  have gb := ok (plF (nA α) (lA α) f g) (by omega)
  refine ⟨⟨by omega, by omega⟩, by omega, c_noteIn ok (by omega) (by omega) ⟨_, rfl, ?_⟩⟩
  rw [Int.toNat_natCast, i2]
  have e2 : ((g (plF (nA α) (lA α) f g) : Nat) : Int) + (((f % (nA α - 1) : Nat) : Int) + 1) = ((g (plF (nA α) (lA α) f g) + fC (nA α) f : Nat) : Int) := by unfold fC; omega
  rw [e2, nat_tmod]
  have ml := Nat.mod_lt (g (plF (nA α) (lA α) f g) + fC (nA α) f) (show 0 < nA α by omega)
  generalize hz : (g (plF (nA α) (lA α) f g) + fC (nA α) f) % nA α = z at ml
  refine ⟨⟨by omega, by omega⟩, by omega, c_withNote ok (by omega) (by omega) (by omega) (by omega) ⟨_, rfl, ?_⟩⟩
  rw [Int.toNat_natCast, Int.toNat_natCast, ← hz]
  exact k1
theorem c_beginL : ∀ (c i : Nat) (τ : mm_Mem), i + c = fmN α → fmN α ≤ 125 → (τ 136 1 = (lA α : Int) ∧ τ 136 2 = (nA α : Int) ∧ τ 136 3 = (fmN α : Int)) → (∀ f, f < i → τ 137 f = 1) → (∀ τ', fmI α (fun _ => true) τ' → (∀ o, o ≠ 137 → τ' o = τ o) → Q none τ') → V0 E (d + 1) qX1_begin 49 [some (vR 136), none, none, some (vI (i : Int))] [] τ Q
  | 0, i, τ, hi, hb, I, lo, k1 => by
    have := I.2.2
    exact bX1_begin_49 ⟨⟨by omega, by omega⟩, fun _ => k1 τ ⟨I, fun f hf => lo f (by omega)⟩ (fun _ _ => rfl), fun q => by omega⟩
  | c + 1, i, τ, hi, hb, I, lo, k1 => by
    have := I.2.2
    have en : ((i : Int) + 1) = ((i + 1 : Nat) : Int) := by omega
    refine bX1_begin_49 ⟨⟨by omega, by omega⟩, fun q => by omega, fun _ => ⟨by omega, by omega, ?_⟩⟩
    rw [en, Int.toNat_natCast]
    refine c_beginL c (i + 1) _ (by omega) hb (by rw [wr_obj (by omega)]; exact I) (fun f hf => ?_) (fun τ' I' F' => k1 τ' I' (fun o ho => by rw [F' o ho, wr_obj ho]))
    by_cases e : f = i
    · subst e; rw [wr_same]
    · rw [wr_row e]; exact lo f (by omega)
theorem c_begin (hL : 2 ≤ α 0 3 ∧ α 0 3 ≤ 6 ∧ 2 ≤ α 0 4 ∧ α 0 4 ≤ 5) (k1 : ∀ τ', fmI α (fun _ => true) τ' → (∀ o, o ≠ 136 → o ≠ 137 → τ' o = τ o) → Q none τ') : M0 E (d + 1) qX1_begin [vR 136, vI (α 0 4), vI (α 0 3)] τ Q := by
  have hl : 2 ≤ lA α ∧ lA α ≤ 5 := by unfold lA; omega
  have hn : 2 ≤ nA α ∧ nA α ≤ 6 := by unfold nA; omega
  have el : (lA α : Int) = α 0 4 := by unfold lA; omega
  have en : (nA α : Int) = α 0 3 := by unfold nA; omega
  have r5 : fmN α ≤ 125 := by
    unfold fmN
    have h1 : lA α * lA α ≤ 5 * 5 := Nat.mul_le_mul hl.2 hl.2
    have h2 : lA α * lA α * (nA α - 1) ≤ 5 * 5 * 5 := Nat.mul_le_mul h1 (by omega)
    exact h2
  refine mX1_begin (c_min ⟨by omega, by omega⟩ ⟨by decide, by decide⟩ ⟨_, rfl, c_max ⟨by decide, by decide⟩ ⟨by omega, by omega⟩ ⟨_, rfl, ⟨by omega, by omega⟩, c_min ⟨by omega, by omega⟩ ⟨by decide, by decide⟩ ⟨_, rfl, c_max ⟨by decide, by decide⟩ ⟨by omega, by omega⟩ ⟨_, rfl, ⟨by omega, by omega⟩, ?_⟩⟩⟩⟩)
  rw [wr_same, show max 2 (min (α 0 4) 5) = (lA α : Int) by omega, show max 2 (min (α 0 3) 6) = (nA α : Int) by omega]
  have es : (lA α : Int) * (lA α : Int) * ((nA α : Int) - 1) = (fmN α : Int) := by
    unfold fmN
    rw [Int.natCast_mul, Int.natCast_mul, show (nA α : Int) - 1 = ((nA α - 1 : Nat) : Int) by omega]
  rw [es]
  refine ⟨⟨by omega, by omega⟩, c_beginL (fmN α) 0 _ (by omega) r5 ⟨by rw [wr_row (by omega), wr_row (by omega), wr_same], by rw [wr_row (by omega), wr_same], by rw [wr_same]⟩ (fun f hf => absurd hf (Nat.not_lt_zero _)) (fun τ' I' F' => k1 τ' I' (fun o o1 o2 => by rw [F' o o2, wr_obj o1, wr_obj o1, wr_obj o1]))⟩
theorem c_narrowL {g g' : Nat → Nat} {P : Nat → Bool} (w : WF k α) (hL : 2 ≤ α 0 3 ∧ α 0 3 ≤ 6 ∧ 2 ≤ α 0 4 ∧ α 0 4 ≤ 5) (hg : fvA α g) (hg' : fvA α g') : ∀ (c i : Nat) (τ : mm_Mem), i + c = fmN α → (τ 136 1 = (lA α : Int) ∧ τ 136 2 = (nA α : Int) ∧ τ 136 3 = (fmN α : Int)) → (∀ f, f < fmN α → τ 137 f = bI (if f < i then (P f && decide (tp (nxF (nA α) (lA α) f g) = tp g')) else P f)) → (∀ τ', fmI α (fun f => P f && decide (tp (nxF (nA α) (lA α) f g) = tp g')) τ' → (∀ o, o ≠ 137 → τ' o = τ o) → Q none τ') → V0 E (d + 3) qX1_narrow 2 [some (vR 136), some (vI (tp g : Nat)), some (vI (tp g' : Nat)), some (vI (i : Int))] [] τ Q
  | 0, i, τ, hi, I, lo, k1 => by
    have := I.2.2
    refine bX1_narrow_2 ⟨⟨by omega, by unfold fmN at hi; have hl : 2 ≤ lA α ∧ lA α ≤ 5 := by unfold lA; omega
                                       have hn : 2 ≤ nA α ∧ nA α ≤ 6 := by unfold nA; omega
                                       have h1 : lA α * lA α ≤ 5 * 5 := Nat.mul_le_mul hl.2 hl.2
                                       have h2 : lA α * lA α * (nA α - 1) ≤ 5 * 5 * 5 := Nat.mul_le_mul h1 (by omega)
                                       omega⟩, fun _ => k1 τ ⟨I, fun f hf => by have := lo f hf; rw [if_pos (by omega)] at this; exact this⟩ (fun _ _ => rfl), fun q => by omega⟩
  | c + 1, i, τ, hi, I, lo, k1 => by
    have h3 := I.2.2
    obtain ⟨r1, r2, r3, r4, r5⟩ := fm_r (f := i) hL (by omega)
    have en : ((i : Int) + 1) = ((i + 1 : Nat) : Int) := by omega
    have li := lo i (by omega)
    rw [if_neg (by omega)] at li
    have okn := fvA_ok w (nx_fv (f := i) hL hg)
    have ok' := fvA_ok w hg'
    have nx : ∀ v : Int, v = bI (P i && decide (tp (nxF (nA α) (lA α) i g) = tp g')) → V0 E (d + 3) qX1_narrow 2 [some (vR 136), some (vI (tp g : Nat)), some (vI (tp g' : Nat)), some (vI ((i : Int) + 1))] [] (wr τ 137 i v) Q := by
      intro v hv
      rw [en]
      refine c_narrowL w hL hg hg' c (i + 1) _ (by omega) (by rw [wr_obj (by omega)]; exact I) (fun f hf => ?_) (fun τ' I' F' => k1 τ' I' (fun o ho => by rw [F' o ho, wr_obj ho]))
      by_cases e : f = i
      · subst e; rw [wr_same, if_pos (by omega), hv]
      · rw [wr_row e, lo f hf]
        by_cases z : f < i
        · rw [if_pos z, if_pos (by omega)]
        · rw [if_neg z, if_neg (by omega)]
    refine bX1_narrow_2 ⟨⟨by omega, by omega⟩, fun q => by omega, fun _ => ⟨by omega, by omega, ?_⟩⟩
    rw [Int.toNat_natCast, li]
    refine ⟨fun q => ⟨by omega, by omega, nx 0 ?_⟩, fun q => ?_⟩
    · have : P i = false := by cases h : P i; rfl; rw [h] at q; exact absurd q (by decide)
      rw [this]; rfl
    · have pi : P i = true := by cases h : P i; rw [h] at q; exact absurd rfl q; rfl
      refine c_nextBy (P := fun f => if f < i then (P f && decide (tp (nxF (nA α) (lA α) f g) = tp g')) else P f) w hL ⟨I, lo⟩ (by omega) hg ⟨_, rfl, tp_R okn, tp_R ok', fun z => ⟨by omega, by omega, nx 0 ?_⟩, fun z => ⟨by omega, by omega, nx 1 ?_⟩⟩
      · rw [pi, decide_eq_false (by omega)]; rfl
      · rw [pi, decide_eq_true (by omega)]; rfl
theorem c_narrow {g g' : Nat → Nat} {P : Nat → Bool} (w : WF k α) (hL : 2 ≤ α 0 3 ∧ α 0 3 ≤ 6 ∧ 2 ≤ α 0 4 ∧ α 0 4 ≤ 5) (hg : fvA α g) (hg' : fvA α g') (I : fmI α P τ) (k1 : ∀ τ', fmI α (fun f => P f && decide (tp (nxF (nA α) (lA α) f g) = tp g')) τ' → (∀ o, o ≠ 137 → τ' o = τ o) → Q none τ') : M0 E (d + 3) qX1_narrow [vR 136, vI (tp g : Nat), vI (tp g' : Nat)] τ Q :=
  mX1_narrow (c_narrowL w hL hg hg' (fmN α) 0 τ (by omega) I.1 (fun f hf => by rw [if_neg (Nat.not_lt_zero _)]; exact I.2 f hf) k1)
theorem RepC.fr2 {τ' : mm_Mem} (w : WF k α) (H : RepC k h α τ) (F : ∀ o, o ≠ 136 → o ≠ 137 → τ' o = τ o) : RepC k h α τ' := by
  have hw := w.le
  refine H.frame hw.2.1 hw.2.2.1 hw.1 (fun x j hr => ?_) (Nat.le_refl _) (fun o o1 o2 => ?_)
  · rw [F x (by intro e; subst e; exact absurd hr (by simp [relC])) (by intro e; subst e; exact absurd hr (by simp [relC]))]
  · have := kdD_133 o o2
    rw [F o (by omega) (by omega)]; exact H.y o o1 o2
/-- which forms fit k heard whistles -/
def hfC (α : mm_Mem) (t n x : Int) : Prop := (0 ≤ t ∧ t < α 0 5) ∧ (0 ≤ n ∧ n < 1000) ∧ (1 ≤ x ∧ x ≤ 30) ∧ n + x ≤ 1000
theorem c_hf63 {t n x : Nat} (w : WF k α) (t1 : (t : Int) < α 0 5) (hx : x ≤ 30) (hn : n + x ≤ 1000) : ∀ (c j : Nat) (τ : mm_Mem), j + c + 1 = x → RepC k h α τ → fmI α (fun f => fitB α t n f j) τ → (∀ τ', RepC k h α τ' → FrC τ τ' → fmI α (fun f => fitB α t n f (x - 1)) τ' → Q (some (vB true)) τ') → V0 E (d + 4) qX10_hearForms 63 [some (vR 2), some (vI (t : Int)), some (vI (n : Int)), some (vI (x : Int)), some (vI ((n + j + 1 : Nat) : Int))] [] τ Q
  | 0, j, τ, hj, H, I, k1 => bX10_hearForms_63 ⟨⟨by omega, by omega⟩, ⟨by omega, by omega⟩, fun _ => k1 τ H FrC.rf (by rw [show x - 1 = j by omega]; exact I), fun q => by omega⟩
  | c + 1, j, τ, hj, H, I, k1 => by
    have hL := w.tune t1
    have f1 := fv_wp w (t := t) (n := n + j) t1 (by omega)
    have f2 := fv_wp w (t := t) (n := n + j + 1) t1 (by omega)
    refine bX10_hearForms_63 ⟨⟨by omega, by omega⟩, ⟨by omega, by omega⟩, fun q => by omega, fun _ => c_tuneAt w H (by omega) t1 (by omega) (by omega) ⟨_, rfl, c_tuneAt w H (by omega) t1 (by omega) (by omega) ⟨_, rfl, ?_⟩⟩⟩
    rw [Int.toNat_natCast, show (((n + j + 1 : Nat) : Int) - 1).toNat = n + j by omega, Int.toNat_natCast]
    refine c_narrow w hL f1 f2 I (fun τ1 I1 F1 => ⟨rfl, ?_⟩)
    rw [show (((n + j + 1 : Nat) : Int) + 1) = ((n + (j + 1) + 1 : Nat) : Int) by omega]
    exact c_hf63 w t1 hx hn c (j + 1) τ1 (by omega) (H.fr2 w (fun o _ o2 => F1 o o2)) I1 (fun τ2 H2 F2 I2 => k1 τ2 H2 (fun o ho => by rw [F2 o ho, F1 o (by omega)]) I2)
theorem c_hearForms {a0 a1 a2 : Int} (w : WF k α) (H : RepC k h α τ) (h0 : inR a0) (h1 : inR a1) (h2 : inR a2) (k1 : hfC α a0 a1 a2 → ∀ τ', RepC k h α τ' → FrC τ τ' → fmI α (fun f => fitB α a0.toNat a1.toNat f (a2.toNat - 1)) τ' → Q (some (vB true)) τ') (k2 : ¬ hfC α a0 a1 a2 → Q (some (vB false)) τ) : M0 E (d + 4) qX10_hearForms [vR 2, vI a0, vI a1, vI a2] τ Q := by
  obtain ⟨l1, l2⟩ := H.live
  obtain ⟨s1, s2, -⟩ := H.hs
  refine mX10_hearForms (c_isTune w H h0 ⟨_, rfl, fun q => k2 (fun z => of_decide_eq_false q z.1), fun q => c_isWhistle h1 ⟨_, rfl, fun q2 => k2 (fun z => of_decide_eq_false q2 z.2.1), fun q2 => ⟨h2, fun q3 => k2 (fun z => by have := z.2.2.1; omega), fun q3 => ⟨fun q4 => k2 (fun z => by have := z.2.2.1; omega), fun q4 => ?_⟩⟩⟩⟩)
  have q := of_decide_eq_true q
  have q2 := of_decide_eq_true q2
  have hL := w.tune (t := a0.toNat) (by omega)
  refine ⟨⟨by omega, by omega⟩, fun q5 => ⟨h, l1, l2, h, l1, l2, ?_⟩, fun q5 => k2 (fun z => q5 z.2.2.2)⟩
  rw [s1, s2]
  refine c_begin hL (fun τ1 I1 F1 => ⟨rfl, ?_⟩)
  have l := c_hf63 (E := E) (d := d) (h := h) (Q := Q) (t := a0.toNat) (n := a1.toNat) (x := a2.toNat) w (by omega) (by omega) (by omega) (a2.toNat - 1) 0 τ1 (by omega) (H.fr2 w F1) I1 (fun τ2 H2 F2 I2 => k1 ⟨q, q2, by omega, q5⟩ τ2 H2 (fun o ho => by rw [F2 o ho, F1 o (by omega) (by omega)]) I2)
  rw [show ((a0.toNat : Nat) : Int) = a0 by omega, show ((a2.toNat : Nat) : Int) = a2 by omega, show ((a1.toNat + 0 + 1 : Nat) : Int) = a1 + 1 by omega, show ((a1.toNat : Nat) : Int) = a1 by omega] at l
  exact l
theorem c_howL {P : Nat → Bool} (hb : fmN α ≤ 125) (I : fmI α P τ) (k1 : Q (some (vI (cntP P (fmN α) : Nat))) τ) : ∀ (c i : Nat), i + c = fmN α → V0 E d qX1_howMany 4 [some (vR 136), some (vI (cntP P i : Nat)), some (vI (i : Int))] [] τ Q
  | 0, i, hi => by
    have := I.1.2.2
    refine bX1_howMany_4 ⟨⟨by omega, by omega⟩, fun _ => by rw [show i = fmN α by omega]; exact k1, fun q => by omega⟩
  | c + 1, i, hi => by
    have h3 := I.1.2.2
    have en : ((i : Int) + 1) = ((i + 1 : Nat) : Int) := by omega
    refine bX1_howMany_4 ⟨⟨by omega, by omega⟩, fun q => by omega, fun _ => ⟨by omega, by omega, ?_⟩⟩
    rw [Int.toNat_natCast, I.2 i (by omega), en]
    have ih := c_howL hb I k1 c (i + 1) (by omega)
    rw [cntP] at ih
    refine ⟨fun q => ?_, fun q => ?_⟩
    · have : P i = false := by cases h : P i; rfl; rw [h] at q; exact absurd q (by decide)
      rw [this, if_neg Bool.false_ne_true] at ih
      exact ih
    · have : P i = true := by cases h : P i; rw [h] at q; exact absurd rfl q; rfl
      rw [this, if_pos rfl] at ih
      exact ih
def knowsR (α : mm_Mem) (t n x : Int) : Int := if (0 ≤ t ∧ t < α 0 5) ∧ (0 ≤ n ∧ n < 1000) ∧ (1 ≤ x ∧ x ≤ 30) ∧ n + x ≤ 1000 then (cntP (fun f => fitB α t.toNat n.toNat f (x.toNat - 1)) (fmN α) : Nat) else -1
theorem fm125 (hL : 2 ≤ α 0 3 ∧ α 0 3 ≤ 6 ∧ 2 ≤ α 0 4 ∧ α 0 4 ≤ 5) : fmN α ≤ 125 := by
  have hl : 2 ≤ lA α ∧ lA α ≤ 5 := by unfold lA; omega
  have hn : 2 ≤ nA α ∧ nA α ≤ 6 := by unfold nA; omega
  have h1 : lA α * lA α ≤ 5 * 5 := Nat.mul_le_mul hl.2 hl.2
  have h2 : lA α * lA α * (nA α - 1) ≤ 5 * 5 * 5 := Nat.mul_le_mul h1 (by omega)
  exact h2
theorem c_knows {a0 a1 a2 : Int} (w : WF k α) (H : RepC k h α τ) (h0 : inR a0) (h1 : inR a1) (h2 : inR a2) (k1 : ∀ τ', RepC k h α τ' → FrC τ τ' → Q (some (vI (knowsR α a0 a1 a2))) τ') : M0 E (d + 5) qX10_knows [vR 2, vI a0, vI a1, vI a2] τ Q := by
  unfold knowsR at k1
  refine mX10_knows (c_hearForms w H h0 h1 h2 (fun C τ1 H1 F1 I1 => ⟨_, rfl, fun z => absurd z (by decide), fun _ => ?_⟩) (fun C => ⟨_, rfl, fun _ => ?_, fun z => absurd z (by decide)⟩))
  · have C' : (0 ≤ a0 ∧ a0 < α 0 5) ∧ (0 ≤ a1 ∧ a1 < 1000) ∧ (1 ≤ a2 ∧ a2 ≤ 30) ∧ a1 + a2 ≤ 1000 := C
    rw [if_pos C'] at k1
    have hL := w.tune (t := a0.toNat) (by have := C.1; omega)
    exact mX1_howMany (c_howL (fm125 hL) I1 ⟨_, rfl, k1 τ1 H1 F1⟩ (fmN α) 0 (by omega))
  · have C' : ¬ ((0 ≤ a0 ∧ a0 < α 0 5) ∧ (0 ≤ a1 ∧ a1 < 1000) ∧ (1 ≤ a2 ∧ a2 ≤ 30) ∧ a1 + a2 ≤ 1000) := C
    rw [if_neg C'] at k1
    exact k1 τ H FrC.rf
theorem c_firstL {P : Nat → Bool} (hb : fmN α ≤ 125) (I : fmI α P τ) : ∀ (c i : Nat), i + c = fmN α → Q (some (vI (fsA P c i))) τ → V0 E d qX1_firstFrom 2 [some (vR 136), none, some (vI (i : Int))] [] τ Q
  | 0, i, hi, k1 => by
    have := I.1.2.2
    exact bX1_firstFrom_2 ⟨⟨by omega, by omega⟩, fun _ => k1, fun q => by omega⟩
  | c + 1, i, hi, k1 => by
    have h3 := I.1.2.2
    have en : ((i : Int) + 1) = ((i + 1 : Nat) : Int) := by omega
    refine bX1_firstFrom_2 ⟨⟨by omega, by omega⟩, fun q => by omega, fun _ => ⟨by omega, by omega, ?_⟩⟩
    rw [Int.toNat_natCast, I.2 i (by omega), en]
    rw [fsA] at k1
    refine ⟨fun q => ?_, fun q => ?_⟩
    · have : P i = false := by cases h : P i; rfl; rw [h] at q; exact absurd q (by decide)
      rw [this, if_neg Bool.false_ne_true] at k1
      exact c_firstL hb I c (i + 1) (by omega) k1
    · have : P i = true := by cases h : P i; rw [h] at q; exact absurd rfl q; rfl
      rw [this, if_pos rfl] at k1
      exact k1
theorem c_firstFrom {P : Nat → Bool} (hb : fmN α ≤ 125) (I : fmI α P τ) (k1 : Q (some (vI (fsA P (fmN α) 0))) τ) : M0 E d qX1_firstFrom [vR 136, vI 0] τ Q :=
  mX1_firstFrom (c_firstL hb I (fmN α) 0 (by omega) k1)
def rightR (α : mm_Mem) (t n x : Int) : Int := if ((0 ≤ t ∧ t < α 0 5) ∧ (0 ≤ n ∧ n < 1000) ∧ (1 ≤ x ∧ x ≤ 30) ∧ n + x ≤ 1000) ∧ n + x < 1000 then (if fsA (fun f => fitB α t.toNat n.toNat f (x.toNat - 1)) (fmN α) 0 = -1 then -1 else bI (stB α t.toNat (fsA (fun f => fitB α t.toNat n.toNat f (x.toNat - 1)) (fmN α) 0).toNat (n.toNat + x.toNat - 1))) else -1
theorem c_right {a0 a1 a2 : Int} (w : WF k α) (H : RepC k h α τ) (h0 : inR a0) (h1 : inR a1) (h2 : inR a2) (k1 : ∀ τ', RepC k h α τ' → FrC τ τ' → Q (some (vI (rightR α a0 a1 a2))) τ') : M0 E (d + 5) qX10_right [vR 2, vI a0, vI a1, vI a2] τ Q := by
  unfold rightR at k1
  refine mX10_right (c_hearForms w H h0 h1 h2 (fun C τ1 H1 F1 I1 => ⟨_, rfl, fun z => absurd z (by decide), fun _ => ?_⟩) (fun C => ⟨_, rfl, fun _ => ?_, fun z => absurd z (by decide)⟩))
  · have C0 := C
    obtain ⟨c1, c2, c3, c4⟩ := C
    have t1 : ((a0.toNat : Nat) : Int) < α 0 5 := by omega
    have hL := w.tune t1
    refine c_isWhistle ⟨by omega, by omega⟩ ⟨_, rfl, fun q => ?_, fun q => ?_⟩
    · have q := of_decide_eq_true q
      rw [if_pos ⟨C0, q.2⟩] at k1
      have rg := fsA_range (fun f => fitB α a0.toNat a1.toNat f (a2.toNat - 1)) (fmN α) 0
      have fb := fm125 hL
      refine c_firstFrom fb I1 ⟨_, rfl, ⟨by omega, by omega⟩, fun z => ?_, fun z => ?_⟩
      · rw [if_neg z] at k1
        have g1 := fv_wp w (t := a0.toNat) (n := a1.toNat + a2.toNat - 1) t1 (by omega)
        have g2 := fv_wp w (t := a0.toNat) (n := a1.toNat + a2.toNat) t1 (by omega)
        have hf : (fsA (fun f => fitB α a0.toNat a1.toNat f (a2.toNat - 1)) (fmN α) 0).toNat < fmN α := by omega
        have okn := fvA_ok w (nx_fv (f := (fsA (fun f => fitB α a0.toNat a1.toNat f (a2.toNat - 1)) (fmN α) 0).toNat) hL g1)
        refine c_tuneAt w H1 (by omega) (by omega) (by omega) (by omega) ⟨_, rfl, ?_⟩
        rw [show (a1 + a2 - 1).toNat = a1.toNat + a2.toNat - 1 by omega, show fsA (fun f => fitB α a0.toNat a1.toNat f (a2.toNat - 1)) (fmN α) 0 = (((fsA (fun f => fitB α a0.toNat a1.toNat f (a2.toNat - 1)) (fmN α) 0).toNat : Nat) : Int) by omega]
        refine c_nextBy w hL I1 hf g1 ⟨_, rfl, c_tuneAt w H1 (by omega) (by omega) (by omega) (by omega) ⟨_, rfl, tp_R okn, ?_, ?_⟩⟩
        · rw [show (a1 + a2).toNat = a1.toNat + a2.toNat by omega]; exact tp_R (fvA_ok w g2)
        · rw [show (a1 + a2).toNat = a1.toNat + a2.toNat by omega]
          have es : stB α a0.toNat (fsA (fun f => fitB α a0.toNat a1.toNat f (a2.toNat - 1)) (fmN α) 0).toNat (a1.toNat + a2.toNat - 1) = decide (tp (nxF (nA α) (lA α) (fsA (fun f => fitB α a0.toNat a1.toNat f (a2.toNat - 1)) (fmN α) 0).toNat (wpA α a0.toNat (a1.toNat + a2.toNat - 1))) = tp (wpA α a0.toNat (a1.toNat + a2.toNat))) := by
            unfold stB; rw [show a1.toNat + a2.toNat - 1 + 1 = a1.toNat + a2.toNat by omega]
          rw [es] at k1
          refine ⟨fun y => ?_, fun y => ?_⟩
          · have := k1 τ1 H1 F1; rw [decide_eq_false (by omega)] at this; exact this
          · have := k1 τ1 H1 F1; rw [decide_eq_true (by omega)] at this; exact this
      · rw [if_pos z] at k1
        exact k1 τ1 H1 F1
    · rw [if_neg (fun z => of_decide_eq_false q ⟨by omega, z.2⟩)] at k1
      exact k1 τ1 H1 F1
  · rw [if_neg (fun z => C z.1)] at k1
    exact k1 τ H FrC.rf
/-- some fit, and all that do make one next tune -/
def agP (α : mm_Mem) (t n x : Nat) : Prop := (∃ f, f < fmN α ∧ fitB α t n f (x - 1) = true) ∧ ∀ f f', f < fmN α → f' < fmN α → fitB α t n f (x - 1) = true → fitB α t n f' (x - 1) = true → tp (nxF (nA α) (lA α) f (wpA α t (n + x - 1))) = tp (nxF (nA α) (lA α) f' (wpA α t (n + x - 1)))
theorem c_agreeL {f0 : Nat} {g : Nat → Nat} {P : Nat → Bool} (w : WF k α) (hL : 2 ≤ α 0 3 ∧ α 0 3 ≤ 6 ∧ 2 ≤ α 0 4 ∧ α 0 4 ≤ 5) (I : fmI α P τ) (hg : fvA α g) (k1 : ∀ v : Bool, (v = true ↔ ∀ f, f0 < f → f < fmN α → P f = true → tp (nxF (nA α) (lA α) f g) = tp (nxF (nA α) (lA α) f0 g)) → Q (some (vB v)) τ) : ∀ (c i : Nat), i + c = max (fmN α) (f0 + 1) → f0 < i → (∀ f, f0 < f → f < i → f < fmN α → P f = true → tp (nxF (nA α) (lA α) f g) = tp (nxF (nA α) (lA α) f0 g)) → f0 < fmN α → V0 E (d + 3) qX1_agree 25 [some (vR 136), some (vI (tp g : Nat)), none, some (vI (tp (nxF (nA α) (lA α) f0 g) : Nat)), some (vI (i : Int))] [] τ Q
  | 0, i, hi, h0, lo, hf => by
    have := I.1.2.2
    have fb := fm125 hL
    exact bX1_agree_25 ⟨⟨by omega, by omega⟩, fun _ => k1 true ⟨fun _ f a b c => lo f a (by omega) b c, fun _ => rfl⟩, fun q => by omega⟩
  | c + 1, i, hi, h0, lo, hf => by
    have h3 := I.1.2.2
    have fb := fm125 hL
    have en : ((i : Int) + 1) = ((i + 1 : Nat) : Int) := by omega
    refine bX1_agree_25 ⟨⟨by omega, by omega⟩, fun q => by omega, fun _ => ⟨by omega, by omega, ?_⟩⟩
    rw [Int.toNat_natCast, I.2 i (by omega)]
    refine ⟨fun q => ?_, fun q => ?_⟩
    · have pf : P i = false := by cases h : P i; rfl; rw [h] at q; exact absurd q (by decide)
      rw [en]
      refine c_agreeL w hL I hg k1 c (i + 1) (by omega) (by omega) (fun f a b c d => ?_) hf
      by_cases e : f = i
      · subst e; rw [pf] at d; cases d
      · exact lo f a (by omega) c d
    · have pf : P i = true := by cases h : P i; rw [h] at q; exact absurd rfl q; rfl
      refine c_nextBy w hL I (by omega) hg ⟨_, rfl, tp_R (fvA_ok w (nx_fv hL hg)), tp_R (fvA_ok w (nx_fv hL hg)), fun z => ?_, fun z => k1 false ⟨fun y => (by cases y), fun y => absurd (y i (by omega) (by omega) pf) (by omega)⟩⟩
      rw [en]
      refine c_agreeL w hL I hg k1 c (i + 1) (by omega) (by omega) (fun f a b c d => ?_) hf
      by_cases e : f = i
      · subst e; omega
      · exact lo f a (by omega) c d
theorem c_agree {t n x : Nat} (w : WF k α) (t1 : (t : Int) < α 0 5) (hx : 1 ≤ x) (hn : n + x ≤ 1000) (I : fmI α (fun f => fitB α t n f (x - 1)) τ) (k1 : ∀ v : Bool, (v = true ↔ agP α t n x) → Q (some (vB v)) τ) : M0 E (d + 3) qX1_agree [vR 136, vI (tp (wpA α t (n + x - 1)) : Nat)] τ Q := by
  have hL := w.tune t1
  have fb := fm125 hL
  have hg := fv_wp w (t := t) (n := n + x - 1) t1 (by omega)
  have rg := fsA_range (fun f => fitB α t n f (x - 1)) (fmN α) 0
  refine mX1_agree (c_firstFrom fb I ⟨_, rfl, ⟨by omega, by omega⟩, fun z => ?_, fun z => ?_⟩)
  · obtain ⟨f0, hf0⟩ : ∃ f0 : Nat, fsA (fun f => fitB α t n f (x - 1)) (fmN α) 0 = (f0 : Int) := ⟨(fsA (fun f => fitB α t n f (x - 1)) (fmN α) 0).toNat, by omega⟩
    rw [hf0] at rg ⊢
    obtain ⟨p0, pn⟩ := fsA_true _ _ _ _ hf0
    refine c_nextBy w hL I (by omega) hg ⟨_, rfl, ?_⟩
    rw [show ((f0 : Int) + 1) = ((f0 + 1 : Nat) : Int) by omega]
    refine c_agreeL w hL I hg (fun v hv => k1 v ?_) (max (fmN α) (f0 + 1) - (f0 + 1)) (f0 + 1) (by omega) (by omega) (fun f a b => by omega) (by omega)
    rw [hv]
    constructor
    · intro H
      have all : ∀ f, f < fmN α → fitB α t n f (x - 1) = true → tp (nxF (nA α) (lA α) f (wpA α t (n + x - 1))) = tp (nxF (nA α) (lA α) f0 (wpA α t (n + x - 1))) := by
        intro f hf pf
        by_cases e : f = f0
        · rw [e]
        · by_cases o : f < f0
          · have := pn f (by omega) o
            rw [pf] at this; cases this
          · exact H f (by omega) hf pf
      exact ⟨⟨f0, by omega, p0⟩, fun f f' a b c d => (all f a c).trans (all f' b d).symm⟩
    · intro H f a b c
      exact H.2 f f0 b (by omega) c p0
  · refine k1 false ⟨fun y => (by cases y), fun y => ?_⟩
    obtain ⟨⟨f, a, c⟩, -⟩ := y
    have := (fsA_ne (fun f => fitB α t n f (x - 1)) (fmN α) 0).mpr ⟨f, by omega, by omega, c⟩
    exact absurd z this
/-- the first k at which it is sure -/
def isSure (α : mm_Mem) (t n v : Int) : Prop := if (0 ≤ t ∧ t < α 0 5) ∧ 0 ≤ n ∧ n < 1000 then ((v = -1 ∧ ∀ x : Nat, 2 ≤ x → x ≤ 30 → n.toNat + x ≤ 1000 → ¬ agP α t.toNat n.toNat x) ∨ ∃ x : Nat, (2 ≤ x ∧ x ≤ 30 ∧ n.toNat + x ≤ 1000) ∧ agP α t.toNat n.toNat x ∧ v = (x : Int) ∧ ∀ y, 2 ≤ y → y < x → ¬ agP α t.toNat n.toNat y) else v = -1
theorem isSure_u {t n v v' : Int} (h : isSure α t n v) (h' : isSure α t n v') : v = v' := by
  unfold isSure at h h'
  by_cases z : (0 ≤ t ∧ t < α 0 5) ∧ 0 ≤ n ∧ n < 1000
  · rw [if_pos z] at h h'
    rcases h with ⟨a, b⟩ | ⟨x, ⟨a1, a2, a3⟩, b, c, m⟩ <;> rcases h' with ⟨a', b'⟩ | ⟨x', ⟨a1', a2', a3'⟩, b'', c', m'⟩
    · omega
    · exact absurd b'' (b x' a1' a2' a3')
    · exact absurd b (b' x a1 a2 a3)
    · by_cases o : x < x'
      · exact absurd b (m' x a1 o)
      · by_cases o2 : x' < x
        · exact absurd b'' (m x' a1' o2)
        · omega
  · rw [if_neg z] at h h'; omega
theorem c_sure40 {t n : Nat} (w : WF k α) (t1 : (t : Int) < α 0 5) (n1 : n < 1000) : ∀ (c x : Nat) (τ : mm_Mem), x + c = 31 → 2 ≤ x → RepC k h α τ → fmI α (fun f => fitB α t n f (x - 2)) τ → (∀ y, 2 ≤ y → y < x → ¬ agP α t n y) → (∀ v τ', RepC k h α τ' → FrC τ τ' → ((v = -1 ∧ ∀ x : Nat, 2 ≤ x → x ≤ 30 → n + x ≤ 1000 → ¬ agP α t n x) ∨ ∃ x : Nat, (2 ≤ x ∧ x ≤ 30 ∧ n + x ≤ 1000) ∧ agP α t n x ∧ v = (x : Int) ∧ ∀ y, 2 ≤ y → y < x → ¬ agP α t n y) → Q (some (vI v)) τ') → V0 E (d + 4) qX10_sure 40 [some (vR 2), some (vI (t : Int)), some (vI (n : Int)), some (vI (x : Int)), none] [] τ Q
  | 0, x, τ, hx, h2, H, I, lo, k1 => bX10_sure_40 ⟨⟨by omega, by omega⟩, fun _ => k1 (-1) τ H FrC.rf (Or.inl ⟨rfl, fun y a b _ => lo y a (by omega)⟩), fun q => by omega⟩
  | c + 1, x, τ, hx, h2, H, I, lo, k1 => by
    have hL := w.tune t1
    refine bX10_sure_40 ⟨⟨by omega, by omega⟩, fun q => by omega, fun _ => ⟨⟨by omega, by omega⟩, fun q => k1 (-1) τ H FrC.rf (Or.inl ⟨rfl, fun y a b e => lo y a (by omega)⟩), fun q => ?_⟩⟩
    have f1 := fv_wp w (t := t) (n := n + (x - 2)) t1 (by omega)
    have f2 := fv_wp w (t := t) (n := n + x - 1) t1 (by omega)
    refine c_tuneAt w H (by omega) t1 (by omega) (by omega) ⟨_, rfl, c_tuneAt w H (by omega) t1 (by omega) (by omega) ⟨_, rfl, ?_⟩⟩
    rw [Int.toNat_natCast, show ((n : Int) + (x : Int) - 1).toNat = n + x - 1 by omega, show ((n : Int) + (x : Int) - 2).toNat = n + (x - 2) by omega]
    refine c_narrow w hL f1 f2 I (fun τ1 I1 F1 => ⟨rfl, ?_⟩)
    have I2 : fmI α (fun f => fitB α t n f (x - 1)) τ1 := by
      refine ⟨I1.1, fun f hf => ?_⟩
      have e : fitB α t n f (x - 2 + 1) = (fitB α t n f (x - 2) && stB α t f (n + (x - 2))) := rfl
      rw [show x - 2 + 1 = x - 1 by omega] at e
      show _ = bI (fitB α t n f (x - 1))
      rw [e]
      unfold stB
      rw [show n + (x - 2) + 1 = n + x - 1 by omega]
      exact I1.2 f hf
    have H1 : RepC k h α τ1 := H.fr2 w (fun o _ o2 => F1 o o2)
    have FF : FrC τ τ1 := fun o ho => F1 o (by omega)
    refine c_agree w t1 (by omega) (by omega) I2 (fun v hv => ⟨_, rfl, fun z => ?_, fun z => ?_⟩)
    · rw [show ((x : Int) + 1) = ((x + 1 : Nat) : Int) by omega]
      refine c_sure40 w t1 n1 c (x + 1) τ1 (by omega) (by omega) H1 (by rw [show x + 1 - 2 = x - 1 by omega]; exact I2) (fun y a b => ?_) (fun v τ2 H2 F2 e => k1 v τ2 H2 (FF.tr F2) e)
      by_cases e : y = x
      · subst e; intro q; rw [hv.mpr q] at z; cases z
      · exact lo y a (by omega)
    · exact k1 _ τ1 H1 FF (Or.inr ⟨x, ⟨h2, by omega, by omega⟩, hv.mp z, rfl, lo⟩)
theorem c_sure {a0 a1 : Int} (w : WF k α) (H : RepC k h α τ) (h0 : inR a0) (h1 : inR a1) (k1 : ∀ v τ', RepC k h α τ' → FrC τ τ' → isSure α a0 a1 v → Q (some (vI v)) τ') : M0 E (d + 4) qX10_sure [vR 2, vI a0, vI a1] τ Q := by
  unfold isSure at k1
  have no : ¬ ((0 ≤ a0 ∧ a0 < α 0 5) ∧ 0 ≤ a1 ∧ a1 < 1000) → Q (some (vI (-1))) τ := fun z => by
    simp only [if_neg z] at k1; exact k1 _ τ H FrC.rf rfl
  obtain ⟨l1, l2⟩ := H.live
  obtain ⟨s1, s2, -⟩ := H.hs
  refine mX10_sure (c_isTune w H h0 ⟨_, rfl, fun q => no (fun z => of_decide_eq_false q z.1), fun q => c_isWhistle h1 ⟨_, rfl, fun q2 => ⟨h, l1, l2, h, l1, l2, ?_⟩, fun q2 => no (fun z => of_decide_eq_false q2 z.2)⟩⟩)
  have q := of_decide_eq_true q
  have q2 := of_decide_eq_true q2
  simp only [if_pos (show (0 ≤ a0 ∧ a0 < α 0 5) ∧ 0 ≤ a1 ∧ a1 < 1000 from ⟨q, q2⟩)] at k1
  have hL := w.tune (t := a0.toNat) (by omega)
  rw [s1, s2]
  refine c_begin hL (fun τ1 I1 F1 => ⟨rfl, ?_⟩)
  have l := c_sure40 (E := E) (d := d) (h := h) (Q := Q) (t := a0.toNat) (n := a1.toNat) w (by omega) (by omega) 29 2 τ1 (by omega) (by omega) (H.fr2 w F1) I1 (fun y a b => by omega) (fun v τ2 H2 F2 e => k1 v τ2 H2 (fun o ho => by rw [F2 o ho, F1 o (by omega) (by omega)]) e)
  rw [show ((a0.toNat : Nat) : Int) = a0 by omega, show ((a1.toNat : Nat) : Int) = a1 by omega] at l
  exact l
end Forms
