/-! forms, the reference's side -/
def fnA (α : mm_Mem) (t m f : Nat) : Int := numA (α 0 3) (fun i => (nxF (nA α) (lA α) f (wpA α t m) i : Int)) (α 0 4).toNat
section MForms
variable {E : mm_Env} {d k h b : Nat} {α τ : mm_Mem} {Q : mm_Q0}
theorem nl_c (hL : 2 ≤ α 0 3 ∧ α 0 3 ≤ 6 ∧ 2 ≤ α 0 4 ∧ α 0 4 ≤ 5) : (2 ≤ lA α ∧ lA α ≤ 5 ∧ (lA α : Int) = α 0 4) ∧ 2 ≤ nA α ∧ nA α ≤ 6 ∧ (nA α : Int) = α 0 3 := by
  unfold lA nA; omega
theorem fn_r {t m f : Nat} (w : WF k α) (t1 : (t : Int) < α 0 5) (m1 : m < 1000) : 0 ≤ fnA α t m f ∧ fnA α t m f ≤ 7775 := by
  have hL := w.tune t1
  have fv := nx_fv (f := f) hL (fv_wp w (t := t) (n := m) t1 m1)
  have r := num_range (nt := α 0 3) (f := fun i => (nxF (nA α) (lA α) f (wpA α t m) i : Int)) (by omega) (α 0 4).toNat (fun i hi => ⟨by omega, fv.1 i (by omega)⟩)
  obtain ⟨-, a2, a3⟩ := all_r hL
  rw [← a3] at r
  unfold fnA; omega
theorem fn_st {t m f : Nat} (w : WF k α) (t1 : (t : Int) < α 0 5) (m1 : m < 999) : stB α t f m = decide (fnA α t m f = α 23 (1000 * t + (m + 1))) := by
  have hL := w.tune t1
  unfold stB
  rw [← num_wp w t1 (show m + 1 < 1000 by omega)]
  exact decide_eq_decide.mpr (tp_num w hL (nx_fv hL (fv_wp w t1 (by omega))) (fv_wp w t1 (by omega)))
theorem fn_tp {t m f f' : Nat} (w : WF k α) (t1 : (t : Int) < α 0 5) (m1 : m < 1000) : tp (nxF (nA α) (lA α) f (wpA α t m)) = tp (nxF (nA α) (lA α) f' (wpA α t m)) ↔ fnA α t m f = fnA α t m f' := by
  have hL := w.tune t1
  exact tp_num w hL (nx_fv hL (fv_wp w t1 m1)) (nx_fv hL (fv_wp w t1 m1))
theorem RepM.laid {t m i : Nat} (w : WF k α) (H : RepM b α τ) (t1 : (t : Int) < α 0 5) (m1 : m < 1000) (hi : (i : Int) < α 0 4) : τ 176 (5 * ((1000 * t + m : Nat) : Int) + (i : Int)).toNat = (wpA α t m i : Int) := by
  have r := ((H.2.2.2.2.2.2.2.2.1 t m t1 m1).1 i hi)
  have r2 := ((w.2.2.2.2.2.2.1 t t1).1 m m1).1 i hi
  rw [show (5 * ((1000 * t + m : Nat) : Int) + (i : Int)).toNat = 5 * (1000 * t + m) + i by omega, r]
  unfold wpA; rw [if_pos hi]; omega
theorem m_formed66 {t m f : Nat} (w : WF k α) (H : RepM b α τ) (t1 : (t : Int) < α 0 5) (m1 : m < 1000) (hf : f < fmN α) : ∀ (c i : Nat), i + c = lA α → Q (some (vI (fnA α t m f))) τ → V0 E d qX11_formed 66 [some (vR 140), some (vI ((1000 * t + m : Nat) : Int)), none, none, some (vI (fC (nA α) f : Nat)), none, some (vI (plF (nA α) (lA α) f (wpA α t m) : Nat)), some (vI (numA (α 0 3) (fun i => (nxF (nA α) (lA α) f (wpA α t m) i : Int)) i)), some (vI (i : Int))] [] τ Q
  | 0, i, hi, k1 => by
    have hL := w.tune t1
    obtain ⟨⟨l1, l2, l3⟩, n1, n2, n3⟩ := nl_c hL
    obtain ⟨b1, b2, b3⟩ := H.bk
    obtain ⟨e1, e2, -⟩ := H.hs
    refine bX11_formed_66 ?_
    rw [b3, e2, b1]
    refine ⟨by omega, by omega, ⟨by omega, by omega⟩, fun _ => ?_, fun q => by omega⟩
    unfold fnA at k1
    rw [show (α 0 4).toNat = i by omega] at k1
    exact k1
  | c + 1, i, hi, k1 => by
    have hL := w.tune t1
    obtain ⟨⟨l1, l2, l3⟩, n1, n2, n3⟩ := nl_c hL
    obtain ⟨b1, b2, b3⟩ := H.bk
    obtain ⟨e1, e2, -⟩ := H.hs
    obtain ⟨r1, r2, r3, r4, r5⟩ := fm_r hL hf
    have tu : α 0 5 ≤ 3 := by have := w.2.1.1; omega
    have pl : plF (nA α) (lA α) f (wpA α t m) < lA α := Nat.mod_lt _ (by omega)
    have fv := fv_wp w (t := t) (n := m) t1 m1
    have gi := fv.1 i (by omega)
    have hr := H.laid w t1 m1 (i := i) (by omega)
    have go := m_formed66 w H t1 m1 hf c (i + 1) (by omega) k1
    rw [show (((i + 1 : Nat)) : Int) = (i : Int) + 1 by omega] at go
    have en : numA (α 0 3) (fun i => (nxF (nA α) (lA α) f (wpA α t m) i : Int)) (i + 1) = numA (α 0 3) (fun i => (nxF (nA α) (lA α) f (wpA α t m) i : Int)) i * α 0 3 + (nxF (nA α) (lA α) f (wpA α t m) i : Int) := rfl
    rw [en] at go
    refine bX11_formed_66 ?_
    rw [b3, e2, e1, b1, hr]
    generalize numA (α 0 3) (fun i => (nxF (nA α) (lA α) f (wpA α t m) i : Int)) i = nn at go ⊢
    refine ⟨by omega, by omega, ⟨by omega, by omega⟩, fun q => by omega, fun _ => ⟨by omega, by omega, ⟨by omega, by omega⟩, fun q => ⟨by omega, by omega, ?_⟩, fun q => ⟨by omega, by omega, by omega, by omega, ⟨by omega, by omega⟩, by omega, ?_⟩⟩⟩
    · have e : nxF (nA α) (lA α) f (wpA α t m) i = wpA α t m i := by
        unfold nxF tp_up; rw [if_neg (by omega)]
      rw [e] at go; exact go
    · have q' : i = plF (nA α) (lA α) f (wpA α t m) := by omega
      have e : nxF (nA α) (lA α) f (wpA α t m) i = (wpA α t m i + fC (nA α) f) % nA α := by
        unfold nxF tp_up; rw [if_pos q', ← q']
      rw [e] at go
      rw [← n3, ← Int.natCast_add, nat_tmod]
      rw [← n3] at go
      exact go
theorem m_formed6 {t m f : Nat} (w : WF k α) (H : RepM b α τ) (t1 : (t : Int) < α 0 5) (m1 : m < 1000) (hf : f < fmN α) : ∀ (c i : Nat), i + c = lA α → Q (some (vI (fnA α t m f))) τ → V0 E d qX11_formed 6 [some (vR 140), some (vI ((1000 * t + m : Nat) : Int)), some (vI (fA (nA α) (lA α) f : Nat)), some (vI (fB (nA α) (lA α) f : Nat)), some (vI (fC (nA α) f : Nat)), some (vI (smN (wpA α t m) i : Nat)), some (vI (i : Int)), none, none] [] τ Q
  | 0, i, hi, k1 => by
    have hL := w.tune t1
    obtain ⟨⟨l1, l2, l3⟩, n1, n2, n3⟩ := nl_c hL
    obtain ⟨b1, b2, b3⟩ := H.bk
    obtain ⟨e1, e2, -⟩ := H.hs
    obtain ⟨r1, r2, r3, r4, r5⟩ := fm_r hL hf
    have ok := fvA_ok w (fv_wp w (t := t) (n := m) t1 m1)
    have sm := smN_le (g := wpA α t m) (lA α) (fun j hj => ok j (by omega))
    have mb : fA (nA α) (lA α) f * smN (wpA α t m) (lA α) ≤ 5 * 35 := Nat.mul_le_mul (by omega) (by omega)
    have il : i = lA α := by omega
    subst il
    refine bX11_formed_6 ?_
    rw [b3, e2, b1, ← l3, ← Int.natCast_mul, ← Int.natCast_add, nat_tmod]
    refine ⟨by omega, by omega, ⟨by omega, by omega⟩, fun _ => ⟨by omega, by omega, ⟨by omega, by omega⟩, by omega, ?_⟩, fun q => by omega⟩
    exact m_formed66 w H t1 m1 hf (lA α) 0 (by omega) k1
  | c + 1, i, hi, k1 => by
    have hL := w.tune t1
    obtain ⟨⟨l1, l2, l3⟩, n1, n2, n3⟩ := nl_c hL
    obtain ⟨b1, b2, b3⟩ := H.bk
    obtain ⟨e1, e2, -⟩ := H.hs
    have tu : α 0 5 ≤ 3 := by have := w.2.1.1; omega
    have hr := H.laid w t1 m1 (i := i) (by omega)
    have go := m_formed6 w H t1 m1 hf c (i + 1) (by omega) k1
    rw [show (((i + 1 : Nat)) : Int) = (i : Int) + 1 by omega, show smN (wpA α t m) (i + 1) = smN (wpA α t m) i + wpA α t m i from rfl, Int.natCast_add] at go
    refine bX11_formed_6 ?_
    rw [b3, e2, b1, hr]
    exact ⟨by omega, by omega, ⟨by omega, by omega⟩, fun q => by omega, fun _ => ⟨by omega, by omega, go⟩⟩
theorem m_formed {t m f : Nat} {x : Int} (w : WF k α) (H : RepM b α τ) (t1 : (t : Int) < α 0 5) (m1 : m < 1000) (hf : f < fmN α) (hx : x = ((1000 * t + m : Nat) : Int)) (k1 : Q (some (vI (fnA α t m f))) τ) : M0 E d qX11_formed [vR 140, vI x, vI (fA (nA α) (lA α) f : Nat), vI (fB (nA α) (lA α) f : Nat), vI (fC (nA α) f : Nat)] τ Q := by
  rw [hx]
  exact mX11_formed (m_formed6 w H t1 m1 hf (lA α) 0 (by omega) k1)
theorem m_formA {f : Nat} (hL : 2 ≤ α 0 3 ∧ α 0 3 ≤ 6 ∧ 2 ≤ α 0 4 ∧ α 0 4 ≤ 5) (H : RepM b α τ) (hf : f < fmN α) (k1 : Q (some (vI (fA (nA α) (lA α) f : Nat))) τ) : M0 E d qX11_formA [vR 140, vI (f : Int)] τ Q := by
  obtain ⟨⟨l1, l2, l3⟩, n1, n2, n3⟩ := nl_c hL
  obtain ⟨b1, b2, b3⟩ := H.bk
  obtain ⟨e1, e2, -⟩ := H.hs
  obtain ⟨r1, r2, r3, r4, r5⟩ := fm_r hL hf
  refine mX11_formA ?_
  rw [b3, e2, e1, b1, ← n3, ← l3, show (nA α : Int) - 1 = ((nA α - 1 : Nat) : Int) by omega, ← Int.natCast_mul, nat_tdiv]
  have hp : 0 < lA α * (nA α - 1) := Nat.mul_pos (by omega) (by omega)
  have hq : lA α * (nA α - 1) ≤ 5 * 5 := Nat.mul_le_mul (by omega) (by omega)
  refine ⟨by omega, by omega, by omega, by omega, ⟨by omega, by omega⟩, ⟨by omega, by omega⟩, by omega, ?_⟩
  rw [Nat.mul_comm, ← Nat.div_div_eq_div_mul]
  exact k1
theorem m_formB {f : Nat} (hL : 2 ≤ α 0 3 ∧ α 0 3 ≤ 6 ∧ 2 ≤ α 0 4 ∧ α 0 4 ≤ 5) (H : RepM b α τ) (hf : f < fmN α) (k1 : Q (some (vI (fB (nA α) (lA α) f : Nat))) τ) : M0 E d qX11_formB [vR 140, vI (f : Int)] τ Q := by
  obtain ⟨⟨l1, l2, l3⟩, n1, n2, n3⟩ := nl_c hL
  obtain ⟨b1, b2, b3⟩ := H.bk
  obtain ⟨e1, e2, -⟩ := H.hs
  obtain ⟨r1, r2, r3, r4, r5⟩ := fm_r hL hf
  have d1 : f / (nA α - 1) ≤ f := Nat.div_le_self _ _
  refine mX11_formB ?_
  rw [b3, e2, e1, b1, ← n3, ← l3, show (nA α : Int) - 1 = ((nA α - 1 : Nat) : Int) by omega, nat_tdiv, nat_tmod]
  refine ⟨by omega, by omega, ⟨by omega, by omega⟩, ⟨by omega, by omega⟩, by omega, by omega, by omega, ?_, by omega, k1⟩
  generalize f / (nA α - 1) = z at d1; exact ⟨by omega, by omega⟩
theorem m_formC {f : Nat} (hL : 2 ≤ α 0 3 ∧ α 0 3 ≤ 6 ∧ 2 ≤ α 0 4 ∧ α 0 4 ≤ 5) (H : RepM b α τ) (hf : f < fmN α) (k1 : Q (some (vI (fC (nA α) f : Nat))) τ) : M0 E d qX11_formC [vR 140, vI (f : Int)] τ Q := by
  obtain ⟨⟨l1, l2, l3⟩, n1, n2, n3⟩ := nl_c hL
  obtain ⟨b1, b2, b3⟩ := H.bk
  obtain ⟨e1, e2, -⟩ := H.hs
  obtain ⟨r1, r2, r3, r4, r5⟩ := fm_r hL hf
  refine mX11_formC ?_
  rw [b3, e1, b1, ← n3, show (nA α : Int) - 1 = ((nA α - 1 : Nat) : Int) by omega, nat_tmod]
  refine ⟨by omega, by omega, ⟨by omega, by omega⟩, ⟨by omega, by omega⟩, by omega, ?_⟩
  unfold fC at k1
  rw [Int.natCast_add] at k1
  exact k1
theorem m_formsAll (hL : 2 ≤ α 0 3 ∧ α 0 3 ≤ 6 ∧ 2 ≤ α 0 4 ∧ α 0 4 ≤ 5) (H : RepM b α τ) (k1 : Q (some (vI (fmN α : Nat))) τ) : M0 E d qX11_formsAll [vR 140] τ Q := by
  obtain ⟨⟨l1, l2, l3⟩, n1, n2, n3⟩ := nl_c hL
  obtain ⟨b1, b2, b3⟩ := H.bk
  obtain ⟨e1, e2, -⟩ := H.hs
  refine mX11_formsAll ?_
  rw [b3, e2, e1, b1, ← n3, ← l3, show (nA α : Int) - 1 = ((nA α - 1 : Nat) : Int) by omega, ← Int.natCast_mul, ← Int.natCast_mul]
  exact ⟨by omega, by omega, by omega, by omega, by omega, by omega, k1⟩
theorem fitB_no {t n f : Nat} {i : Nat} : ∀ j, i < j → stB α t f (n + i) = false → fitB α t n f j = false
  | 0, h, _ => by omega
  | j + 1, h, e => by
    show (fitB α t n f j && stB α t f (n + j)) = false
    by_cases q : i = j
    · subst q; rw [e, Bool.and_false]
    · rw [fitB_no j (by omega) e, Bool.false_and]
theorem m_fitsL {t n f x : Nat} (w : WF k α) (H : RepM b α τ) (t1 : (t : Int) < α 0 5) (n1 : n + x ≤ 1000) (x1 : 1 ≤ x) (hf : f < fmN α) : ∀ (c i : Nat), i + c = x - 1 → fitB α t n f i = true → Q (some (vB (fitB α t n f (x - 1)))) τ → V0 E (d + 1) qX11_fits 3 [some (vR 140), some (vI ((1000 * t + n : Nat) : Int)), some (vI (x : Int)), some (vI (fA (nA α) (lA α) f : Nat)), some (vI (fB (nA α) (lA α) f : Nat)), some (vI (fC (nA α) f : Nat)), some (vI (i : Int))] [] τ Q
  | 0, i, hi, lo, k1 => by
    refine bX11_fits_3 ⟨⟨by omega, by omega⟩, ⟨by omega, by omega⟩, fun _ => ?_, fun q => by omega⟩
    rw [show x - 1 = i by omega, lo] at k1; exact k1
  | c + 1, i, hi, lo, k1 => by
    have tu : α 0 5 ≤ 3 := by have := w.2.1.1; omega
    have r := fn_r (f := f) w t1 (show n + i < 1000 by omega)
    have st := fn_st (f := f) w t1 (show n + i < 999 by omega)
    have hn : τ 178 (((1000 * t + n : Nat) : Int) + (i : Int) + 1).toNat = α 23 (1000 * t + (n + i + 1)) := by
      rw [show (((1000 * t + n : Nat) : Int) + (i : Int) + 1).toNat = 1000 * t + (n + i + 1) by omega]
      exact (H.2.2.2.2.2.2.2.2.1 t (n + i + 1) t1 (by omega)).2.2
    refine bX11_fits_3 ⟨⟨by omega, by omega⟩, ⟨by omega, by omega⟩, fun q => by omega, fun _ => m_formed w H t1 (m := n + i) (by omega) hf (by omega) ⟨_, rfl, by omega, by omega, ⟨by omega, by omega⟩, fun q => ?_, fun q => ?_⟩⟩
    · rw [hn] at q
      rw [show (i : Int) + 1 = ((i + 1 : Nat) : Int) by omega]
      refine m_fitsL w H t1 n1 x1 hf c (i + 1) (by omega) ?_ k1
      show (fitB α t n f i && stB α t f (n + i)) = true
      rw [lo, st, decide_eq_true q]; rfl
    · rw [hn] at q
      rw [fitB_no (i := i) (x - 1) (by omega) (by rw [st, decide_eq_false q])] at k1
      exact k1
theorem m_fitsForm {t n f x : Nat} {y : Int} (w : WF k α) (H : RepM b α τ) (t1 : (t : Int) < α 0 5) (n1 : n + x ≤ 1000) (x1 : 1 ≤ x) (hf : f < fmN α) (hy : y = ((1000 * t + n : Nat) : Int)) (k1 : Q (some (vB (fitB α t n f (x - 1)))) τ) : M0 E (d + 2) qX11_fitsForm [vR 140, vI y, vI (x : Int), vI (f : Int)] τ Q := by
  have hL := w.tune t1
  rw [hy]
  exact mX11_fitsForm (m_formA hL H hf ⟨_, rfl, m_formB hL H hf ⟨_, rfl, m_formC hL H hf ⟨_, rfl, mX11_fits (m_fitsL w H t1 n1 x1 hf (x - 1) 0 (by omega) rfl ⟨_, rfl, k1⟩)⟩⟩⟩)
def canR (α : mm_Mem) (t n x : Int) : Prop := (0 ≤ t ∧ t < α 0 5) ∧ (0 ≤ n ∧ n < 1000) ∧ (1 ≤ x ∧ x ≤ 30) ∧ n + x ≤ 1000
theorem m_canHear {a0 a1 a2 : Int} (w : WF k α) (H : RepM b α τ) (h0 : inR a0) (h1 : inR a1) (h2 : inR a2) (k1 : ∀ v : Bool, (v = true → canR α a0 a1 a2) → (v = false → ¬ canR α a0 a1 a2) → Q (some (vB v)) τ) : M0 E (d + 2) qX11_canHear [vR 140, vI a0, vI a1, vI a2] τ Q := by
  have no : ¬ canR α a0 a1 a2 → Q (some (vB false)) τ := fun z => k1 false (fun q => by cases q) (fun _ => z)
  refine mX11_canHear (m_isTune w H h0 ⟨_, rfl, fun q => no (fun z => of_decide_eq_false q z.1), fun q => m_isWhistle h1 ⟨_, rfl, fun q2 => no (fun z => of_decide_eq_false q2 z.2.1), fun q2 => m_is h2 ⟨by omega, by omega⟩ ⟨by omega, by omega⟩ ⟨_, rfl, fun q3 => no (fun z => of_decide_eq_false q3 z.2.2.1), fun q3 => ?_⟩⟩⟩)
  have q := of_decide_eq_true q
  have q2 := of_decide_eq_true q2
  have q3 := of_decide_eq_true q3
  exact ⟨⟨by omega, by omega⟩, fun z => no (fun y => by have := y.2.2.2; omega), fun z => k1 true (fun _ => ⟨q, q2, q3, by omega⟩) (fun e => by cases e)⟩
theorem m_knowsL {t n x : Nat} (w : WF k α) (H : RepM b α τ) (t1 : (t : Int) < α 0 5) (n1 : n + x ≤ 1000) (x1 : 1 ≤ x) : ∀ (c f : Nat), f + c = fmN α → Q (some (vI (cntP (fun f => fitB α t n f (x - 1)) (fmN α) : Nat))) τ → V0 E (d + 3) qX11_knows 18 [some (vR 140), some (vI (t : Int)), some (vI (n : Int)), some (vI (x : Int)), some (vI (cntP (fun f => fitB α t n f (x - 1)) f : Nat)), some (vI (f : Int))] [] τ Q
  | 0, f, hf, k1 => by
    have hL := w.tune t1
    have fb : fmN α ≤ 125 := by
      obtain ⟨⟨l1, l2, l3⟩, n1, n2, n3⟩ := nl_c hL
      exact Nat.mul_le_mul (Nat.mul_le_mul l2 l2) (show nA α - 1 ≤ 5 by omega)
    refine bX11_knows_18 (m_formsAll hL H ⟨_, rfl, ⟨by omega, by omega⟩, ⟨by omega, by omega⟩, fun _ => ?_, fun q => by omega⟩)
    rw [show f = fmN α by omega]; exact k1
  | c + 1, f, hf, k1 => by
    have hL := w.tune t1
    have fb : fmN α ≤ 125 := by
      obtain ⟨⟨l1, l2, l3⟩, n1, n2, n3⟩ := nl_c hL
      exact Nat.mul_le_mul (Nat.mul_le_mul l2 l2) (show nA α - 1 ≤ 5 by omega)
    have go := m_knowsL w H t1 n1 x1 c (f + 1) (by omega) k1
    rw [cntP, Int.natCast_add] at go
    refine bX11_knows_18 (m_formsAll hL H ⟨_, rfl, ⟨by omega, by omega⟩, ⟨by omega, by omega⟩, fun q => by omega, fun _ => m_fitsForm (d := d) w H t1 n1 x1 (f := f) (by omega) (by omega) ⟨_, rfl, fun q => ?_, fun q => ?_⟩⟩)
    · rw [q] at go; exact go
    · rw [q] at go; exact go
theorem m_knows {a0 a1 a2 : Int} (w : WF k α) (H : RepM b α τ) (h0 : inR a0) (h1 : inR a1) (h2 : inR a2) (k1 : Q (some (vI (knowsR α a0 a1 a2))) τ) : M0 E (d + 3) qX11_knows [vR 140, vI a0, vI a1, vI a2] τ Q := by
  unfold knowsR at k1
  refine mX11_knows (m_canHear (d := d) w H h0 h1 h2 (fun v v1 v2 => ⟨_, rfl, fun q => ?_, fun q => ?_⟩))
  · unfold canR at v1
    have z := v1 q
    rw [if_pos z] at k1
    obtain ⟨z1, z2, z3, z4⟩ := z
    have l := m_knowsL (E := E) (d := d) (Q := Q) w H (t := a0.toNat) (n := a1.toNat) (x := a2.toNat) (by omega) (by omega) (by omega) (fmN α) 0 (by omega) k1
    rw [show ((a0.toNat : Nat) : Int) = a0 by omega, show ((a1.toNat : Nat) : Int) = a1 by omega, show ((a2.toNat : Nat) : Int) = a2 by omega] at l
    exact l
  · unfold canR at v2
    rw [if_neg (v2 q)] at k1; exact k1
theorem m_rightL {t n x : Nat} (w : WF k α) (H : RepM b α τ) (t1 : (t : Int) < α 0 5) (n1 : n + x < 1000) (x1 : 1 ≤ x) : ∀ (c f : Nat), f + c = fmN α → (Q (some (vI (if fsA (fun f => fitB α t n f (x - 1)) c f = -1 then -1 else bI (stB α t (fsA (fun f => fitB α t n f (x - 1)) c f).toNat (n + x - 1))))) τ) → V0 E (d + 3) qX11_right 33 [some (vR 140), none, none, some (vI (x : Int)), some (vI ((1000 * t + n : Nat) : Int)), some (vI (f : Int))] [] τ Q
  | 0, f, hf, k1 => by
    have hL := w.tune t1
    have fb : fmN α ≤ 125 := by
      obtain ⟨⟨l1, l2, l3⟩, n1, n2, n3⟩ := nl_c hL
      exact Nat.mul_le_mul (Nat.mul_le_mul l2 l2) (show nA α - 1 ≤ 5 by omega)
    exact bX11_right_33 (m_formsAll hL H ⟨_, rfl, ⟨by omega, by omega⟩, ⟨by omega, by omega⟩, fun _ => k1, fun q => by omega⟩)
  | c + 1, f, hf, k1 => by
    have hL := w.tune t1
    have fb : fmN α ≤ 125 := by
      obtain ⟨⟨l1, l2, l3⟩, n1, n2, n3⟩ := nl_c hL
      exact Nat.mul_le_mul (Nat.mul_le_mul l2 l2) (show nA α - 1 ≤ 5 by omega)
    have tu : α 0 5 ≤ 3 := by have := w.2.1.1; omega
    refine bX11_right_33 (m_formsAll hL H ⟨_, rfl, ⟨by omega, by omega⟩, ⟨by omega, by omega⟩, fun q => by omega, fun _ => m_fitsForm (d := d) w H t1 (show n + x ≤ 1000 by omega) x1 (f := f) (by omega) rfl ⟨_, rfl, fun q => ?_, fun q => ?_⟩⟩)
    · have e : fsA (fun f => fitB α t n f (x - 1)) (c + 1) f = fsA (fun f => fitB α t n f (x - 1)) c (f + 1) := by
        rw [fsA]; exact if_neg (by show ¬ fitB α t n f (x - 1) = true; rw [q]; decide)
      rw [e] at k1
      rw [show (f : Int) + 1 = ((f + 1 : Nat) : Int) by omega]
      exact m_rightL w H t1 n1 x1 c (f + 1) (by omega) k1
    · have e : fsA (fun f => fitB α t n f (x - 1)) (c + 1) f = (f : Int) := by
        rw [fsA]; exact if_pos q
      have r := fn_r (f := f) w t1 (show n + x - 1 < 1000 by omega)
      have st := fn_st (f := f) w t1 (show n + x - 1 < 999 by omega)
      have hn : τ 178 (((1000 * t + n : Nat) : Int) + (x : Int)).toNat = α 23 (1000 * t + (n + x - 1 + 1)) := by
        rw [show (((1000 * t + n : Nat) : Int) + (x : Int)).toNat = 1000 * t + (n + x - 1 + 1) by omega]
        exact (H.2.2.2.2.2.2.2.2.1 t (n + x - 1 + 1) t1 (by omega)).2.2
      rw [e, if_neg (by omega), Int.toNat_natCast, st] at k1
      refine m_formA hL H (by omega) ⟨_, rfl, m_formB hL H (by omega) ⟨_, rfl, m_formC hL H (by omega) ⟨_, rfl, m_formed w H t1 (m := n + x - 1) (by omega) (by omega) (by omega) ⟨_, rfl, by omega, by omega, ⟨by omega, by omega⟩, fun z => ?_, fun z => ?_⟩⟩⟩⟩
      · rw [hn] at z; rw [decide_eq_false z] at k1; exact k1
      · rw [hn] at z; rw [decide_eq_true z] at k1; exact k1
theorem m_right {a0 a1 a2 : Int} (w : WF k α) (H : RepM b α τ) (h0 : inR a0) (h1 : inR a1) (h2 : inR a2) (k1 : Q (some (vI (rightR α a0 a1 a2))) τ) : M0 E (d + 3) qX11_right [vR 140, vI a0, vI a1, vI a2] τ Q := by
  unfold rightR at k1
  refine mX11_right (m_canHear (d := d) w H h0 h1 h2 (fun v v1 v2 => ⟨_, rfl, fun q => ?_, fun q => ?_⟩))
  · rw [if_neg (fun z => v2 q z.1)] at k1; exact k1
  · have z := v1 q
    obtain ⟨z1, z2, z3, z4⟩ := id z
    refine ⟨⟨by omega, by omega⟩, fun y => ?_, fun y => ?_⟩
    · rw [if_pos ⟨z, y⟩] at k1
      have l := m_rightL (E := E) (d := d) (Q := Q) w H (t := a0.toNat) (n := a1.toNat) (x := a2.toNat) (by omega) (by omega) (by omega) (fmN α) 0 (by omega) k1
      rw [show ((1000 * a0.toNat + a1.toNat : Nat) : Int) = 1000 * a0 + a1 by omega, show ((a2.toNat : Nat) : Int) = a2 by omega] at l
      exact l
    · rw [if_neg (fun z => y z.2)] at k1; exact k1
/-- what the reference's isSure carries: nothing yet, or the one number of all forms that fit -/
def suI (α : mm_Mem) (t n x f : Nat) (v : Int) : Prop := (v = -1 ∧ ∀ g, g < f → fitB α t n g (x - 1) = false) ∨ (0 ≤ v ∧ v ≤ 7775 ∧ (∃ g, g < f ∧ fitB α t n g (x - 1) = true ∧ fnA α t (n + x - 1) g = v) ∧ ∀ g, g < f → fitB α t n g (x - 1) = true → fnA α t (n + x - 1) g = v)
theorem m_isSureL {t n x : Nat} (w : WF k α) (H : RepM b α τ) (t1 : (t : Int) < α 0 5) (n1 : n + x ≤ 1000) (x1 : 1 ≤ x) (k1 : ∀ v : Bool, (v = true ↔ agP α t n x) → Q (some (vB v)) τ) : ∀ (c f : Nat) (v : Int), f + c = fmN α → suI α t n x f v → V0 E (d + 3) qX11_isSure 5 [some (vR 140), some (vI ((1000 * t + n : Nat) : Int)), some (vI (x : Int)), some (vI v), some (vI (f : Int)), none] [] τ Q
  | 0, f, v, hf, I => by
    have hL := w.tune t1
    have fb : fmN α ≤ 125 := by
      obtain ⟨⟨l1, l2, l3⟩, n1, n2, n3⟩ := nl_c hL
      exact Nat.mul_le_mul (Nat.mul_le_mul l2 l2) (show nA α - 1 ≤ 5 by omega)
    have e : f = fmN α := by omega
    subst e
    refine bX11_isSure_5 (m_formsAll hL H ⟨_, rfl, ⟨by omega, by omega⟩, ⟨by omega, by omega⟩, fun _ => ?_, fun q => by omega⟩)
    rcases I with ⟨i1, i2⟩ | ⟨i1, i2, ⟨g, g1, g2, g3⟩, i4⟩
    · refine ⟨⟨by omega, by omega⟩, fun _ => k1 false ⟨fun q => (by cases q), fun q => ?_⟩, fun q => absurd i1 q⟩
      obtain ⟨⟨g, g1, g2⟩, -⟩ := q
      rw [i2 g g1] at g2; cases g2
    · refine ⟨⟨by omega, by omega⟩, fun q => by omega, fun _ => k1 true ⟨fun _ => ⟨⟨g, g1, g2⟩, fun a a' h1 h2 h3 h4 => ?_⟩, fun _ => rfl⟩⟩
      rw [fn_tp w t1 (by omega), i4 a h1 h3, i4 a' h2 h4]
  | c + 1, f, v, hf, I => by
    have hL := w.tune t1
    have fb : fmN α ≤ 125 := by
      obtain ⟨⟨l1, l2, l3⟩, n1, n2, n3⟩ := nl_c hL
      exact Nat.mul_le_mul (Nat.mul_le_mul l2 l2) (show nA α - 1 ≤ 5 by omega)
    have tu : α 0 5 ≤ 3 := by have := w.2.1.1; omega
    have en : (f : Int) + 1 = ((f + 1 : Nat) : Int) := by omega
    have r := fn_r (f := f) w t1 (show n + x - 1 < 1000 by omega)
    have vr : inR v := by rcases I with ⟨i1, i2⟩ | ⟨i1, i2, -⟩ <;> exact ⟨by omega, by omega⟩
    refine bX11_isSure_5 (m_formsAll hL H ⟨_, rfl, ⟨by omega, by omega⟩, ⟨by omega, by omega⟩, fun q => by omega, fun _ => m_fitsForm (d := d) w H t1 n1 x1 (f := f) (by omega) rfl ⟨_, rfl, fun q => ?_, fun q => ?_⟩⟩)
    · refine m_formA hL H (by omega) ⟨_, rfl, m_formB hL H (by omega) ⟨_, rfl, m_formC hL H (by omega) ⟨_, rfl, m_formed w H t1 (m := n + x - 1) (by omega) (by omega) (by omega) ⟨_, rfl, vr, fun z => ?_, fun z => ⟨⟨by omega, by omega⟩, fun y => ?_, fun y => ?_⟩⟩⟩⟩⟩
      · rw [en]
        refine m_isSureL w H t1 n1 x1 k1 c (f + 1) _ (by omega) (Or.inr ⟨r.1, r.2, ⟨f, by omega, q, rfl⟩, fun g h1 h2 => ?_⟩)
        rcases I with ⟨i1, i2⟩ | ⟨i1, -⟩
        · by_cases e : g = f
          · rw [e]
          · rw [i2 g (by omega)] at h2; cases h2
        · omega
      · rw [en]
        refine m_isSureL w H t1 n1 x1 k1 c (f + 1) _ (by omega) (Or.inr ⟨r.1, r.2, ⟨f, by omega, q, rfl⟩, fun g h1 h2 => ?_⟩)
        rcases I with ⟨i1, i2⟩ | ⟨i1, i2, i3, i4⟩
        · exact absurd i1 z
        · by_cases e : g = f
          · rw [e]
          · rw [i4 g (by omega) h2, y]
      · refine k1 false ⟨fun e => (by cases e), fun ag => ?_⟩
        rcases I with ⟨i1, i2⟩ | ⟨i1, i2, ⟨g, g1, g2, g3⟩, i4⟩
        · exact absurd i1 z
        · have := ag.2 f g (by omega) (by omega) q g2
          rw [fn_tp w t1 (by omega), g3] at this
          exact absurd this y
    · rw [en]
      refine m_isSureL w H t1 n1 x1 k1 c (f + 1) v (by omega) ?_
      rcases I with ⟨i1, i2⟩ | ⟨i1, i2, ⟨g, g1, g2, g3⟩, i4⟩
      · refine Or.inl ⟨i1, fun g hg => ?_⟩
        by_cases e : g = f
        · rw [e]; exact q
        · exact i2 g (by omega)
      · refine Or.inr ⟨i1, i2, ⟨g, by omega, g2, g3⟩, fun a ha h2 => ?_⟩
        by_cases e : a = f
        · rw [e, q] at h2; cases h2
        · exact i4 a (by omega) h2
theorem m_sureL {a0 a1 : Int} (w : WF k α) (H : RepM b α τ) (h0 : inR a0) (h1 : inR a1) (k1 : ∀ v, isSure α a0 a1 v → Q (some (vI v)) τ) : ∀ (c x : Nat), x + c = 31 → 2 ≤ x → ((0 ≤ a0 ∧ a0 < α 0 5) ∧ 0 ≤ a1 ∧ a1 < 1000 → ∀ y, 2 ≤ y → y < x → a1.toNat + y ≤ 1000 → ¬ agP α a0.toNat a1.toNat y) → V0 E (d + 4) qX11_sure 2 [some (vR 140), some (vI a0), some (vI a1), some (vI (x : Int))] [] τ Q
  | 0, x, hx, h2, lo => by
    refine bX11_sure_2 ⟨⟨by omega, by omega⟩, fun _ => k1 _ ?_, fun q => by omega⟩
    unfold isSure
    by_cases z : (0 ≤ a0 ∧ a0 < α 0 5) ∧ 0 ≤ a1 ∧ a1 < 1000
    · rw [if_pos z]
      exact Or.inl ⟨rfl, fun y y1 y2 y3 => lo z y y1 (by omega) y3⟩
    · rw [if_neg z]
  | c + 1, x, hx, h2, lo => by
    have en : (x : Int) + 1 = ((x + 1 : Nat) : Int) := by omega
    refine bX11_sure_2 ⟨⟨by omega, by omega⟩, fun q => by omega, fun _ => m_canHear (d := d + 1) w H h0 h1 ⟨by omega, by omega⟩ (fun v v1 v2 => ⟨_, rfl, fun q => ?_, fun q => ?_⟩)⟩
    · rw [en]
      refine m_sureL w H h0 h1 k1 c (x + 1) (by omega) (by omega) (fun z y y1 y2 y3 => ?_)
      by_cases e : y = x
      · exact absurd ⟨z.1, z.2, ⟨by omega, by omega⟩, by omega⟩ (v2 q)
      · exact lo z y y1 (by omega) y3
    · obtain ⟨z1, z2, z3, z4⟩ := v1 q
      rw [show 1000 * a0 + a1 = ((1000 * a0.toNat + a1.toNat : Nat) : Int) by omega]
      refine mX11_isSure (m_isSureL (d := d) (t := a0.toNat) (n := a1.toNat) (x := x) w H (by omega) (by omega) (by omega) (fun u hu => ⟨_, rfl, fun y => ?_, fun y => ?_⟩) (fmN α) 0 (-1) (by omega) (Or.inl ⟨rfl, fun g hg => by omega⟩))
      · rw [en]
        refine m_sureL w H h0 h1 k1 c (x + 1) (by omega) (by omega) (fun z y' y1 y2 y3 => ?_)
        by_cases e : y' = x
        · rw [e]; intro ag; rw [hu.mpr ag] at y; cases y
        · exact lo z y' y1 (by omega) y3
      · refine k1 _ ?_
        unfold isSure
        rw [if_pos ⟨z1, z2⟩]
        exact Or.inr ⟨x, ⟨h2, by omega, by omega⟩, hu.mp y, rfl, fun y' y1 y2 => lo ⟨z1, z2⟩ y' y1 y2 (by omega)⟩
theorem m_sure {a0 a1 : Int} (w : WF k α) (H : RepM b α τ) (h0 : inR a0) (h1 : inR a1) (k1 : ∀ v, isSure α a0 a1 v → Q (some (vI v)) τ) : M0 E (d + 4) qX11_sure [vR 140, vI a0, vI a1] τ Q :=
  mX11_sure (m_sureL w H h0 h1 k1 29 2 (by omega) (by omega) (fun z y y1 y2 => by omega))
end MForms
