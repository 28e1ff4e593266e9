/-! near -/
/-- v is the least of R above 0, or -1 -/
def isL (R : Nat → Prop) (v : Int) : Prop := (v = -1 ∧ ∀ x, 0 < x → ¬ R x) ∨ ∃ x : Nat, 0 < x ∧ R x ∧ v = (x : Int) ∧ ∀ y, 0 < y → R y → x ≤ y
theorem isL_u {R : Nat → Prop} {v v' : Int} (h : isL R v) (h' : isL R v') : v = v' := by
  rcases h with ⟨e, n⟩ | ⟨x, a, b, e, m⟩ <;> rcases h' with ⟨e', n'⟩ | ⟨x', a', b', e', m'⟩
  · omega
  · exact absurd b' (n x' a')
  · exact absurd b (n' x a)
  · have := m x' a' b'
    have := m' x a b
    omega
theorem isL_c {R R' : Nat → Prop} {v : Int} (h : isL R v) (e : ∀ x, 0 < x → (R' x ↔ R x)) : isL R' v := by
  rcases h with ⟨a, n⟩ | ⟨x, a, b, c, m⟩
  · exact Or.inl ⟨a, fun x hx q => n x hx ((e x hx).mp q)⟩
  · exact Or.inr ⟨x, a, (e x a).mpr b, c, fun y hy q => m y hy ((e y hy).mp q)⟩
def mnA (v r : Int) : Int := if r = -1 then v else if v = -1 then r else if v ≤ r then v else r
theorem isL_un {R R1 R' : Nat → Prop} {v r : Int} (h : isL R v) (h1 : isL R1 r) (e : ∀ x, 0 < x → (R' x ↔ R x ∨ R1 x)) : isL R' (mnA v r) := by
  unfold mnA
  rcases h1 with ⟨a1, n1⟩ | ⟨x1, a1, b1, c1, m1⟩
  · rw [if_pos a1]
    exact isL_c h (fun x hx => by rw [e x hx]; exact ⟨fun q => q.resolve_right (n1 x hx), Or.inl⟩)
  · rw [if_neg (by omega)]
    rcases h with ⟨a, n⟩ | ⟨x, a, b, c, m⟩
    · rw [if_pos a]
      exact Or.inr ⟨x1, a1, (e x1 a1).mpr (Or.inr b1), c1, fun y hy q => m1 y hy (((e y hy).mp q).resolve_left (n y hy))⟩
    · rw [if_neg (by omega)]
      by_cases z : v ≤ r
      · rw [if_pos z]
        refine Or.inr ⟨x, a, (e x a).mpr (Or.inl b), c, fun y hy q => ?_⟩
        rcases (e y hy).mp q with q | q
        · exact m y hy q
        · have := m1 y hy q; omega
      · rw [if_neg z]
        refine Or.inr ⟨x1, a1, (e x1 a1).mpr (Or.inr b1), c1, fun y hy q => ?_⟩
        rcases (e y hy).mp q with q | q
        · have := m y hy q; omega
        · exact m1 y hy q
theorem isL_one {x : Nat} : isL (fun y => y = x) (if x = 0 then -1 else (x : Int)) := by
  by_cases z : x = 0
  · rw [if_pos z]; exact Or.inl ⟨rfl, fun y hy q => by omega⟩
  · rw [if_neg z]; exact Or.inr ⟨x, by omega, rfl, rfl, fun y _ q => by omega⟩
theorem isL_no : isL (fun _ => False) (-1) := Or.inl ⟨rfl, fun _ _ q => q⟩
theorem isL_r {R : Nat → Prop} {v : Int} (h : isL R v) (hb : ∀ x, R x → x ≤ 5) : v = -1 ∨ (1 ≤ v ∧ v ≤ 5) := by
  rcases h with ⟨a, -⟩ | ⟨x, a, b, c, -⟩
  · exact Or.inl a
  · have := hb x b; omega
def winP (α : mm_Mem) (dd t n : Nat) : Prop := t < 3 ∧ earA α dd t = true ∧ n < 1000 ∧ α 15 (3 * dd + t) ≤ (n : Int) ∧ (n : Int) ≤ α 15 (3 * dd + t) + α 6 dd
def nrP (α : mm_Mem) (dd x : Nat) : Prop := ∃ t n t' n' : Nat, winP α dd t n ∧ winP α dd t' n' ∧ tp_df (wpA α t n) (wpA α t' n') = x
def isNear (α : mm_Mem) (x v : Int) : Prop := if 0 ≤ x ∧ x < α 0 6 then isL (nrP α x.toNat) v else v = -1
theorem isNear_u {α : mm_Mem} {x v v' : Int} (h : isNear α x v) (h' : isNear α x v') : v = v' := by
  unfold isNear at h h'
  by_cases z : 0 ≤ x ∧ x < α 0 6
  · rw [if_pos z] at h h'; exact isL_u h h'
  · rw [if_neg z] at h h'; omega
theorem tp_df_sym (f g : Nat → Nat) : tp_df f g = tp_df g f := by
  have z : ∀ a c : Nat, ze (a != c) = ze (c != a) := fun a c => by rw [ze_ne, ze_ne]; by_cases h : a = c; simp [h]; simp [h, Ne.symm h]
  unfold tp_df
  rw [z (f 0), z (f 1), z (f 2), z (f 3), z (f 4)]
section MNear
variable {E : mm_Env} {d k h b : Nat} {α τ : mm_Mem} {Q : mm_Q0}
theorem noear {dd : Nat} {t : Nat} (w : WF k α) (h : α 0 5 ≤ (t : Int)) : earA α dd (t : Int) = false := by
  by_cases z : earA α dd (t : Int) = true
  · have := earA_lt w z; omega
  · exact Bool.eq_false_iff.mpr z
/-- one ear of nearest -/
theorem m_nst36 {dd t : Nat} {f : Nat → Nat} (w : WF k α) (H : RepM b α τ) (d1 : (dd : Int) < α 0 6) (t3 : t < 3) (hm : mH α f τ) (hf : fvA α f) : ∀ (c n : Nat) (v : Int) (R : Nat → Prop), (min (α 15 (3 * dd + t) + α 6 dd) 999 + 1 - n).toNat = c → n ≤ 2000 → α 15 (3 * dd + t) ≤ (n : Int) → isL R v → (∀ x, R x → x ≤ 5) → (∀ v' R', isL R' v' → (∀ x, R' x → x ≤ 5) → (∀ x, R' x ↔ R x ∨ ∃ m : Nat, n ≤ m ∧ winP α dd t m ∧ tp_df (wpA α t m) f = x) → V0 E (d + 2) qX11_nearest 5 [some (vR 140), some (vI (dd : Int)), some (vI (α 6 dd)), some (vI v'), some (vI ((t : Int) + 1)), none, none, none] [] τ Q) → V0 E (d + 2) qX11_nearest 36 [some (vR 140), some (vI (dd : Int)), some (vI (α 6 dd)), some (vI v), some (vI (t : Int)), some (vI (α 15 (3 * dd + t))), some (vI (n : Int)), none] [] τ Q
  | 0, n, v, R, hc, hn, hn2, hR, hb, k1 => by
    have hw := w.le
    have wd := w.2.2.1 dd d1
    have we := w.2.2.2.2.1 (3 * dd + t)
    have out : V0 E (d + 2) qX11_nearest 5 [some (vR 140), some (vI (dd : Int)), some (vI (α 6 dd)), some (vI v), some (vI ((t : Int) + 1)), none, none, none] [] τ Q := by
      refine k1 v R hR hb (fun x => ⟨Or.inl, fun z => ?_⟩)
      rcases z with z | ⟨m, a1, a2, -⟩
      · exact z
      · obtain ⟨-, -, b1, b2, b3⟩ := a2; omega
    refine bX11_nearest_36 (m_isEar w H ⟨by omega, by omega⟩ ⟨by omega, by omega⟩ ⟨_, rfl, fun _ => out, fun _ => ⟨⟨by omega, by omega⟩, ⟨by omega, by omega⟩, fun _ => out, fun q => ⟨fun _ => out, fun q2 => by omega⟩⟩⟩)
  | c + 1, n, v, R, hc, hn, hn2, hR, hb, k1 => by
    have hw := w.le
    have wd := w.2.2.1 dd d1
    have we := w.2.2.2.2.1 (3 * dd + t)
    have en : ((n : Int) + 1) = ((n + 1 : Nat) : Int) := by omega
    have vr := isL_r hR hb
    refine bX11_nearest_36 (m_isEar w H ⟨by omega, by omega⟩ ⟨by omega, by omega⟩ ⟨_, rfl, fun q => ?_, fun q => ⟨⟨by omega, by omega⟩, ⟨by omega, by omega⟩, fun z => by omega, fun z => ⟨fun z2 => by omega, fun _ => ?_⟩⟩⟩)
    · refine k1 v R hR hb (fun x => ⟨Or.inl, fun z => ?_⟩)
      rcases z with z | ⟨m, a1, a2, -⟩
      · exact z
      · have := a2.2.1; rw [q] at this; cases this
    · have t1 := (earA_lt w q).2.1
      have wn : winP α dd t n := ⟨t3, q, by omega, hn2, by omega⟩
      refine m_unlike w H hm hf (by omega) t1 (by omega) (by omega) ⟨_, rfl, ?_⟩
      rw [Int.toNat_natCast, Int.toNat_natCast]
      have l5 := tp_df_le (wpA α t n) f
      have nx : ∀ v', v' = mnA v (if tp_df (wpA α t n) f = 0 then -1 else ((tp_df (wpA α t n) f : Nat) : Int)) → V0 E (d + 2) qX11_nearest 36 [some (vR 140), some (vI (dd : Int)), some (vI (α 6 dd)), some (vI v'), some (vI (t : Int)), some (vI (α 15 (3 * dd + t))), some (vI ((n : Int) + 1)), none] [] τ Q := by
        intro v' hv
        rw [en]
        have iu := isL_un hR (isL_one (x := tp_df (wpA α t n) f)) (R' := fun x => R x ∨ x = tp_df (wpA α t n) f) (fun x _ => Iff.rfl)
        rw [← hv] at iu
        refine m_nst36 w H d1 t3 hm hf c (n + 1) v' _ (by omega) (by omega) (by omega) iu (fun x z => ?_) (fun v2 R2 hR2 hb2 e2 => k1 v2 R2 hR2 hb2 (fun x => ?_))
        · rcases z with z | z
          · exact hb x z
          · omega
        · rw [e2 x]
          constructor
          · rintro ((z | z) | ⟨m, a1, a2, a3⟩)
            · exact Or.inl z
            · exact Or.inr ⟨n, by omega, wn, z.symm⟩
            · exact Or.inr ⟨m, by omega, a2, a3⟩
          · rintro (z | ⟨m, a1, a2, a3⟩)
            · exact Or.inl (Or.inl z)
            · by_cases e : m = n
              · subst e; exact Or.inl (Or.inr a3.symm)
              · exact Or.inr ⟨m, by omega, a2, a3⟩
      refine ⟨⟨by omega, by omega⟩, fun z => nx v ?_, fun z => ⟨⟨by omega, by omega⟩, fun z2 => nx _ ?_, fun z2 => ⟨fun z3 => nx v ?_, fun z3 => nx _ ?_⟩⟩⟩
      · unfold mnA; rw [if_pos (show tp_df (wpA α t n) f = 0 by omega), if_pos rfl]
      · unfold mnA; rw [if_neg (show ¬ tp_df (wpA α t n) f = 0 by omega), if_neg (by omega), if_pos z2]
      · unfold mnA; rw [if_neg (show ¬ tp_df (wpA α t n) f = 0 by omega), if_neg (by omega), if_neg z2, if_pos z3]
      · unfold mnA; rw [if_neg (show ¬ tp_df (wpA α t n) f = 0 by omega), if_neg (by omega), if_neg z2, if_neg z3]
theorem m_nst5 {dd : Nat} {f : Nat → Nat} (w : WF k α) (H : RepM b α τ) (d1 : (dd : Int) < α 0 6) (hm : mH α f τ) (hf : fvA α f) (k1 : ∀ v, isL (fun x => ∃ t m : Nat, winP α dd t m ∧ tp_df (wpA α t m) f = x) v → Q (some (vI v)) τ) : ∀ (c t : Nat) (v : Int) (R : Nat → Prop), t + c = 3 → isL R v → (∀ x, R x → x ≤ 5) → (∀ x, R x ↔ ∃ t' m : Nat, t' < t ∧ winP α dd t' m ∧ tp_df (wpA α t' m) f = x) → V0 E (d + 2) qX11_nearest 5 [some (vR 140), some (vI (dd : Int)), some (vI (α 6 dd)), some (vI v), some (vI (t : Int)), none, none, none] [] τ Q := by
  have hw := w.le
  obtain ⟨b1, b2, b3⟩ := H.bk
  have h5 := H.hs.2.2.1
  have fin : ∀ (t : Nat) (v : Int) (R : Nat → Prop), isL R v → (∀ x, R x ↔ ∃ t' m : Nat, t' < t ∧ winP α dd t' m ∧ tp_df (wpA α t' m) f = x) → (α 0 5 ≤ (t : Int)) → Q (some (vI v)) τ := by
    intro t v R hR hx ht
    refine k1 v (isL_c hR (fun x _ => ?_))
    rw [hx x]
    constructor
    · rintro ⟨t', m, a2, a3⟩
      refine ⟨t', m, ?_, a2, a3⟩
      have := (earA_lt w a2.2.1).2.1
      omega
    · rintro ⟨t', m, a1, a2, a3⟩; exact ⟨t', m, a2, a3⟩
  intro c
  induction c with
  | zero =>
    intro t v R ht hR hb hx
    exact bX11_nearest_5 ⟨by omega, by omega, ⟨by omega, by omega⟩, fun q => fin t v R hR hx (by rw [b3, h5] at q; exact q), fun q => by rw [b3, h5] at q; omega⟩
  | succ c ih =>
    intro t v R ht hR hb hx
    have en : ((t : Int) + 1) = ((t + 1 : Nat) : Int) := by omega
    have we := w.2.2.2.2.1 (3 * dd + t)
    have e3 : (3 * (dd : Int) + (t : Int)) = ((3 * dd + t : Nat) : Int) := by omega
    refine bX11_nearest_5 ⟨by omega, by omega, ⟨by omega, by omega⟩, fun q => fin t v R hR hx (by rw [b3, h5] at q; exact q), fun q => ⟨by omega, by omega, ?_⟩⟩
    obtain ⟨g1, -, -⟩ := H.ear (e := ((3 * dd + t : Nat) : Int)) (by omega) (by omega)
    rw [Int.toNat_natCast] at g1
    rw [e3, Int.toNat_natCast, g1]
    have l := m_nst36 (E := E) (d := d) (b := b) (Q := Q) (dd := dd) (t := t) w H d1 (by omega) hm hf (min (α 15 (3 * dd + t) + α 6 dd) 999 + 1 - (((α 15 (3 * dd + t)).toNat : Nat) : Int)).toNat (α 15 (3 * dd + t)).toNat v R rfl (by omega) (by omega) hR hb (fun v' R' hR' hb' e' => ?_)
    · rw [show (((α 15 (3 * dd + t)).toNat : Nat) : Int) = α 15 (3 * dd + t) by omega] at l
      exact l
    · rw [en]
      refine ih (t + 1) v' R' (by omega) hR' hb' (fun x => ?_)
      rw [e' x, hx x]
      constructor
      · rintro (⟨t', m, a1, a2, a3⟩ | ⟨m, a1, a2, a3⟩)
        · exact ⟨t', m, by omega, a2, a3⟩
        · exact ⟨t, m, by omega, a2, a3⟩
      · rintro ⟨t', m, a1, a2, a3⟩
        by_cases e : t' = t
        · subst e
          have := a2.2.2.2.1
          exact Or.inr ⟨m, by omega, a2, a3⟩
        · exact Or.inl ⟨t', m, by omega, a2, a3⟩
theorem m_nearest {dd : Nat} {f : Nat → Nat} (w : WF k α) (H : RepM b α τ) (d1 : (dd : Int) < α 0 6) (hm : mH α f τ) (hf : fvA α f) (k1 : ∀ v, isL (fun x => ∃ t m : Nat, winP α dd t m ∧ tp_df (wpA α t m) f = x) v → Q (some (vI v)) τ) : M0 E (d + 2) qX11_nearest [vR 140, vI (dd : Int), vI (α 6 dd)] τ Q :=
  mX11_nearest (m_nst5 w H d1 hm hf k1 3 0 (-1) (fun _ => False) rfl isL_no (fun _ z => absurd z id) (fun x => ⟨fun z => absurd z id, fun ⟨_, _, a, _⟩ => absurd a (Nat.not_lt_zero _)⟩))
/-- whom the first of a pair is near to -/
def nr1 (α : mm_Mem) (dd t n x : Nat) : Prop := ∃ t' m : Nat, winP α dd t' m ∧ tp_df (wpA α t' m) (wpA α t n) = x
theorem m_near53 {dd t : Nat} (w : WF k α) (d1 : (dd : Int) < α 0 6) (t3 : t < 3) : ∀ (c n : Nat) (v : Int) (R : Nat → Prop) (τ : mm_Mem), (min (α 15 (3 * dd + t) + α 6 dd) 999 + 1 - n).toNat = c → n ≤ 2000 → α 15 (3 * dd + t) ≤ (n : Int) → RepM b α τ → isL R v → (∀ x, R x → x ≤ 5) → (∀ v' R' τ', RepM b α τ' → FrM τ τ' → isL R' v' → (∀ x, R' x → x ≤ 5) → (∀ x, R' x ↔ R x ∨ ∃ m : Nat, n ≤ m ∧ winP α dd t m ∧ nr1 α dd t m x) → V0 E (d + 3) qX11_near 26 [some (vR 140), some (vI (dd : Int)), some (vI (α 6 dd)), some (vI v'), some (vI ((t : Int) + 1)), none, none] [] τ' Q) → V0 E (d + 3) qX11_near 53 [some (vR 140), some (vI (dd : Int)), some (vI (α 6 dd)), some (vI v), some (vI (t : Int)), some (vI (n : Int)), none] [] τ Q
  | 0, n, v, R, τ, hc, hn, hn2, H, hR, hb, k1 => by
    have hw := w.le
    have wd := w.2.2.1 dd d1
    have we := w.2.2.2.2.1 (3 * dd + t)
    have e3 : (3 * (dd : Int) + (t : Int)) = ((3 * dd + t : Nat) : Int) := by omega
    obtain ⟨g1, -, -⟩ := H.ear (e := ((3 * dd + t : Nat) : Int)) (by omega) (by omega)
    rw [Int.toNat_natCast] at g1
    have out : V0 E (d + 3) qX11_near 26 [some (vR 140), some (vI (dd : Int)), some (vI (α 6 dd)), some (vI v), some (vI ((t : Int) + 1)), none, none] [] τ Q := by
      refine k1 v R τ H FrM.rf hR hb (fun x => ⟨Or.inl, fun z => ?_⟩)
      rcases z with z | ⟨m, a1, a2, -⟩
      · exact z
      · obtain ⟨-, -, b1, b2, b3⟩ := a2; omega
    refine bX11_near_53 (m_isEar w H ⟨by omega, by omega⟩ ⟨by omega, by omega⟩ ⟨_, rfl, fun _ => out, fun _ => ⟨by omega, by omega, ⟨by omega, by omega⟩, ?_⟩⟩)
    rw [e3, Int.toNat_natCast, g1]
    exact ⟨⟨by omega, by omega⟩, fun _ => out, fun q => ⟨fun _ => out, fun q2 => by omega⟩⟩
  | c + 1, n, v, R, τ, hc, hn, hn2, H, hR, hb, k1 => by
    have hw := w.le
    have wd := w.2.2.1 dd d1
    have we := w.2.2.2.2.1 (3 * dd + t)
    have e3 : (3 * (dd : Int) + (t : Int)) = ((3 * dd + t : Nat) : Int) := by omega
    obtain ⟨g1, -, -⟩ := H.ear (e := ((3 * dd + t : Nat) : Int)) (by omega) (by omega)
    rw [Int.toNat_natCast] at g1
    have en : ((n : Int) + 1) = ((n + 1 : Nat) : Int) := by omega
    have vr := isL_r hR hb
    refine bX11_near_53 (m_isEar w H ⟨by omega, by omega⟩ ⟨by omega, by omega⟩ ⟨_, rfl, fun q => ?_, fun q => ⟨by omega, by omega, ⟨by omega, by omega⟩, ?_⟩⟩)
    · refine k1 v R τ H FrM.rf hR hb (fun x => ⟨Or.inl, fun z => ?_⟩)
      rcases z with z | ⟨m, a1, a2, -⟩
      · exact z
      · have := a2.2.1; rw [q] at this; cases this
    · rw [e3, Int.toNat_natCast, g1]
      have t1 := (earA_lt w q).2.1
      have wn : winP α dd t n := ⟨t3, q, by omega, hn2, by omega⟩
      refine ⟨⟨by omega, by omega⟩, fun z => by omega, fun z => ⟨fun z2 => by omega, fun _ => ?_⟩⟩
      refine m_whistles w H (by omega) t1 (by omega) (by omega) (fun τ1 F1 G1 M1 H1 => ⟨rfl, ?_⟩)
      rw [Int.toNat_natCast, Int.toNat_natCast] at M1
      have fv := fv_wp w (t := t) (n := n) t1 (by omega)
      refine m_nearest w H1 d1 M1 fv (fun r hr => ?_)
      have hb1 : ∀ x, nr1 α dd t n x → x ≤ 5 := fun x ⟨t', m, _, e⟩ => by have := tp_df_le (wpA α t' m) (wpA α t n); omega
      have rr := isL_r hr hb1
      have FF : FrM τ τ1 := fun o ho => F1 o (by omega) (by omega)
      have nx : ∀ v', v' = mnA v r → V0 E (d + 3) qX11_near 53 [some (vR 140), some (vI (dd : Int)), some (vI (α 6 dd)), some (vI v'), some (vI (t : Int)), some (vI ((n : Int) + 1)), none] [] τ1 Q := by
        intro v' hv
        rw [en]
        have iu := isL_un hR hr (R' := fun x => R x ∨ nr1 α dd t n x) (fun x _ => Iff.rfl)
        rw [← hv] at iu
        refine m_near53 w d1 t3 c (n + 1) v' _ τ1 (by omega) (by omega) (by omega) H1 iu (fun x z => ?_) (fun v2 R2 τ2 H2 F2 hR2 hb2 e2 => k1 v2 R2 τ2 H2 (FF.tr F2) hR2 hb2 (fun x => ?_))
        · rcases z with z | z
          · exact hb x z
          · exact hb1 x z
        · rw [e2 x]
          constructor
          · rintro ((z | z) | ⟨m, a1, a2, a3⟩)
            · exact Or.inl z
            · exact Or.inr ⟨n, by omega, wn, z⟩
            · exact Or.inr ⟨m, by omega, a2, a3⟩
          · rintro (z | ⟨m, a1, a2, a3⟩)
            · exact Or.inl (Or.inl z)
            · by_cases e : m = n
              · subst e; exact Or.inl (Or.inr a3)
              · exact Or.inr ⟨m, by omega, a2, a3⟩
      refine ⟨_, rfl, ⟨by omega, by omega⟩, fun z => nx v ?_, fun z => ⟨⟨by omega, by omega⟩, fun z2 => nx _ ?_, fun z2 => ⟨fun z3 => nx v ?_, fun z3 => nx _ ?_⟩⟩⟩
      · unfold mnA; rw [if_pos z]
      · unfold mnA; rw [if_neg z, if_pos z2]
      · unfold mnA; rw [if_neg z, if_neg z2, if_pos z3]
      · unfold mnA; rw [if_neg z, if_neg z2, if_neg z3]
theorem m_near26 {dd : Nat} (w : WF k α) (d1 : (dd : Int) < α 0 6) : ∀ (c t : Nat) (v : Int) (R : Nat → Prop) (τ : mm_Mem), t + c = 3 → RepM b α τ → isL R v → (∀ x, R x → x ≤ 5) → (∀ x, R x ↔ ∃ t' m : Nat, t' < t ∧ winP α dd t' m ∧ nr1 α dd t' m x) → (∀ v τ', RepM b α τ' → FrM τ τ' → isL (nrP α dd) v → Q (some (vI v)) τ') → V0 E (d + 3) qX11_near 26 [some (vR 140), some (vI (dd : Int)), some (vI (α 6 dd)), some (vI v), some (vI (t : Int)), none, none] [] τ Q := by
  have hw := w.le
  have fin : ∀ (t : Nat) (v : Int) (R : Nat → Prop), isL R v → (∀ x, R x ↔ ∃ t' m : Nat, t' < t ∧ winP α dd t' m ∧ nr1 α dd t' m x) → (α 0 5 ≤ (t : Int)) → isL (nrP α dd) v := by
    intro t v R hR hx ht
    refine isL_c hR (fun x _ => ?_)
    rw [hx x]
    constructor
    · rintro ⟨t', m, t2, m2, a2, a3, a4⟩
      refine ⟨t2, m2, ?_, a3, t', m, a2, a4⟩
      have := (earA_lt w a3.2.1).2.1
      omega
    · rintro ⟨t', m, a1, a2, t2, m2, a3, a4⟩; exact ⟨t2, m2, t', m, a3, a2, a4⟩
  intro c
  induction c with
  | zero =>
    intro t v R τ ht H hR hb hx k1
    obtain ⟨b1, b2, b3⟩ := H.bk
    have h5 := H.hs.2.2.1
    exact bX11_near_26 ⟨by omega, by omega, ⟨by omega, by omega⟩, fun q => k1 v τ H FrM.rf (fin t v R hR hx (by rw [b3, h5] at q; exact q)), fun q => by rw [b3, h5] at q; omega⟩
  | succ c ih =>
    intro t v R τ ht H hR hb hx k1
    obtain ⟨b1, b2, b3⟩ := H.bk
    have h5 := H.hs.2.2.1
    have en : ((t : Int) + 1) = ((t + 1 : Nat) : Int) := by omega
    have we := w.2.2.2.2.1 (3 * dd + t)
    have e3 : (3 * (dd : Int) + (t : Int)) = ((3 * dd + t : Nat) : Int) := by omega
    refine bX11_near_26 ⟨by omega, by omega, ⟨by omega, by omega⟩, fun q => k1 v τ H FrM.rf (fin t v R hR hx (by rw [b3, h5] at q; exact q)), fun q => ⟨by omega, by omega, ?_⟩⟩
    obtain ⟨g1, -, -⟩ := H.ear (e := ((3 * dd + t : Nat) : Int)) (by omega) (by omega)
    rw [Int.toNat_natCast] at g1
    rw [e3, Int.toNat_natCast, g1]
    have l := m_near53 (E := E) (d := d) (b := b) (Q := Q) (dd := dd) (t := t) w d1 (by omega) (min (α 15 (3 * dd + t) + α 6 dd) 999 + 1 - (((α 15 (3 * dd + t)).toNat : Nat) : Int)).toNat (α 15 (3 * dd + t)).toNat v R τ rfl (by omega) (by omega) H hR hb (fun v' R' τ' H' F' hR' hb' e' => ?_)
    · rw [show (((α 15 (3 * dd + t)).toNat : Nat) : Int) = α 15 (3 * dd + t) by omega] at l
      exact l
    · rw [en]
      refine ih (t + 1) v' R' τ' (by omega) H' hR' hb' (fun x => ?_) (fun v2 τ2 H2 F2 h2 => k1 v2 τ2 H2 (F'.tr F2) h2)
      rw [e' x, hx x]
      constructor
      · rintro (⟨t', m, a1, a2, a3⟩ | ⟨m, a1, a2, a3⟩)
        · exact ⟨t', m, by omega, a2, a3⟩
        · exact ⟨t, m, by omega, a2, a3⟩
      · rintro ⟨t', m, a1, a2, a3⟩
        by_cases e : t' = t
        · subst e
          have := a2.2.2.2.1
          exact Or.inr ⟨m, by omega, a2, a3⟩
        · exact Or.inl ⟨t', m, by omega, a2, a3⟩
theorem m_near {a : Int} (w : WF k α) (H : RepM b α τ) (ha : inR a) (k1 : ∀ v τ', RepM b α τ' → FrM τ τ' → isNear α a v → Q (some (vI v)) τ') : M0 E (d + 3) qX11_near [vR 140, vI a] τ Q := by
  unfold isNear at k1
  have hw := w.le
  have hb := H.bk
  refine mX11_near (m_isDoor w H ha ⟨_, rfl, fun q => ?_, fun q => ?_⟩)
  · have q := of_decide_eq_true q
    simp only [if_pos q] at k1
    have g2 := (H.door q.1 q.2).2.1
    refine m_door4 H ⟨_, rfl, by omega, by omega, ?_⟩
    rw [g2]
    have l := m_near26 (E := E) (d := d) (b := b) (Q := Q) (dd := a.toNat) w (by omega) 3 0 (-1) (fun _ => False) τ rfl H isL_no (fun _ z => absurd z id) (fun x => ⟨fun z => absurd z id, fun ⟨_, _, z, _⟩ => absurd z (Nat.not_lt_zero _)⟩) k1
    rw [show ((a.toNat : Nat) : Int) = a by omega] at l
    exact l
  · simp only [if_neg (of_decide_eq_false q)] at k1
    exact k1 _ τ H FrM.rf rfl
end MNear
