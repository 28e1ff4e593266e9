/-! near: the class -/
section CNear
variable {E : mm_Env} {d k h b : Nat} {α τ : mm_Mem} {Q : mm_Q0}
/-- the window's first z tunes, those of P -/
def wdI (α : mm_Mem) (z : Nat) (P : Nat → Nat → Prop) (τ : mm_Mem) : Prop := (∀ i, i < z → ∃ t n, P t n ∧ τ 135 i = (tp (wpA α t n) : Nat)) ∧ ∀ t n, P t n → ∃ i, i < z ∧ τ 135 i = (tp (wpA α t n) : Nat)
theorem c_la36 {dd o t : Nat} (w : WF k α) (d1 : (dd : Int) < α 0 6) (t3 : t < 3) (ho : o + 3 < 133) : ∀ (c n z : Nat) (P : Nat → Nat → Prop) (τ : mm_Mem), (min (α 15 (3 * dd + t) + α 6 dd) 999 + 1 - n).toNat = c → n ≤ 2000 → α 15 (3 * dd + t) ≤ (n : Int) → (z : Int) ≤ 41 * t + (n - α 15 (3 * dd + t)) → (z : Int) ≤ 41 * t + 41 → gW α τ → tS α dd o (eS0 α dd) τ → wdI α z P τ → (∀ (z' : Nat) P' τ', (z' : Int) ≤ 41 * t + 41 → wdI α z' P' τ' → (∀ t' m, P' t' m ↔ P t' m ∨ (t' = t ∧ n ≤ m ∧ winP α dd t m)) → (∀ o, o ≠ 135 → τ' o = τ o) → V0 E (d + 2) qX7_leastApart 4 [some (vR 133), some (vR o), some (vI (z' : Int)), some (vI ((t : Int) + 1)), none, none, none] [] τ' Q) → V0 E (d + 2) qX7_leastApart 36 [some (vR 133), some (vR o), some (vI (z : Int)), some (vI (t : Int)), some (vI (min (α 15 (3 * dd + t) + α 6 dd) 999)), some (vI (n : Int)), none] [] τ Q
  | 0, n, z, P, τ, hc, hn, hn2, hz, hz2, G, T, I, k1 => by
    have wd := w.2.2.1 dd d1
    have we := w.2.2.2.2.1 (3 * dd + t)
    refine bX7_leastApart_36 T.1.1 ⟨⟨by omega, by omega⟩, ⟨by omega, by omega⟩, fun _ => k1 z P τ hz2 I (fun t' m => ⟨Or.inl, fun y => ?_⟩) (fun _ _ => rfl), fun q => by omega⟩
    rcases y with y | ⟨y1, y2, y3⟩
    · exact y
    · obtain ⟨-, -, b1, b2, b3⟩ := y3; omega
  | c + 1, n, z, P, τ, hc, hn, hn2, hz, hz2, G, T, I, k1 => by
    have hw := w.le
    have wd := w.2.2.1 dd d1
    have we := w.2.2.2.2.1 (3 * dd + t)
    have en : ((n : Int) + 1) = ((n + 1 : Nat) : Int) := by omega
    have ez : ((z : Int) + 1) = ((z + 1 : Nat) : Int) := by omega
    have kb := kdD_out T.1.1
    refine bX7_leastApart_36 T.1.1 ⟨⟨by omega, by omega⟩, ⟨by omega, by omega⟩, fun q => by omega, fun _ => c_hasEar T.1.1 T.1.2.2.2.2 ⟨by omega, by omega⟩ ⟨_, rfl, fun q => ?_, fun q => ⟨⟨by omega, by omega⟩, fun y => by omega, fun _ => ?_⟩⟩⟩
    · rw [e3_ear w] at q
      refine k1 z P τ hz2 I (fun t' m => ⟨Or.inl, fun y => ?_⟩) (fun _ _ => rfl)
      rcases y with y | ⟨y1, y2, y3⟩
      · exact y
      · have := y3.2.1; rw [q] at this; cases this
    · rw [e3_ear w] at q
      have t1 := (earA_lt w q).2.1
      have ok := wpA_ok w (t := t) (n := n) t1 (by omega)
      have wn : winP α dd t n := ⟨t3, q, by omega, hn2, by omega⟩
      refine c_tuneAtG w G (by omega) t1 (by omega) (by omega) ⟨_, rfl, by omega, by omega, ?_, ?_⟩
      · rw [Int.toNat_natCast, Int.toNat_natCast]; exact tp_R ok
      · rw [Int.toNat_natCast, Int.toNat_natCast, Int.toNat_natCast, en, ez]
        refine c_la36 w d1 t3 ho c (n + 1) (z + 1) (fun t' m => P t' m ∨ (t' = t ∧ m = n)) _ (by omega) (by omega) (by omega) (by omega) (by omega) (G.keep (fun o _ _ => wr_obj (by omega)) w) (tS_fr T (wr_obj (by omega)) (wr_obj (by omega)) (wr_obj (by omega)) (wr_obj (by omega))) ⟨fun i hi => ?_, fun t' m hP => ?_⟩ (fun z' P' τ' hz' I' e' F' => k1 z' P' τ' hz' I' (fun t' m => ?_) (fun o ho => by rw [F' o ho, wr_obj ho]))
        · by_cases e : i = z
          · subst e; exact ⟨t, n, Or.inr ⟨rfl, rfl⟩, by rw [wr_same]⟩
          · obtain ⟨t', m, a1, a2⟩ := I.1 i (by omega)
            exact ⟨t', m, Or.inl a1, by rw [wr_row e]; exact a2⟩
        · rcases hP with hP | ⟨e1, e2⟩
          · obtain ⟨i, a1, a2⟩ := I.2 t' m hP
            exact ⟨i, by omega, by rw [wr_row (by omega)]; exact a2⟩
          · subst e1 e2; exact ⟨z, by omega, by rw [wr_same]⟩
        · rw [e' t' m]
          constructor
          · rintro ((y | ⟨y1, y2⟩) | ⟨y1, y2, y3⟩)
            · exact Or.inl y
            · subst y1 y2; exact Or.inr ⟨rfl, by omega, wn⟩
            · exact Or.inr ⟨y1, by omega, y3⟩
          · rintro (y | ⟨y1, y2, y3⟩)
            · exact Or.inl (Or.inl y)
            · by_cases e : m = n
              · exact Or.inl (Or.inr ⟨y1, e⟩)
              · exact Or.inr ⟨y1, by omega, y3⟩
theorem c_la4 {dd o : Nat} (w : WF k α) (d1 : (dd : Int) < α 0 6) (ho : o + 3 < 133) : ∀ (c t z : Nat) (P : Nat → Nat → Prop) (τ : mm_Mem), t + c = 3 → (z : Int) ≤ 41 * t → gW α τ → tS α dd o (eS0 α dd) τ → wdI α z P τ → (∀ t' m, P t' m ↔ t' < t ∧ winP α dd t' m) → (∀ (z' : Nat) τ', z' ≤ 123 → wdI α z' (winP α dd) τ' → (∀ o, o ≠ 135 → τ' o = τ o) → V0 E (d + 2) qX7_leastApart 97 [some (vR 133), none, some (vI (z' : Int)), some (vI 6), some (vI 1), none, none] [] τ' Q) → V0 E (d + 2) qX7_leastApart 4 [some (vR 133), some (vR o), some (vI (z : Int)), some (vI (t : Int)), none, none, none] [] τ Q
  | 0, t, z, P, τ, ht, hz, G, T, I, hP, k1 => by
    refine bX7_leastApart_4 T.1.1 ⟨⟨by omega, by omega⟩, fun _ => k1 z τ (by omega) ⟨fun i hi => ?_, fun t' m hw => ?_⟩ (fun _ _ => rfl), fun q => by omega⟩
    · obtain ⟨t', m, a1, a2⟩ := I.1 i hi
      exact ⟨t', m, ((hP t' m).mp a1).2, a2⟩
    · exact I.2 t' m ((hP t' m).mpr ⟨by have := hw.1; omega, hw⟩)
  | c + 1, t, z, P, τ, ht, hz, G, T, I, hP, k1 => by
    have wd := w.2.2.1 dd d1
    have we := w.2.2.2.2.1 (3 * dd + t)
    have en : ((t : Int) + 1) = ((t + 1 : Nat) : Int) := by omega
    have kb := kdD_out T.1.1
    have g2 := T.1.2.2.1
    have ga : τ (o + 1) t = α 15 (3 * dd + t) := (T.2 t (by omega)).1
    refine bX7_leastApart_4 T.1.1 ⟨⟨by omega, by omega⟩, fun q => by omega, fun _ => ⟨by omega, by omega, ?_⟩⟩
    rw [Int.toNat_natCast, ga, g2]
    refine c_min ⟨by omega, by omega⟩ ⟨by decide, by decide⟩ ⟨_, rfl, by omega, by omega, ?_⟩
    rw [ga]
    have l := c_la36 (E := E) (d := d) (Q := Q) (o := o) (dd := dd) (t := t) w d1 (by omega) ho (min (α 15 (3 * dd + t) + α 6 dd) 999 + 1 - (((α 15 (3 * dd + t)).toNat : Nat) : Int)).toNat (α 15 (3 * dd + t)).toNat z P τ rfl (by omega) (by omega) (by omega) (by omega) G T I (fun z' P' τ' hz' I' e' F' => ?_)
    · rw [show (((α 15 (3 * dd + t)).toNat : Nat) : Int) = α 15 (3 * dd + t) by omega] at l
      exact l
    · rw [en]
      refine c_la4 w d1 ho c (t + 1) z' P' τ' (by omega) (by omega) (G.keep (fun o _ _ => F' o (by omega)) w) (tS_fr T (F' _ (by omega)) (F' _ (by omega)) (F' _ (by omega)) (F' _ (by omega))) I' (fun t' m => ?_) (fun z2 τ2 h2 I2 F2 => k1 z2 τ2 h2 I2 (fun o ho => by rw [F2 o ho, F' o ho]))
      rw [e' t' m, hP t' m]
      constructor
      · rintro (⟨a1, a2⟩ | ⟨a1, a2, a3⟩)
        · exact ⟨by omega, a2⟩
        · subst a1; exact ⟨by omega, a3⟩
      · rintro ⟨a1, a2⟩
        by_cases e : t' = t
        · subst e
          have := a2.2.2.2.1
          exact Or.inr ⟨rfl, by omega, a2⟩
        · exact Or.inl ⟨by omega, a2⟩
/-- six for none -/
def lsI (R : Nat → Prop) (v : Int) : Prop := isL R (if v = 6 then -1 else v) ∧ 1 ≤ v ∧ v ≤ 6
theorem c_la111 {z i : Nat} {P : Nat → Nat → Prop} (w : WF k α) (hz : z ≤ 123) (hi : i < z) (hP : ∀ t n, P t n → (t : Int) < α 0 5 ∧ n < 1000) (I : wdI α z P τ) : ∀ (c j : Nat) (v : Int) (R : Nat → Prop), j + c = i → lsI R v → (∀ v' R', lsI R' v' → (∀ x, R' x ↔ R x ∨ ∃ j' t n t' n', j ≤ j' ∧ j' < i ∧ P t n ∧ P t' n' ∧ τ 135 i = (tp (wpA α t n) : Nat) ∧ τ 135 j' = (tp (wpA α t' n') : Nat) ∧ tp_df (wpA α t n) (wpA α t' n') = x) → V0 E (d + 2) qX7_leastApart 97 [some (vR 133), none, some (vI (z : Int)), some (vI v'), some (vI ((i : Int) + 1)), none, none] [] τ Q) → V0 E (d + 2) qX7_leastApart 111 [some (vR 133), none, some (vI (z : Int)), some (vI v), some (vI (i : Int)), some (vI (j : Int)), none] [] τ Q
  | 0, j, v, R, hj, L, k1 => by
    refine bX7_leastApart_111 ⟨⟨by omega, by omega⟩, ⟨by omega, by omega⟩, fun _ => k1 v R L (fun x => ⟨Or.inl, fun y => ?_⟩), fun q => by omega⟩
    rcases y with y | ⟨j', t, n, t', n', a1, a2, -⟩
    · exact y
    · omega
  | c + 1, j, v, R, hj, L, k1 => by
    have en : ((j : Int) + 1) = ((j + 1 : Nat) : Int) := by omega
    obtain ⟨t, n, p1, e1⟩ := I.1 i hi
    obtain ⟨t', n', p2, e2⟩ := I.1 j (by omega)
    have q1 := hP t n p1
    have q2 := hP t' n' p2
    have ok1 := wpA_ok w (t := t) (n := n) q1.1 q1.2
    have ok2 := wpA_ok w (t := t') (n := n') q2.1 q2.2
    refine bX7_leastApart_111 ⟨⟨by omega, by omega⟩, ⟨by omega, by omega⟩, fun q => by omega, fun _ => ⟨by omega, by omega, by omega, by omega, ?_⟩⟩
    rw [Int.toNat_natCast, Int.toNat_natCast, e1, e2]
    have l5 := tp_df_le (wpA α t n) (wpA α t' n')
    obtain ⟨La, Lb, Lc⟩ := L
    have nx : ∀ v', v' = (if tp_df (wpA α t n) (wpA α t' n') = 0 then v else min v (tp_df (wpA α t n) (wpA α t' n') : Nat)) → V0 E (d + 2) qX7_leastApart 111 [some (vR 133), none, some (vI (z : Int)), some (vI v'), some (vI (i : Int)), some (vI ((j : Int) + 1)), none] [] τ Q := by
      intro v' hv
      rw [en]
      have iu := isL_un La (isL_one (x := tp_df (wpA α t n) (wpA α t' n'))) (R' := fun x => R x ∨ x = tp_df (wpA α t n) (wpA α t' n')) (fun x _ => Iff.rfl)
      have lv : lsI (fun x => R x ∨ x = tp_df (wpA α t n) (wpA α t' n')) v' := by
        have em : mnA (if v = 6 then -1 else v) (if tp_df (wpA α t n) (wpA α t' n') = 0 then -1 else ((tp_df (wpA α t n) (wpA α t' n') : Nat) : Int)) = (if v' = 6 then -1 else v') := by
          rw [hv]
          unfold mnA
          by_cases z0 : tp_df (wpA α t n) (wpA α t' n') = 0
          · simp only [if_pos z0]; simp
          · simp only [if_neg z0]
            rw [if_neg (by omega)]
            by_cases z1 : v = 6
            · simp only [if_pos z1]
              simp
              split
              · omega
              · omega
            · simp only [if_neg z1]
              rw [if_neg (by omega)]
              split
              · rw [if_neg (by omega)]; omega
              · rw [if_neg (by omega)]; omega
        rw [em] at iu
        refine ⟨iu, ?_, ?_⟩
        · rw [hv]; split <;> omega
        · rw [hv]; split <;> omega
      refine c_la111 w hz hi hP I c (j + 1) v' _ (by omega) lv (fun v2 R2 L2 e => k1 v2 R2 L2 (fun x => ?_))
      rw [e x]
      constructor
      · rintro ((y | y) | ⟨j', u, m, u', m', a1, a2, a3⟩)
        · exact Or.inl y
        · exact Or.inr ⟨j, t, n, t', n', by omega, by omega, p1, p2, e1, e2, y.symm⟩
        · exact Or.inr ⟨j', u, m, u', m', by omega, a2, a3⟩
      · rintro (y | ⟨j', u, m, u', m', a1, a2, a3, a4, a5, a6, a7⟩)
        · exact Or.inl (Or.inl y)
        · by_cases ej : j' = j
          · subst ej
            left; right
            have b1 := hP u m a3
            have b2 := hP u' m' a4
            have c1 : tp (wpA α u m) = tp (wpA α t n) := by rw [e1] at a5; omega
            have c2 : tp (wpA α u' m') = tp (wpA α t' n') := by rw [e2] at a6; omega
            have d1 := tp_inj (wpA_ok w b1.1 b1.2) ok1 c1
            have d2 := tp_inj (wpA_ok w b2.1 b2.2) ok2 c2
            rw [← a7]; exact tp_df_cg d1 d2
          · exact Or.inr ⟨j', u, m, u', m', by omega, a2, a3, a4, a5, a6, a7⟩
    refine c_unlikeNotes ok1 ok2 ⟨_, rfl, ⟨by omega, by omega⟩, fun q => nx v ?_, fun q => c_min ⟨by omega, by omega⟩ ⟨by omega, by omega⟩ ⟨_, rfl, nx _ ?_⟩⟩
    · rw [if_pos (by omega)]
    · rw [if_neg (by omega)]
theorem c_la97 {z : Nat} {P : Nat → Nat → Prop} (w : WF k α) (hz : z ≤ 123) (hP : ∀ t n, P t n → (t : Int) < α 0 5 ∧ n < 1000) (I : wdI α z P τ) (k1 : ∀ v, isL (fun x => ∃ t n t' n' : Nat, P t n ∧ P t' n' ∧ tp_df (wpA α t n) (wpA α t' n') = x) v → Q (some (vI v)) τ) : ∀ (c i : Nat) (v : Int) (R : Nat → Prop), i + c = max z 1 → 1 ≤ i → lsI R v → (∀ x, R x ↔ ∃ i' j' t n t' n', i' < i ∧ i' < z ∧ j' < i' ∧ P t n ∧ P t' n' ∧ τ 135 i' = (tp (wpA α t n) : Nat) ∧ τ 135 j' = (tp (wpA α t' n') : Nat) ∧ tp_df (wpA α t n) (wpA α t' n') = x) → V0 E (d + 2) qX7_leastApart 97 [some (vR 133), none, some (vI (z : Int)), some (vI v), some (vI (i : Int)), none, none] [] τ Q := by
  -- the least of all
  have fin : ∀ (i : Nat) (v : Int) (R : Nat → Prop), lsI R v → (∀ x, R x ↔ ∃ i' j' t n t' n', i' < i ∧ i' < z ∧ j' < i' ∧ P t n ∧ P t' n' ∧ τ 135 i' = (tp (wpA α t n) : Nat) ∧ τ 135 j' = (tp (wpA α t' n') : Nat) ∧ tp_df (wpA α t n) (wpA α t' n') = x) → (z ≤ i ∨ v ≤ 1) → inR v ∧ ((v ≠ 6 → Q (some (vI v)) τ) ∧ (v = 6 → Q (some (vI (-1))) τ)) := by
    intro i v R L hx hc
    obtain ⟨La, Lb, Lc⟩ := L
    have sub : ∀ x, R x → ∃ t n t' n' : Nat, P t n ∧ P t' n' ∧ tp_df (wpA α t n) (wpA α t' n') = x := by
      intro x q
      obtain ⟨i', j', t, n, t', n', -, -, -, a1, a2, -, -, a3⟩ := (hx x).mp q
      exact ⟨t, n, t', n', a1, a2, a3⟩
    have good : isL (fun x => ∃ t n t' n' : Nat, P t n ∧ P t' n' ∧ tp_df (wpA α t n) (wpA α t' n') = x) (if v = 6 then -1 else v) := by
      rcases hc with hc | hc
      · refine isL_c La (fun x hx0 => ⟨fun q => ?_, sub x⟩)
        obtain ⟨t, n, t', n', p1, p2, q⟩ := q
        have b1 := hP t n p1
        have b2 := hP t' n' p2
        obtain ⟨i1, h1, f1⟩ := I.2 t n p1
        obtain ⟨i2, h2, f2⟩ := I.2 t' n' p2
        have ne : i1 ≠ i2 := by
          intro e
          subst e
          have : tp (wpA α t n) = tp (wpA α t' n') := by rw [f1] at f2; omega
          have := (tp_df_0 (wpA_ok w b1.1 b1.2) (wpA_ok w b2.1 b2.2)).mpr this
          omega
        rw [hx x]
        by_cases o : i2 < i1
        · exact ⟨i1, i2, t, n, t', n', by omega, h1, o, p1, p2, f1, f2, q⟩
        · exact ⟨i2, i1, t', n', t, n, by omega, h2, by omega, p2, p1, f2, f1, by rw [tp_df_sym]; exact q⟩
      · have v1 : v = 1 := by omega
        subst v1
        rw [if_neg (by decide)] at La ⊢
        rcases La with ⟨a, -⟩ | ⟨x, a, b, c, m⟩
        · omega
        · exact Or.inr ⟨x, a, sub x b, c, fun y hy _ => by omega⟩
    refine ⟨⟨by omega, by omega⟩, fun q => ?_, fun q => ?_⟩
    · rw [if_neg q] at good; exact k1 _ good
    · rw [if_pos q] at good; exact k1 _ good
  intro c
  induction c with
  | zero =>
    intro i v R hi hi1 L hx
    have f := fin i v R L hx (Or.inl (by omega))
    exact bX7_leastApart_97 ⟨⟨by omega, by omega⟩, ⟨by omega, by omega⟩, fun _ => f, fun q => by omega⟩
  | succ c ih =>
    intro i v R hi hi1 L hx
    have en : ((i : Int) + 1) = ((i + 1 : Nat) : Int) := by omega
    refine bX7_leastApart_97 ⟨⟨by omega, by omega⟩, ⟨by omega, by omega⟩, fun q => by omega, fun _ => ⟨(fun L : lsI R v => ⟨by have := L.2.1; omega, by have := L.2.2; omega⟩ : lsI R v → inR v) L, fun q => (fin i v R L hx (Or.inr q)).2, fun q => ?_⟩⟩
    refine c_la111 w hz (by omega) hP I i 0 v R (by omega) L (fun v' R' L' e => ?_)
    rw [en]
    refine ih (i + 1) v' R' (by omega) (by omega) L' (fun x => ?_)
    rw [e x, hx x]
    constructor
    · rintro (⟨i', j', t, n, t', n', a1, a2⟩ | ⟨j', t, n, t', n', a1, a2, a3⟩)
      · exact ⟨i', j', t, n, t', n', by omega, a2⟩
      · exact ⟨i, j', t, n, t', n', by omega, by omega, a2, a3⟩
    · rintro ⟨i', j', t, n, t', n', a1, a2, a3, a4⟩
      by_cases ei : i' = i
      · subst ei; exact Or.inr ⟨j', t, n, t', n', by omega, a3, a4⟩
      · exact Or.inl ⟨i', j', t, n, t', n', by omega, a2, a3, a4⟩
theorem c_near {a : Int} (w : WF k α) (H : RepC k h α τ) (ha : inR a) (k1 : ∀ v τ', RepC k h α τ' → FrC τ τ' → isNear α a v → Q (some (vI v)) τ') : M0 E (d + 3) qX10_near [vR 2, vI a] τ Q := by
  unfold isNear at k1
  have hw := w.le
  refine mX10_near (c_doorAt w H ha (fun a0 a1 kd => ⟨_, rfl, fun _ => ?_, fun q => by omega⟩) (fun q => ⟨_, rfl, fun z => absurd rfl z, fun _ => ?_⟩))
  · simp only [if_pos (show 0 ≤ a ∧ a < α 0 6 from ⟨a0, a1⟩)] at k1
    have T : tS α a.toNat (h + 14 + 4 * a.toNat) (eS0 α a.toNat) τ := H.ds w (by omega)
    have kb := kdD_out kd
    have l := c_la4 (E := E) (d := d) (o := h + 14 + 4 * a.toNat) (dd := a.toNat) (Q := fun v τ3 => ∃ r4 : Int, v = some (vI r4) ∧ Q (some (vI r4)) τ3) w (by omega) (by omega) 3 0 0 (fun _ _ => False) τ rfl (by omega) H.gw T ⟨fun i hi => absurd hi (Nat.not_lt_zero _), fun _ _ z => absurd z id⟩ (fun t' m => ⟨fun z => absurd z id, fun z => absurd z.1 (Nat.not_lt_zero _)⟩) (fun z τ1 hz I1 F1 => ?_)
    · exact mX7_leastApart kd l
    · have hP : ∀ t n, winP α a.toNat t n → (t : Int) < α 0 5 ∧ n < 1000 := fun t n z => ⟨(earA_lt w z.2.1).2.1, z.2.2.1⟩
      have H1 : RepC k h α τ1 := H.frame hw.2.1 hw.2.2.1 hw.1 (fun o j hr => by rw [F1 o (by intro e; subst e; exact absurd hr (by simp [relC]))]) (Nat.le_refl _) (fun o o1 o2 => by rw [F1 o (by have := kdD_133 o o2; omega)]; exact H.y o o1 o2)
      have l2 := c_la97 (E := E) (d := d) (τ := τ1) (z := z) (P := winP α a.toNat) (Q := fun v τ3 => ∃ r4 : Int, v = some (vI r4) ∧ Q (some (vI r4)) τ3) w hz hP I1 (fun v hv => ⟨_, rfl, k1 v τ1 H1 (fun o ho => F1 o (by omega)) hv⟩) (max z 1 - 1) 1 6 (fun _ => False) (by omega) (by omega) ⟨isL_no, by omega, by omega⟩ (fun x => ⟨fun z => absurd z id, fun ⟨i', j', _, _, _, _, b1, _, b2, _⟩ => by omega⟩)
      exact l2
  · simp only [if_neg q] at k1
    exact k1 _ τ H FrC.rf rfl
end CNear
