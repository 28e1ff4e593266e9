/-! who opens, counted by the class: stamps -/
theorem opA_ne {α : mm_Mem} {f : Nat → Nat} {kind one two c hf tr : Int} {t : Nat} : opA α f kind one two c hf tr t ≠ -1 ↔ (skA (PuA α t f (if kind = 3 then two else 0)) c (c + rchA kind one two tr) ≠ -1) ∨ (kind = 2 ∧ hf ≠ -1 ∧ skA (PuA α t f 0) (hf + 1) (hf + 1) ≠ -1) ∨ (kind = 1 ∧ skA (PuA α t f 0) (c - two) (c - 1) ≠ -1 ∧ 0 ≤ c) ∨ (kind = 1 ∧ skA (PuA α t f 0) (c - two) (c - 1) ≠ -1 ∧ c ≠ -1) := by
  unfold opA
  have r1 := skA_range (PuA α t f (if kind = 3 then two else 0)) c (c + rchA kind one two tr)
  generalize skA (PuA α t f (if kind = 3 then two else 0)) c (c + rchA kind one two tr) = y at *
  have r2 := skA_range (PuA α t f 0) (hf + 1) (hf + 1)
  have r3 := skA_range (PuA α t f 0) (c - two) (c - 1)
  unfold opF by1A
  generalize skA (PuA α t f 0) (hf + 1) (hf + 1) = z at *
  generalize skA (PuA α t f 0) (c - two) (c - 1) = u at *
  by_cases a1 : y = -1 ∧ kind = 2 ∧ hf ≠ -1
  · simp only [if_pos a1]
    by_cases a2 : z = -1
    · rw [if_neg (by omega), if_neg (by omega)]
      constructor
      · intro q; exact absurd rfl q
      · rintro (q | q | q | q) <;> omega
    · rw [if_pos a2]
      constructor
      · intro _; exact Or.inr (Or.inl ⟨a1.2.1, a1.2.2, a2⟩)
      · intro _; omega
  · simp only [if_neg a1]
    by_cases a2 : y = -1
    · rw [if_neg (by omega)]
      by_cases a3 : kind = 1 ∧ u ≠ -1
      · rw [if_pos a3]
        constructor
        · intro q; exact Or.inr (Or.inr (Or.inr ⟨a3.1, a3.2, q⟩))
        · rintro (q | q | q | q) <;> omega
      · rw [if_neg a3]
        constructor
        · intro q; exact absurd rfl q
        · rintro (q | q | q | q) <;> omega
    · rw [if_pos a2]
      constructor
      · intro _; exact Or.inl a2
      · intro _; omega
/-- the numbers at which a door that is no lip opens, by one ear -/
def rS (α : mm_Mem) (dd t : Nat) (v : Int) : Prop := earA α dd t = true ∧ ((∃ n : Nat, n < 1000 ∧ α 15 (3 * dd + t) - (if α 5 dd = 1 then α 7 dd else 0) ≤ (n : Int) ∧ (n : Int) ≤ α 15 (3 * dd + t) + rchA (α 5 dd) (α 6 dd) (α 7 dd) (α 17 (3 * dd + t)) ∧ α 23 (1000 * t + n) = v) ∨ (α 5 dd = 2 ∧ α 16 (3 * dd + t) ≠ -1 ∧ ∃ n : Nat, n < 1000 ∧ (n : Int) = α 16 (3 * dd + t) + 1 ∧ α 23 (1000 * t + n) = v))
theorem opT_iff {k dd t v : Nat} {α : mm_Mem} (w : WF k α) (d1 : (dd : Int) < α 0 6) (h3 : α 5 dd ≠ 3) (hv : v < allA α) : opT α dd v t = true ↔ rS α dd t (v : Int) := by
  have hL := w.door_ d1
  have wd := w.2.2.1 dd d1
  have we := w.2.2.2.2.1 (3 * dd + t)
  unfold opT rS
  rw [Bool.and_eq_true, decide_eq_true_eq]
  apply and_congr_right
  intro he
  have t1 := (earA_lt w he).2.1
  have fv := fv_dg (α := α) (v := v) hL
  have pu : ∀ n, n < 1000 → (PuA α t (dgV α v) 0 n = true ↔ α 23 (1000 * t + n) = (v : Int)) := by
    intro n hn
    rw [PuA_0 w t1 hn fv, decide_eq_true_eq, num_dg hL hv]
  have sk : ∀ fr to : Int, skA (PuA α t (dgV α v) 0) fr to ≠ -1 ↔ ∃ n : Nat, n < 1000 ∧ fr ≤ (n : Int) ∧ (n : Int) ≤ to ∧ α 23 (1000 * t + n) = (v : Int) := by
    intro fr to
    rw [skA_ne]
    constructor
    · rintro ⟨i, a1, a2, a3, a4⟩; exact ⟨i, a3, a1, a2, (pu i a3).mp a4⟩
    · rintro ⟨i, a1, a2, a3, a4⟩; exact ⟨i, a2, a3, a1, (pu i a1).mpr a4⟩
  have rr := rchA_r (kind := α 5 dd) (two := α 7 dd) (tr := α 17 (3 * dd + t)) (one := α 6 dd) (by omega)
  rw [opA_ne, if_neg h3, sk, sk, sk]
  constructor
  · rintro (⟨n, a1, a2, a3, a4⟩ | ⟨b1, b2, n, a1, a2, a3, a4⟩ | ⟨b1, ⟨n, a1, a2, a3, a4⟩, -⟩ | ⟨b1, ⟨n, a1, a2, a3, a4⟩, -⟩)
    · left; exact ⟨n, a1, by split <;> omega, a3, a4⟩
    · right; exact ⟨b1, b2, n, a1, by omega, a4⟩
    · left; exact ⟨n, a1, by rw [if_pos b1]; omega, by omega, a4⟩
    · left; exact ⟨n, a1, by rw [if_pos b1]; omega, by omega, a4⟩
  · rintro (⟨n, a1, a2, a3, a4⟩ | ⟨b1, b2, n, a1, a2, a4⟩)
    · by_cases q : α 15 (3 * dd + t) ≤ (n : Int)
      · left; exact ⟨n, a1, q, a3, a4⟩
      · right; right; left
        by_cases b1 : α 5 dd = 1
        · rw [if_pos b1] at a2
          exact ⟨b1, ⟨n, a1, a2, by omega, a4⟩, by omega⟩
        · rw [if_neg b1] at a2; omega
    · right; left; exact ⟨b1, b2, n, a1, by omega, by omega, a4⟩
/-- stamped numbers -/
def SI (s : Int) (P : Nat → Bool) (τ : mm_Mem) : Prop := τ 133 2 = s ∧ ∀ i, i < 7776 → (τ 134 i = s ↔ P i = true) ∧ τ 134 i ≤ s
section Stamp
variable {E : mm_Env} {d k h b : Nat} {α τ : mm_Mem} {Q : mm_Q0}
theorem c_numberAtG {t n : Int} (w : WF k α) (G : gW α τ) (t0 : 0 ≤ t) (t1 : t < α 0 5) (n0 : 0 ≤ n) (n1 : n < 1000) (k1 : Q (some (vI (α 23 (1000 * t.toNat + n.toNat)))) τ) : M0 E (d + 1) qX9_numberAt [vR 78, vI t, vI n] τ Q := by
  have hw := w.le
  refine mX9_numberAt (c_isThere ⟨by omega, by omega⟩ ⟨by omega, by omega⟩ ⟨_, rfl, fun q => absurd (of_decide_eq_false q) (by omega), fun _ => ⟨by omega, by omega, by omega, by omega, ?_⟩⟩)
  rw [(G.at t0 t1 n0 n1).2.1]; exact k1
theorem c_tuneAtG {t n : Int} (w : WF k α) (G : gW α τ) (t0 : 0 ≤ t) (t1 : t < α 0 5) (n0 : 0 ≤ n) (n1 : n < 1000) (k1 : Q (some (vI (tp (wpA α t.toNat n.toNat) : Nat))) τ) : M0 E (d + 1) qX9_tuneAt [vR 78, vI t, vI n] τ Q := by
  have hw := w.le
  refine mX9_tuneAt (c_isThere ⟨by omega, by omega⟩ ⟨by omega, by omega⟩ ⟨_, rfl, fun q => absurd (of_decide_eq_false q) (by omega), fun _ => ⟨by omega, by omega, by omega, by omega, ?_⟩⟩)
  rw [(G.at t0 t1 n0 n1).1]; exact k1
theorem c_isNumber {a : Int} (ha : inR a) (k1 : Q (some (vB (decide (0 ≤ a ∧ a < 7776)))) τ) : M0 E d qX7_isNumber [vR 133, vI a] τ Q := by
  refine mX7_isNumber ⟨ha, fun q => ?_, fun q => ⟨fun q2 => ?_, fun q2 => ?_⟩⟩
  · rw [decide_eq_false (by omega)] at k1; exact k1
  · rw [decide_eq_false (by omega)] at k1; exact k1
  · rw [decide_eq_true (by omega)] at k1; exact k1
theorem c_stampL {t : Nat} {s la : Int} (w : WF k α) (t1 : (t : Int) < α 0 5) (hla : la ≤ 999) (hl2 : inR la) : ∀ (c n : Nat) (P : Nat → Bool) (x : Int) (τ : mm_Mem), (la + 1 - n).toNat = c → n ≤ 2000 → gW α τ → SI s P τ → (∀ τ' P', (∀ i, P' i = true ↔ P i = true ∨ ∃ m : Nat, n ≤ m ∧ (m : Int) ≤ la ∧ α 23 (1000 * t + m) = (i : Int)) → SI s P' τ' → (∀ o, o ≠ 134 → τ' o = τ o) → Q (some (vI (x + cntP P' 7776 - cntP P 7776))) τ') → V0 E (d + 2) qX7_stampRow 19 [some (vR 133), some (vI (t : Int)), none, none, some (vI x), some (vI la), some (vI (n : Int)), none] [] τ Q
  | 0, n, P, x, τ, hc, hn, G, I, k1 => by
    refine bX7_stampRow_19 ⟨⟨by omega, by omega⟩, hl2, fun _ => ?_, fun q => by omega⟩
    have := k1 τ P (fun i => ⟨Or.inl, fun z => ?_⟩) I (fun _ _ => rfl)
    · rw [show x + (cntP P 7776 : Int) - (cntP P 7776 : Int) = x by omega] at this; exact this
    · rcases z with z | ⟨m, a1, a2, a3⟩
      · exact z
      · omega
  | c + 1, n, P, x, τ, hc, hn, G, I, k1 => by
    have en : ((n : Int) + 1) = ((n + 1 : Nat) : Int) := by omega
    have nb := num_bnd w t1 (n := n) (by omega)
    refine bX7_stampRow_19 ⟨⟨by omega, by omega⟩, hl2, fun q => by omega, fun _ => c_numberAtG w G (by omega) t1 (by omega) (by omega) ⟨_, rfl, ?_⟩⟩
    rw [Int.toNat_natCast, Int.toNat_natCast]
    obtain ⟨v, hv⟩ : ∃ v : Nat, α 23 (1000 * t + n) = (v : Int) := ⟨(α 23 (1000 * t + n)).toNat, by omega⟩
    rw [hv] at nb ⊢
    obtain ⟨i1, i2⟩ := I
    obtain ⟨j1, j2⟩ := i2 v (by omega)
    refine c_isNumber ⟨by omega, by omega⟩ ⟨_, rfl, fun q => absurd (of_decide_eq_false q) (by omega), fun _ => ⟨by omega, by omega, ?_⟩⟩
    rw [Int.toNat_natCast, i1]
    refine ⟨fun q => ?_, fun q => ⟨by omega, by omega, ?_⟩⟩
    · rw [en]
      refine c_stampL w t1 hla hl2 c (n + 1) P x τ (by omega) (by omega) G ⟨i1, i2⟩ (fun τ' P' hP I' F' => k1 τ' P' (fun i => ?_) I' F')
      rw [hP i]
      constructor
      · rintro (z | ⟨m, a1, a2, a3⟩)
        · exact Or.inl z
        · exact Or.inr ⟨m, by omega, a2, a3⟩
      · rintro (z | ⟨m, a1, a2, a3⟩)
        · exact Or.inl z
        · by_cases e : m = n
          · subst e
            have : i = v := by omega
            subst this
            exact Or.inl (j1.mp q)
          · exact Or.inr ⟨m, by omega, a2, a3⟩
    · rw [en]
      have pv : P v = false := Bool.eq_false_iff.mpr (fun z => q (j1.mpr z))
      have cu := cntP_up (P := P) (P' := fun i => P i || decide (i = v)) (x := v) 7776 (by omega) pv (by simp) (fun i hi => by simp [hi])
      refine c_stampL (s := s) w t1 hla hl2 c (n + 1) (fun i => P i || decide (i = v)) (x + 1) _ (by omega) (by omega) (G.keep (fun o _ _ => wr_obj (by omega)) w) ⟨by rw [wr_obj (by omega)]; exact i1, fun i hi => ?_⟩ (fun τ' P' hP I' F' => ?_)
      · by_cases e : i = v
        · subst e; rw [wr_same]; simp
        · rw [wr_row e]
          have := i2 i hi
          simp [e]; exact this
      · have := k1 τ' P' (fun i => ?_) I' (fun o ho => by rw [F' o ho, wr_obj ho])
        · rw [cu] at *
          rw [show x + 1 + (cntP P' 7776 : Int) - ((cntP P 7776 + 1 : Nat) : Int) = x + (cntP P' 7776 : Int) - (cntP P 7776 : Int) by omega]
          exact this
        · rw [hP i, Bool.or_eq_true, decide_eq_true_eq]
          constructor
          · rintro ((z | z) | ⟨m, a1, a2, a3⟩)
            · exact Or.inl z
            · subst z; exact Or.inr ⟨n, by omega, by omega, hv⟩
            · exact Or.inr ⟨m, by omega, a2, a3⟩
          · rintro (z | ⟨m, a1, a2, a3⟩)
            · exact Or.inl (Or.inl z)
            · by_cases e : m = n
              · subst e; exact Or.inl (Or.inr (by omega))
              · exact Or.inr ⟨m, by omega, a2, a3⟩
theorem c_stampRow {t : Nat} {s fr to x : Int} {P : Nat → Bool} (w : WF k α) (G : gW α τ) (t1 : (t : Int) < α 0 5) (I : SI s P τ) (h1 : inR fr) (h2 : inR to) (hfr : fr ≤ 2000) (hx : x = 0) (k1 : ∀ τ' P', (∀ i, P' i = true ↔ P i = true ∨ ∃ m : Nat, m < 1000 ∧ fr ≤ (m : Int) ∧ (m : Int) ≤ to ∧ α 23 (1000 * t + m) = (i : Int)) → SI s P' τ' → (∀ o, o ≠ 134 → τ' o = τ o) → Q (some (vI ((cntP P' 7776 : Int) - cntP P 7776))) τ') : M0 E (d + 2) qX7_stampRow [vR 133, vI (t : Int), vI fr, vI to] τ Q := by
  refine mX7_stampRow (c_min h2 ⟨by decide, by decide⟩ ⟨_, rfl, c_max h1 ⟨by decide, by decide⟩ ⟨_, rfl, ?_⟩⟩)
  have l := c_stampL (E := E) (d := d) (Q := Q) (t := t) (s := s) (la := min to 999) w t1 (by omega) ⟨by have := h2.1; omega, by omega⟩ ((min to 999) + 1 - max fr 0).toNat (max fr 0).toNat P 0 τ (by omega) (by omega) G I (fun τ' P' hP I' F' => ?_)
  · rw [show (((max fr 0).toNat : Nat) : Int) = max fr 0 by omega] at l
    exact l
  · rw [Int.zero_add]
    refine k1 τ' P' (fun i => ?_) I' F'
    rw [hP i]
    constructor
    · rintro (z | ⟨m, a1, a2, a3⟩)
      · exact Or.inl z
      · exact Or.inr ⟨m, by omega, by omega, by omega, a3⟩
    · rintro (z | ⟨m, a1, a2, a3, a4⟩)
      · exact Or.inl z
      · exact Or.inr ⟨m, by omega, by omega, a4⟩
theorem c_cop28 {dd o : Nat} {s : Int} (w : WF k α) (d1 : (dd : Int) < α 0 6) (ho : o < 133) : ∀ (m t : Nat) (P : Nat → Bool) (τ : mm_Mem), t + m = 3 → gW α τ → tS α dd o (eS0 α dd) τ → SI s P τ → (∀ i : Nat, P i = true ↔ ∃ t', t' < t ∧ rS α dd t' (i : Int)) → (∀ τ' P', (∀ i : Nat, P' i = true ↔ ∃ t', t' < 3 ∧ rS α dd t' (i : Int)) → SI s P' τ' → (∀ o, o ≠ 134 → τ' o = τ o) → Q (some (vI (cntP P' 7776 : Nat))) τ') → V0 E (d + 3) qX7_countOpening 28 [some (vR 133), some (vR o), some (vI (cntP P 7776 : Nat)), some (vI (t : Int)), none] [] τ Q
  | 0, t, P, τ, ht, G, T, I, hP, k1 => bX7_countOpening_28 T.1.1 ⟨⟨by omega, by omega⟩, fun _ => k1 τ P (fun i => by rw [hP i, show t = 3 by omega]) I (fun _ _ => rfl), fun q => by omega⟩
  | m + 1, t, P, τ, ht, G, T, I, hP, k1 => by
    have hw := w.le
    have wd := w.2.2.1 dd d1
    have we := w.2.2.2.2.1 (3 * dd + t)
    have en : ((t : Int) + 1) = ((t + 1 : Nat) : Int) := by omega
    have T0 := T
    obtain ⟨⟨kd, g1, g2, g3, g4⟩, gt⟩ := T
    obtain ⟨ga, gb, gc⟩ := gt t (by omega)
    have ga' : τ (o + 1) t = α 15 (3 * dd + t) := ga
    have gb' : τ (o + 2) t = α 16 (3 * dd + t) := gb
    have rr := rchA_r (kind := α 5 dd) (two := α 7 dd) (tr := α 17 (3 * dd + t)) (one := α 6 dd) (by omega)
    have kb := kdD_out kd
    refine bX7_countOpening_28 kd ⟨⟨by omega, by omega⟩, fun q => by omega, fun _ => c_hasEar kd g4 ⟨by omega, by omega⟩ ⟨_, rfl, fun q => ?_, fun q => ?_⟩⟩
    · rw [e3_ear w] at q
      rw [en]
      refine c_cop28 w d1 ho m (t + 1) P τ (by omega) G T0 I (fun i => ?_) k1
      rw [hP i]
      constructor
      · rintro ⟨t', a, b⟩; exact ⟨t', by omega, b⟩
      · rintro ⟨t', a, b⟩
        by_cases e : t' = t
        · subst e; have := b.1; rw [q] at this; cases this
        · exact ⟨t', by omega, b⟩
    · rw [e3_ear w] at q
      have t1 := (earA_lt w q).2.1
      -- from the first row of stamps on
      have key : ∀ y0 : Int, y0 = (if α 5 dd = 1 then α 7 dd else 0) → V0 E (d + 3) qX7_countOpening 57 [some (vR 133), some (vR o), some (vI (cntP P 7776 : Nat)), some (vI (t : Int)), none] [vI y0] τ Q := by
        intro y0 hy
        have y0r : 0 ≤ y0 ∧ y0 ≤ 9 := by rw [hy]; split <;> omega
        refine bX7_countOpening_57 kd ⟨by omega, by omega, by omega, by omega, c_reach T0 (by omega) ⟨_, rfl, ?_⟩⟩
        rw [Int.toNat_natCast, ga']
        refine c_stampRow (x := 0) w G t1 I ⟨by omega, by omega⟩ ⟨by show _ ≤ _ + rchA (α 5 dd) (α 6 dd) (α 7 dd) (α 17 (3 * dd + t)); omega, by show _ + rchA (α 5 dd) (α 6 dd) (α 7 dd) (α 17 (3 * dd + t)) ≤ _; omega⟩ (by omega) rfl (fun τ1 P1 hP1 I1 F1 => ⟨_, rfl, ?_⟩)
        have G1 : gW α τ1 := G.keep (fun x _ _ => F1 x (by omega)) w
        have T1 : tS α dd o (eS0 α dd) τ1 := tS_fr T0 (F1 _ (by omega)) (F1 _ (by omega)) (F1 _ (by omega)) (F1 _ (by omega))
        have e1 : ((cntP P 7776 : Nat) : Int) + ((cntP P1 7776 : Int) - cntP P 7776) = ((cntP P1 7776 : Nat) : Int) := by omega
        rw [F1 o (by omega), F1 (o + 2) (by omega), g1, gb', e1, en]
        -- where no half is
        have done : ¬ (α 5 dd = 2 ∧ α 16 (3 * dd + t) ≠ -1) → V0 E (d + 3) qX7_countOpening 28 [some (vR 133), some (vR o), some (vI (cntP P1 7776 : Nat)), some (vI ((t + 1 : Nat) : Int)), none] [] τ1 Q := by
          intro z
          refine c_cop28 w d1 ho m (t + 1) P1 τ1 (by omega) G1 T1 I1 (fun i => ?_) (fun τ2 P2 h2 I2 F2 => k1 τ2 P2 h2 I2 (fun o ho => by rw [F2 o ho, F1 o ho]))
          rw [hP1 i, hP i]
          constructor
          · rintro (⟨t', a, b⟩ | ⟨n, a1, a2, a3, a4⟩)
            · exact ⟨t', by omega, b⟩
            · exact ⟨t, by omega, q, Or.inl ⟨n, a1, by rw [← hy]; exact a2, a3, a4⟩⟩
          · rintro ⟨t', a, b⟩
            by_cases e : t' = t
            · subst e
              rcases b.2 with ⟨n, a1, a2, a3, a4⟩ | ⟨b1, b2, -⟩
              · exact Or.inr ⟨n, a1, by rw [hy]; exact a2, a3, a4⟩
              · exact absurd ⟨b1, b2⟩ z
            · exact Or.inl ⟨t', by omega, b⟩
        refine ⟨fun z => done (fun y => z y.1), fun z => ⟨by omega, by omega, fun z2 => done (fun y => y.2 z2), fun z2 => ⟨by omega, by omega, by omega, by omega, ?_⟩⟩⟩
        refine c_stampRow (x := 0) w G1 t1 I1 ⟨by omega, by omega⟩ ⟨by omega, by omega⟩ (by omega) rfl (fun τ2 P2 hP2 I2 F2 => ⟨_, rfl, ?_⟩)
        have G2 : gW α τ2 := G1.keep (fun x _ _ => F2 x (by omega)) w
        have T2 : tS α dd o (eS0 α dd) τ2 := tS_fr T1 (F2 _ (by omega)) (F2 _ (by omega)) (F2 _ (by omega)) (F2 _ (by omega))
        have e2 : ((cntP P1 7776 : Nat) : Int) + ((cntP P2 7776 : Int) - cntP P1 7776) = ((cntP P2 7776 : Nat) : Int) := by omega
        rw [e2]
        refine c_cop28 w d1 ho m (t + 1) P2 τ2 (by omega) G2 T2 I2 (fun i => ?_) (fun τ3 P3 h3 I3 F3 => k1 τ3 P3 h3 I3 (fun o ho => by rw [F3 o ho, F2 o ho, F1 o ho]))
        rw [hP2 i, hP1 i, hP i]
        constructor
        · rintro ((⟨t', a, b⟩ | ⟨n, a1, a2, a3, a4⟩) | ⟨n, a1, a2, a3, a4⟩)
          · exact ⟨t', by omega, b⟩
          · exact ⟨t, by omega, q, Or.inl ⟨n, a1, by rw [← hy]; exact a2, a3, a4⟩⟩
          · exact ⟨t, by omega, q, Or.inr ⟨z, z2, n, a1, by omega, a4⟩⟩
        · rintro ⟨t', a, b⟩
          by_cases e : t' = t
          · subst e
            rcases b.2 with ⟨n, a1, a2, a3, a4⟩ | ⟨b1, b2, n, a1, a2, a4⟩
            · exact Or.inl (Or.inr ⟨n, a1, by rw [hy]; exact a2, a3, a4⟩)
            · exact Or.inr ⟨n, a1, by omega, by omega, a4⟩
          · exact Or.inl (Or.inl ⟨t', by omega, b⟩)
      rw [g1, g3]
      exact ⟨fun z => key 0 (by rw [if_neg z]), fun z => key _ (by rw [if_pos z])⟩
/-- the marks keep below the stamp -/
def mkI (τ : mm_Mem) : Prop := 1000 ≤ τ 133 2 ∧ τ 133 2 ≤ 1000000 ∧ ∀ i, i < 7776 → τ 134 i ≤ τ 133 2
theorem c_countN {dd o : Nat} (w : WF k α) (G : gW α τ) (T : tS α dd o (eS0 α dd) τ) (d1 : (dd : Int) < α 0 6) (h3 : α 5 dd ≠ 3) (M : mkI τ) (k1 : ∀ τ', (∀ x, x ≠ 133 → x ≠ 134 → τ' x = τ x) → τ' 133 2 = τ 133 2 + 1 → (∀ i, i < 7776 → τ' 134 i ≤ τ' 133 2) → Q (some (vI (openN α dd : Nat))) τ') : M0 E (d + 3) qX7_countOpening [vR 133, vR o] τ Q := by
  have kd := T.1.1
  have kb := kdD_out kd
  have g1 := T.1.2.1
  have hL := w.door_ d1
  have ar := all_r hL
  obtain ⟨m1, m2, m3⟩ := M
  refine mX7_countOpening kd ?_
  rw [g1]
  refine ⟨fun _ => ⟨⟨by omega, by omega⟩, ?_⟩, fun z => absurd z h3⟩
  have l := c_cop28 (E := E) (d := d) (Q := Q) (o := o) (s := τ 133 2 + 1) w d1 (by omega) 3 0 (fun _ => false) (wr τ 133 2 (τ 133 2 + 1)) rfl (G.keep (fun x _ _ => wr_obj (by omega)) w) (tS_fr T (wr_obj (by omega)) (wr_obj (by omega)) (wr_obj (by omega)) (wr_obj (by omega))) ⟨by rw [wr_same], fun i hi => ?_⟩ (fun i => ?_) (fun τ' P' hP I' F' => ?_)
  · have e0 : cntP (fun _ => false) 7776 = 0 := by
      have : ∀ n, cntP (fun _ => false) n = 0 := fun n => by
        induction n with
        | zero => rfl
        | succ n ih => rw [cntP, ih]; rfl
      exact this _
    rw [e0] at l
    exact l
  · have := m3 i hi
    rw [wr_obj (by omega)]
    refine ⟨⟨fun z => by omega, fun z => by cases z⟩, by omega⟩
  · constructor
    · intro z; cases z
    · rintro ⟨t', a, -⟩; omega
  · have e : cntP P' 7776 = openN α dd := by
      rw [cntP_zero (allA α) 7776 ar.2.1 (fun i hi => ?_)]
      · unfold openN
        apply cntP_congr
        intro i hi
        apply Bool.eq_iff_iff.mpr
        rw [hP i]
        unfold opP
        rw [Bool.or_eq_true, Bool.or_eq_true, opT_iff w d1 h3 hi, opT_iff w d1 h3 hi, opT_iff w d1 h3 hi]
        constructor
        · rintro ⟨t', a, q⟩
          match t', a with
          | 0, _ => exact Or.inl (Or.inl q)
          | 1, _ => exact Or.inl (Or.inr q)
          | 2, _ => exact Or.inr q
        · rintro ((q | q) | q)
          · exact ⟨0, by omega, q⟩
          · exact ⟨1, by omega, q⟩
          · exact ⟨2, by omega, q⟩
      · apply Bool.eq_false_iff.mpr
        intro z
        obtain ⟨t', a, q⟩ := (hP i).mp z
        have t1 := (earA_lt w q.1).2.1
        rcases q.2 with ⟨n, a1, -, -, a4⟩ | ⟨-, -, n, a1, -, a4⟩
        · have := num_bnd w t1 a1; omega
        · have := num_bnd w t1 a1; omega
    rw [e]
    refine k1 τ' (fun x x1 x2 => by rw [F' x x2, wr_obj x1]) I'.1 (fun i hi => ?_)
    rw [I'.1]; exact (I'.2 i hi).2
end Stamp
