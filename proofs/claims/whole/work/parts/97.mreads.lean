/-! the reference reads a sum, a test -/
section MReads
variable {E : mm_Env} {d : Nat} {r : Nat → Int} {n bi : Nat} {τ : mm_Mem} {Q : mm_Q0}
theorem m_reads {a zz f q : Nat} {t : Bool} (hn : n ≤ 1600) (hb2 : bi < 2) (hr : ∀ i, 0 ≤ r i ∧ r i ≤ 255) (ha : a ≤ n) (nb : tBb r n a = false) (X : txM r n τ) (T : TokM r n a τ) (h8 : τ 140 8 = 0) (W : wdM τ) (h39 : τ 140 39 = (bi : Int)) (h38 : 1600 * (bi : Int) + τ 140 38 = (zz : Int)) (hz0 : 1600 * bi ≤ zz) (hz : zz ≤ 1600 * bi + a) (hq : q = if t = true then 5 else 2) (ne : pz r n true f q a 0 ≠ .inl (0, 0)) (kT : ∀ a' c c', pz r n true f q a 0 = .inr (a', c, c') → ∀ τ', txM r n τ' → TokM r n a' τ' → τ' 140 8 = 0 → wdM τ' → τ' 140 39 = (bi : Int) → 1600 * (bi : Int) + τ' 140 38 = ((zz + c'.length : Nat) : Int) → CodeM zz c' τ' → frX τ τ' → (∀ i, i < zz → τ' 165 i = τ 165 i ∧ τ' 166 i = τ 166 i) → Q none τ') (kF : ∀ k p, pz r n true f q a 0 = .inl (k, p) → ∀ τ', PF k p τ' → frX τ τ' → Q none τ') : M0 E (d + 4) qX11_reads [vR 140, vB t] τ Q := by
  -- behind the push
  have st : ∀ {K : Int}, inR K → (∀ σ, PM r n bi 0 K 0 1 0 a 0 σ → σ 140 48 = ((0 : Nat) : Int) → 1600 * (bi : Int) + σ 140 38 = (zz : Int) → frX τ σ → (∀ i, i < zz → σ 165 i = τ 165 i ∧ σ 166 i = τ 166 i) → LH E d σ Q) → M0 E (d + 3) qX11_pushes [vR 140, vI K] (wr (wr (wr (wr τ 140 45 0) 140 46 0) 140 48 0) 140 49 0) (fun v τ2 => v = none ∧ V0 E (d + 3 + 1) qX11_reads 43 [some (vR 140), none, some (vI 1)] [] τ2 Q) := fun {K} hK kk => by
    have e45 : wr (wr (wr (wr τ 140 45 0) 140 46 0) 140 48 0) 140 49 0 140 45 = 0 := by rw [wr_row (by omega), wr_row (by omega), wr_row (by omega), wr_same]
    have e48 : wr (wr (wr (wr τ 140 45 0) 140 46 0) 140 48 0) 140 49 0 140 48 = 0 := by rw [wr_row (by omega), wr_same]
    refine mX11_pushes ?_
    rw [e45, e48]
    refine ⟨by omega, by omega, hK, by omega, by omega, by omega, by omega, by omega, by omega, ⟨by omega, by omega⟩, rfl, ?_⟩
    have o0 : ∀ o, o ≠ 140 → o ≠ 167 → o ≠ 168 → o ≠ 169 → o ≠ 171 → wr (wr (wr (wr (wr (wr (wr (wr (wr τ 140 45 0) 140 46 0) 140 48 0) 140 49 0) 167 (Int.toNat 0) K) 168 (Int.toNat 0) 0) 169 (Int.toNat 0) 1) 171 (Int.toNat 0) 0) 140 45 (0 + 1) o = τ o := fun o a b c e f => by
      rw [wr_obj a, wr_obj f, wr_obj e, wr_obj c, wr_obj b, wr_obj a, wr_obj a, wr_obj a, wr_obj a]
    have f0 : ∀ i, i ≠ 45 → i ≠ 46 → i ≠ 48 → i ≠ 49 → wr (wr (wr (wr (wr (wr (wr (wr (wr τ 140 45 0) 140 46 0) 140 48 0) 140 49 0) 167 (Int.toNat 0) K) 168 (Int.toNat 0) 0) 169 (Int.toNat 0) 1) 171 (Int.toNat 0) 0) 140 45 (0 + 1) 140 i = τ 140 i := fun i a b c e => by
      rw [wr_row a, wr_obj (by omega), wr_obj (by omega), wr_obj (by omega), wr_obj (by omega), wr_row e, wr_row c, wr_row b, wr_row a]
    have f1 : ∀ i, i ≠ 45 → wr (wr (wr (wr (wr (wr (wr (wr (wr τ 140 45 0) 140 46 0) 140 48 0) 140 49 0) 167 (Int.toNat 0) K) 168 (Int.toNat 0) 0) 169 (Int.toNat 0) 1) 171 (Int.toNat 0) 0) 140 45 (0 + 1) 140 i = wr (wr (wr (wr τ 140 45 0) 140 46 0) 140 48 0) 140 49 0 140 i := fun i a => by
      rw [wr_row a, wr_obj (by omega), wr_obj (by omega), wr_obj (by omega), wr_obj (by omega)]
    refine kk _ ⟨⟨fun i hi => ?_, ?_⟩, T.fr (fun i _ _ => f0 i (by omega) (by omega) (by omega) (by omega)), ?_, (fun _ => by rw [f0 9 (by omega) (by omega) (by omega) (by omega)]; exact W h8), ?_, ?_, ?_, ?_, ?_, ?_, ?_, ?_⟩ ?_ ?_ ⟨fun o x => o0 o (by omega) (by omega) (by omega) (by omega) (by omega), fun i x => f0 i (by omega) (by omega) (by omega) (by omega)⟩ (fun i _ => ⟨?_, ?_⟩)
    · rw [o0 141 (by omega) (by omega) (by omega) (by omega) (by omega)]; exact X.1 i hi
    · rw [f0 2 (by omega) (by omega) (by omega) (by omega)]; exact X.2
    · rw [f0 8 (by omega) (by omega) (by omega) (by omega)]; exact h8
    · rw [f0 39 (by omega) (by omega) (by omega) (by omega)]; exact h39
    · rw [wr_same]; rfl
    · rw [f1 46 (by omega), wr_row (by omega), wr_row (by omega), wr_same]; rfl
    · rw [wr_obj (by omega), wr_obj (by omega), wr_obj (by omega), wr_obj (by omega)]; exact wr_same
    · rw [wr_obj (by omega), wr_obj (by omega), wr_obj (by omega)]; exact wr_same
    · rw [wr_obj (by omega), wr_obj (by omega)]; exact wr_same
    · rw [wr_obj (by omega)]; exact wr_same
    · rw [f1 49 (by omega)]; exact wr_same
    · rw [f1 48 (by omega), e48]; rfl
    · rw [f0 38 (by omega) (by omega) (by omega) (by omega)]; exact h38
    · rw [o0 165 (by omega) (by omega) (by omega) (by omega) (by omega)]
    · rw [o0 166 (by omega) (by omega) (by omega) (by omega) (by omega)]
  obtain ⟨-, -, i2, -, -, -, -, -, i5, -, -⟩ := m_exp (E := E) (d := d) hn hb2 hr f
  -- the end
  have en : ∀ {K ph : Int} {a' : Nat} {c c' : List Int}, (K = 0 ∨ K = 1) → pz r n true f q a 0 = .inr (a', c, c') → (ph < 2 → addP r n a' = 0 ∧ mulP r n a' = 0) → (K = 1 → ph ≠ 0 ∧ tWb r n a' 19 = false ∧ tWb r n a' 18 = false) → ∀ σ τ1, frX τ σ → (∀ i, i < zz → σ 165 i = τ 165 i ∧ σ 166 i = τ 166 i) → PM r n bi 0 K ph 0 0 a' 1 τ1 → PSt bi 1 0 zz c' τ1 → τ1 140 48 ≤ 500 → frQ 0 0 zz σ τ1 → LH E d τ1 Q := fun {K ph a' c c'} hK e am tp σ τ1 Fσ gσ H1 P1 h51 F1 => by
    obtain ⟨x1, x2, x3, x4, x5⟩ := pz_ln hr f q a 0 a' c c' (by split at hq <;> omega) ha e
    refine m_lhG H1.2.2.2.2.2.2.2.2.2.2.2 (fun Qo hF hT => m_goEnd (d := d + 1) hb2 (by omega) x1 hr hK hz0 rfl (by omega) h51 H1 am tp P1 (fun τ2 H2 u48 u38 uC F2 => hF τ2 ?_))
    obtain ⟨X2, T2, u8, W2, u39, -⟩ := H2
    have F2q : frQ 0 0 zz τ1 τ2 := F2.q
    exact kT a' c c' e τ2 X2 T2 u8 W2 u39 u38 uC (Fσ.tr (F1.1.tr F2q.1)) (fun i hi => ⟨by rw [(F2q.2.2.2.2 i hi).1, (F1.2.2.2.2 i hi).1, (gσ i hi).1], by rw [(F2q.2.2.2.2 i hi).2, (F1.2.2.2.2 i hi).2, (gσ i hi).2]⟩)
  refine mX11_reads (d := d + 3) ⟨fun _ => ⟨fun q0 => ?_, fun q0 => ?_⟩, fun q0 => by omega⟩
  · rw [q0] at hq
    have hq : q = 2 := hq
    subst hq
    refine st (by decide) (fun σ H h48 h38 Fσ gσ => i2 0 a 0 zz 0 0 1 0 σ Q (by omega) ha nb (by decide) (by omega) (fun y => by omega) hz0 (by omega) (by omega) (Int.le_refl _) (fun _ => Or.inl rfl) H h48 h38 ne (fun a' c c' e τ1 H1 P1 h51 F1 => ?_) (fun k p e τ1 R1 F1 => kF k p e τ1 R1 (Fσ.tr F1)))
    have en2 := (pz_en f 2 a 0 a' c c' e).2.1 rfl
    exact en (Or.inl rfl) e (fun _ => ⟨en2.2, en2.1⟩) (fun y => by omega) σ τ1 Fσ gσ H1 (P1.weak (by omega)) h51 F1
  · rw [q0] at hq
    have hq : q = 5 := hq
    subst hq
    refine st (by decide) (fun σ H h48 h38 Fσ gσ => i5 0 a 0 zz 1 0 σ Q (by omega) ha nb (Or.inl rfl) hz0 (by omega) (Or.inl (by omega)) (Int.le_refl _) (Or.inl rfl) H h48 h38 ne (fun a' c c' e τ1 ph p0 am H1 P1 h51 F1 => ?_) (fun k p e τ1 R1 F1 => kF k p e τ1 R1 (Fσ.tr F1)))
    have en5 := (pz_en f 5 a 0 a' c c' e).2.2.2.2.1 rfl
    exact en (Or.inr rfl) e am (fun _ => ⟨p0, en5.1, en5.2⟩) σ τ1 Fσ gσ H1 P1 h51 F1
end MReads
/-! fuel, and the reader that meets what is bad at once -/
def guP (q : Nat) : Nat := if q ≤ 5 then q else if q = 10 then 3 else 0
section Fuel
variable {r : Nat → Int} {n : Nat} {e : Bool}
theorem tPl_n {a : Nat} (ha : a ≤ n) (hr : ∀ i, 0 ≤ r i ∧ r i ≤ 255) : tPl r n a ≤ n := (tk_r ha hr).1.2
theorem bd_inl {y : Sum (Nat × Nat) (Nat × List Int × List Int)} {K : Nat → List Int → List Int → Sum (Nat × Nat) (Nat × List Int × List Int)} {z : Nat × Nat} (h : bdP y K = .inl z) : y = .inl z ∨ ∃ a c c', y = .inr (a, c, c') ∧ K a c c' = .inl z := by
  match y, h with
  | .inl w, h => exact Or.inl h
  | .inr (a, c, c'), h => exact Or.inr ⟨a, c, c', rfl, h⟩
theorem av_inl {a : Nat} {K : Nat → Sum (Nat × Nat) (Nat × List Int × List Int)} {z : Nat × Nat} (h : avP r n e a K = .inl z) : z = (1, tPl r n (tN r n a)) ∨ K (tN r n a) = .inl z := by
  unfold avP at h
  split at h
  · left; cases h; rfl
  · exact Or.inr h
def okZ (n : Nat) (z : Nat × Nat) : Prop := (z.1 = 1 ∨ z.1 = 5) ∧ z.2 ≤ n
theorem pz_k (hr : ∀ i, 0 ≤ r i ∧ r i ≤ 255) : ∀ (f q a op : Nat) (z : Nat × Nat), q ≤ 10 → a ≤ n → 12 * (n - a) + guP q + 1 ≤ f → pz r n e f q a op = .inl z → okZ n z
  | 0, q, a, op, z, _, _, hf, h => by omega
  | f + 1, q, a, op, z, hq, ha, hf, h => by
    have ih := pz_k hr f
    have o1 : ∀ {b : Nat}, b ≤ n → okZ n (1, tPl r n b) := fun hb => ⟨Or.inl rfl, tPl_n hb hr⟩
    have o5 : ∀ {b : Nat}, b ≤ n → okZ n (5, tPl r n b) := fun hb => ⟨Or.inr rfl, tPl_n hb hr⟩
    have av : ∀ {b : Nat} {K : Nat → Sum (Nat × Nat) (Nat × List Int × List Int)}, tN r n b ≤ n → avP r n e b K = .inl z → (K (tN r n b) = .inl z → okZ n z) → okZ n z := fun {b K} hb h k => by
      rcases av_inl h with h | h
      · rw [h]; exact o1 hb
      · exact k h
    have seq : ∀ {p s : Nat}, p ≤ 10 → s ≤ 10 → ¬ (6 ≤ p ∧ p ≤ 9) → guP p < guP q → guP s ≤ 0 → bdP (pz r n e f p a op) (fun a1 c c' => bdP (pz r n e f s a1 op) (fun a2 k k' => .inr (a2, c ++ k, c' ++ k'))) = .inl z → okZ n z := fun {p s} p1 s1 p3 g1 g2 h => by
      rcases bd_inl h with h | ⟨a1, c1, c1', e1, h⟩
      · exact ih p a op z p1 ha (by omega) h
      · obtain ⟨x1, x2, x3, x4, x5⟩ := pz_ln hr f p a op a1 c1 c1' p1 ha e1
        rcases bd_inl h with h | ⟨a2, c2, c2', e2, h⟩
        · exact ih s a1 op z s1 x1 (by omega) h
        · cases h
    have lop : ∀ {p s : Nat} {b : Prop} [Decidable b] {x : Int}, p ≤ 10 → s ≤ 10 → ¬ (6 ≤ p ∧ p ≤ 9) → guP s ≤ 0 → guP p ≤ 5 → (b → a < tN r n a ∧ tN r n a ≤ n) → (if b then avP r n e a (fun a1 => bdP (pz r n e f p a1 op) (fun a2 c c' => bdP (pz r n e f s a2 op) (fun a3 k k' => .inr (a3, c ++ x :: k, c' ++ x :: k')))) else .inr (a, [], [])) = .inl z → okZ n z := fun {p s b _ x} p1 s1 p3 g2 g5 hb h => by
      by_cases y : b
      · rw [if_pos y] at h
        have hb := hb y
        refine av hb.2 h (fun h => ?_)
        rcases bd_inl h with h | ⟨a1, c1, c1', e1, h⟩
        · exact ih p _ op z p1 hb.2 (by omega) h
        · obtain ⟨x1, x2, x3, x4, x5⟩ := pz_ln hr f p _ op a1 c1 c1' p1 hb.2 e1
          rcases bd_inl h with h | ⟨a2, c2, c2', e2, h⟩
          · exact ih s a1 op z s1 x1 (by omega) h
          · cases h
      · rw [if_neg y] at h; cases h
    have hq' : q = 0 ∨ q = 1 ∨ q = 2 ∨ (q = 3 ∨ q = 10) ∨ q = 4 ∨ q = 5 ∨ q = 6 ∨ q = 7 ∨ q = 8 ∨ q = 9 := by omega
    have g2 : guP 2 = 2 := rfl
    have g5 : guP 5 = 5 := rfl
    rcases hq' with hq | hq | hq | hq | hq | hq | hq | hq | hq | hq
    · subst hq
      rw [pz_0] at h
      by_cases z1 : tSb r n a 40 = true
      · rw [if_pos z1] at h
        have t1 := tS_n ha hr z1
        by_cases z2 : 8 ≤ op
        · rw [if_pos z2] at h; cases h; exact o5 ha
        · rw [if_neg z2] at h
          refine av t1.2 h (fun h => ?_)
          rcases bd_inl h with h | ⟨a1, c1, c1', e1, h⟩
          · exact ih 2 _ _ z (by omega) t1.2 (by omega) h
          · obtain ⟨x1, x2, x3, x4, x5⟩ := pz_ln hr f 2 _ _ a1 c1 c1' (by omega) t1.2 e1
            by_cases z3 : tSb r n a1 41 = true
            · rw [if_pos z3] at h
              exact av (tS_n x1 hr z3).2 h (fun h => by cases h)
            · rw [if_neg z3] at h; cases h; exact o1 x1
      · rw [if_neg z1] at h
        have one : ∀ {x : Int}, (a < tN r n a ∧ tN r n a ≤ n) → avP r n e a (fun a1 => .inr (a1, [x], [x])) = .inl z → okZ n z := fun {x} t h => av t.2 h (fun h => by cases h)
        by_cases z2 : tNb r n a = true
        · rw [if_pos z2] at h
          exact one (tN_lt ha hr (by have := of_decide_eq_true z2; omega)) h
        · rw [if_neg z2] at h
          by_cases z3 : ftP r n a ≠ 0
          · rw [if_pos z3] at h
            exact one (ft_n ha hr z3) h
          · rw [if_neg z3] at h
            by_cases z4 : tWb r n a 27 = true ∨ tWb r n a 28 = true
            · rw [if_pos z4] at h
              have t0 : a < tN r n a ∧ tN r n a ≤ n := by
                rcases z4 with z4 | z4
                · exact tW_n ha hr z4
                · exact tW_n ha hr z4
              refine av t0.2 h (fun h => ?_)
              by_cases z5 : tSb r n (tN r n a) 40 = true
              · rw [if_pos z5] at h
                have t1 := tS_n t0.2 hr z5
                by_cases z6 : 8 ≤ op
                · rw [if_pos z6] at h; cases h; exact o5 t0.2
                · rw [if_neg z6] at h
                  refine av t1.2 h (fun h => ?_)
                  rcases bd_inl h with h | ⟨a1, c1, c1', e1, h⟩
                  · exact ih 2 _ _ z (by omega) t1.2 (by omega) h
                  · obtain ⟨x1, x2, x3, x4, x5⟩ := pz_ln hr f 2 _ _ a1 c1 c1' (by omega) t1.2 e1
                    by_cases z7 : tSb r n a1 44 = true
                    · rw [if_pos z7] at h
                      have t2 := tS_n x1 hr z7
                      refine av t2.2 h (fun h => ?_)
                      rcases bd_inl h with h | ⟨a2, c2, c2', e2, h⟩
                      · exact ih 2 _ _ z (by omega) t2.2 (by omega) h
                      · obtain ⟨y1, y2, y3, y4, y5⟩ := pz_ln hr f 2 _ _ a2 c2 c2' (by omega) t2.2 e2
                        by_cases z8 : tSb r n a2 41 = true
                        · rw [if_pos z8] at h
                          exact av (tS_n y1 hr z8).2 h (fun h => by cases h)
                        · rw [if_neg z8] at h; cases h; exact o1 y1
                    · rw [if_neg z7] at h; cases h; exact o1 x1
              · rw [if_neg z5] at h; cases h; exact o1 t0.2
            · rw [if_neg z4] at h; cases h; exact o1 ha
    · subst hq; rw [pz_1] at h; exact seq (by omega) (by omega) (by omega) (by decide) (by decide) h
    · subst hq; rw [pz_2] at h; exact seq (by omega) (by omega) (by omega) (by decide) (by decide) h
    · rw [pz_3 hq] at h
      have gq : guP q = 3 := by rcases hq with h | h <;> subst h <;> rfl
      by_cases z1 : tWb r n a 20 = true
      · rw [if_pos z1] at h
        have t1 := tW_n ha hr z1
        have g13 : guP (13 - q) = 3 := by rcases hq with h | h <;> subst h <;> rfl
        refine av t1.2 h (fun h => ?_)
        rcases bd_inl h with h | ⟨a1, c1, c1', e1, h⟩
        · exact ih (13 - q) _ op z (by omega) t1.2 (by omega) h
        · cases h
      · rw [if_neg z1] at h
        by_cases z2 : tSb r n a 91 = true
        · rw [if_pos z2] at h
          have t1 := tS_n ha hr z2
          by_cases z3 : 8 ≤ op
          · rw [if_pos z3] at h; cases h; exact o5 ha
          · rw [if_neg z3] at h
            refine av t1.2 h (fun h => ?_)
            rcases bd_inl h with h | ⟨a1, c1, c1', e1, h⟩
            · exact ih 5 _ _ z (by omega) t1.2 (by omega) h
            · obtain ⟨x1, x2, x3, x4, x5⟩ := pz_ln hr f 5 _ _ a1 c1 c1' (by omega) t1.2 e1
              by_cases z4 : tSb r n a1 93 = true
              · rw [if_pos z4] at h
                exact av (tS_n x1 hr z4).2 h (fun h => by cases h)
              · rw [if_neg z4] at h; cases h; exact o1 x1
        · rw [if_neg z2] at h
          by_cases z3 : tWb r n a 21 = true
          · rw [if_pos z3] at h
            exact av (tW_n ha hr z3).2 h (fun h => by cases h)
          · rw [if_neg z3] at h
            rcases bd_inl h with h | ⟨a1, c1, c1', e1, h⟩
            · exact ih 2 _ _ z (by omega) ha (by omega) h
            · obtain ⟨x1, x2, x3, x4, x5⟩ := pz_ln hr f 2 _ _ a1 c1 c1' (by omega) ha e1
              by_cases z4 : cmpP r n a1 ≠ 0
              · rw [if_pos z4] at h
                have t1 := cmp_n x1 hr z4
                refine av t1.2 h (fun h => ?_)
                rcases bd_inl h with h | ⟨a2, c2, c2', e2, h⟩
                · exact ih 2 _ _ z (by omega) t1.2 (by omega) h
                · cases h
              · rw [if_neg z4] at h; cases h; exact o1 x1
    · subst hq; rw [pz_4] at h; exact seq (by omega) (by omega) (by omega) (by decide) (by decide) h
    · subst hq; rw [pz_5] at h; exact seq (by omega) (by omega) (by omega) (by decide) (by decide) h
    · subst hq; rw [pz_6] at h; exact lop (by omega) (by omega) (by omega) (by decide) (by decide) (fun z => mul_n ha hr z) h
    · subst hq; rw [pz_7] at h; exact lop (by omega) (by omega) (by omega) (by decide) (by decide) (fun z => add_n ha hr z) h
    · subst hq; rw [pz_8] at h; exact lop (by omega) (by omega) (by omega) (by decide) (by decide) (fun z => tW_n ha hr z) h
    · subst hq; rw [pz_9] at h; exact lop (by omega) (by omega) (by omega) (by decide) (by decide) (fun z => tW_n ha hr z) h
theorem pz_ne (hr : ∀ i, 0 ≤ r i ∧ r i ≤ 255) {f q a op : Nat} (hq : q ≤ 10) (ha : a ≤ n) (hf : 12 * (n - a) + guP q + 1 ≤ f) : pz r n e f q a op ≠ .inl (0, 0) := fun h => by
  have := (pz_k hr f q a op _ hq ha hf h).1
  simp at this
end Fuel
