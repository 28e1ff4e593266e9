/-! where a reading ends -/
section PEnd
variable {r : Nat → Int} {n : Nat} {e : Bool}
def enP (r : Nat → Int) (n q a a' : Nat) : Prop := (q = 1 ∨ q = 6 → mulP r n a' = 0) ∧ (q = 2 → mulP r n a' = 0 ∧ addP r n a' = 0) ∧ (q = 7 → addP r n a' = 0 ∧ (mulP r n a = 0 → mulP r n a' = 0)) ∧ (q = 4 ∨ q = 8 → tWb r n a' 19 = false) ∧ (q = 5 → tWb r n a' 19 = false ∧ tWb r n a' 18 = false) ∧ (q = 9 → tWb r n a' 18 = false ∧ (tWb r n a 19 = false → tWb r n a' 19 = false))
theorem pz_en : ∀ (f q a op a' : Nat) (c c' : List Int), pz r n e f q a op = .inr (a', c, c') → enP r n q a a'
  | 0, q, a, op, a', c, c', h => by cases h
  | f + 1, q, a, op, a', c, c', h => by
    have ih := pz_en f
    have no : q ≠ 1 → q ≠ 6 → q ≠ 2 → q ≠ 7 → q ≠ 4 → q ≠ 8 → q ≠ 5 → q ≠ 9 → enP r n q a a' := fun a1 a2 a3 a4 a5 a6 a7 a8 => ⟨fun y => by omega, fun y => by omega, fun y => by omega, fun y => by omega, fun y => by omega, fun y => by omega⟩
    by_cases h1 : q = 1
    · subst h1
      rw [pz_1] at h
      obtain ⟨a1, c1, c1', e1, h⟩ := bd_inr h
      obtain ⟨a2, c2, c2', e2, h⟩ := bd_inr h
      cases h
      have := (ih 6 a1 op a' c2 c2' e2).1 (Or.inr rfl)
      exact ⟨fun _ => this, fun y => by omega, fun y => by omega, fun y => by omega, fun y => by omega, fun y => by omega⟩
    by_cases h6 : q = 6
    · subst h6
      rw [pz_6] at h
      by_cases z : mulP r n a ≠ 0
      · rw [if_pos z] at h
        obtain ⟨a1, c1, c1', e1, h⟩ := bd_inr (av_inr h)
        obtain ⟨a2, c2, c2', e2, h⟩ := bd_inr h
        cases h
        have := (ih 6 a1 op a' c2 c2' e2).1 (Or.inr rfl)
        exact ⟨fun _ => this, fun y => by omega, fun y => by omega, fun y => by omega, fun y => by omega, fun y => by omega⟩
      · rw [if_neg z] at h
        cases h
        exact ⟨fun _ => by omega, fun y => by omega, fun y => by omega, fun y => by omega, fun y => by omega, fun y => by omega⟩
    by_cases h2 : q = 2
    · subst h2
      rw [pz_2] at h
      obtain ⟨a1, c1, c1', e1, h⟩ := bd_inr h
      obtain ⟨a2, c2, c2', e2, h⟩ := bd_inr h
      cases h
      have m1 := (ih 1 a op a1 c1 c1' e1).1 (Or.inl rfl)
      have := (ih 7 a1 op a' c2 c2' e2).2.2.1 rfl
      exact ⟨fun y => by omega, fun _ => ⟨this.2 m1, this.1⟩, fun y => by omega, fun y => by omega, fun y => by omega, fun y => by omega⟩
    by_cases h7 : q = 7
    · subst h7
      rw [pz_7] at h
      by_cases z : addP r n a ≠ 0
      · rw [if_pos z] at h
        obtain ⟨a1, c1, c1', e1, h⟩ := bd_inr (av_inr h)
        obtain ⟨a2, c2, c2', e2, h⟩ := bd_inr h
        cases h
        have m1 := (ih 1 _ op a1 c1 c1' e1).1 (Or.inl rfl)
        have := (ih 7 a1 op a' c2 c2' e2).2.2.1 rfl
        exact ⟨fun y => by omega, fun y => by omega, fun _ => ⟨this.1, fun _ => this.2 m1⟩, fun y => by omega, fun y => by omega, fun y => by omega⟩
      · rw [if_neg z] at h
        cases h
        exact ⟨fun y => by omega, fun y => by omega, fun _ => ⟨by omega, fun y => y⟩, fun y => by omega, fun y => by omega, fun y => by omega⟩
    by_cases h4 : q = 4
    · subst h4
      rw [pz_4] at h
      obtain ⟨a1, c1, c1', e1, h⟩ := bd_inr h
      obtain ⟨a2, c2, c2', e2, h⟩ := bd_inr h
      cases h
      have := (ih 8 a1 op a' c2 c2' e2).2.2.2.1 (Or.inr rfl)
      exact ⟨fun y => by omega, fun y => by omega, fun y => by omega, fun _ => this, fun y => by omega, fun y => by omega⟩
    by_cases h8 : q = 8
    · subst h8
      rw [pz_8] at h
      by_cases z : tWb r n a 19 = true
      · rw [if_pos z] at h
        obtain ⟨a1, c1, c1', e1, h⟩ := bd_inr (av_inr h)
        obtain ⟨a2, c2, c2', e2, h⟩ := bd_inr h
        cases h
        have := (ih 8 a1 op a' c2 c2' e2).2.2.2.1 (Or.inr rfl)
        exact ⟨fun y => by omega, fun y => by omega, fun y => by omega, fun _ => this, fun y => by omega, fun y => by omega⟩
      · rw [if_neg z] at h
        cases h
        exact ⟨fun y => by omega, fun y => by omega, fun y => by omega, fun _ => by simpa using z, fun y => by omega, fun y => by omega⟩
    by_cases h5 : q = 5
    · subst h5
      rw [pz_5] at h
      obtain ⟨a1, c1, c1', e1, h⟩ := bd_inr h
      obtain ⟨a2, c2, c2', e2, h⟩ := bd_inr h
      cases h
      have m1 := (ih 4 a op a1 c1 c1' e1).2.2.2.1 (Or.inl rfl)
      have := (ih 9 a1 op a' c2 c2' e2).2.2.2.2.2 rfl
      exact ⟨fun y => by omega, fun y => by omega, fun y => by omega, fun y => by omega, fun _ => ⟨this.2 m1, this.1⟩, fun y => by omega⟩
    by_cases h9 : q = 9
    · subst h9
      rw [pz_9] at h
      by_cases z : tWb r n a 18 = true
      · rw [if_pos z] at h
        obtain ⟨a1, c1, c1', e1, h⟩ := bd_inr (av_inr h)
        obtain ⟨a2, c2, c2', e2, h⟩ := bd_inr h
        cases h
        have m1 := (ih 4 _ op a1 c1 c1' e1).2.2.2.1 (Or.inl rfl)
        have := (ih 9 a1 op a' c2 c2' e2).2.2.2.2.2 rfl
        exact ⟨fun y => by omega, fun y => by omega, fun y => by omega, fun y => by omega, fun y => by omega, fun _ => ⟨this.1, fun _ => this.2 m1⟩⟩
      · rw [if_neg z] at h
        cases h
        exact ⟨fun y => by omega, fun y => by omega, fun y => by omega, fun y => by omega, fun y => by omega, fun _ => ⟨by simpa using z, fun y => y⟩⟩
    exact no h1 h6 h2 h7 h4 h8 h5 h9
theorem av_nb {a : Nat} {K : Nat → Sum (Nat × Nat) (Nat × List Int × List Int)} {x : Nat × List Int × List Int} (h : avP r n true a K = .inr x) : tBb r n (tN r n a) = false := by
  unfold avP at h
  by_cases q : (true && tBb r n (tN r n a)) = true
  · rw [if_pos q] at h; cases h
  · rw [Bool.true_and] at q; simpa using q
/-- the eager reader never stands before what is bad -/
theorem pz_nb : ∀ (f q a op a' : Nat) (c c' : List Int), q ≤ 10 → tBb r n a = false → pz r n true f q a op = .inr (a', c, c') → tBb r n a' = false
  | 0, q, a, op, a', c, c', _, _, h => by cases h
  | f + 1, q, a, op, a', c, c', hq, hb, h => by
    have ih := pz_nb f
    have seq : ∀ {p s : Nat}, p ≤ 10 → s ≤ 10 → bdP (pz r n true f p a op) (fun a1 c c' => bdP (pz r n true f s a1 op) (fun a2 k k' => .inr (a2, c ++ k, c' ++ k'))) = .inr (a', c, c') → tBb r n a' = false := fun {p s} p1 s1 h => by
      obtain ⟨a1, c1, c1', e1, h⟩ := bd_inr h
      obtain ⟨a2, c2, c2', e2, h⟩ := bd_inr h
      cases h
      exact ih s a1 op a' c2 c2' s1 (ih p a op a1 c1 c1' p1 hb e1) e2
    have lop : ∀ {p q : Nat} {b : Prop} [Decidable b] {x : Int}, p ≤ 10 → q ≤ 10 → (if b then avP r n true a (fun a1 => bdP (pz r n true f p a1 op) (fun a2 c c' => bdP (pz r n true f q a2 op) (fun a3 k k' => .inr (a3, c ++ x :: k, c' ++ x :: k')))) else .inr (a, [], [])) = .inr (a', c, c') → tBb r n a' = false := fun {p q b _ x} p1 q1 h => by
      by_cases z : b
      · rw [if_pos z] at h
        have nb := av_nb h
        obtain ⟨a1, c1, c1', e1, h⟩ := bd_inr (av_inr h)
        obtain ⟨a2, c2, c2', e2, h⟩ := bd_inr h
        cases h
        exact ih q a1 op a' c2 c2' q1 (ih p _ op a1 c1 c1' p1 nb e1) e2
      · rw [if_neg z] at h
        cases h
        exact hb
    have hq' : q = 0 ∨ q = 1 ∨ q = 2 ∨ (q = 3 ∨ q = 10) ∨ q = 4 ∨ q = 5 ∨ q = 6 ∨ q = 7 ∨ q = 8 ∨ q = 9 := by omega
    rcases hq' with hq | hq | hq | hq | hq | hq | hq | hq | hq | hq
    · subst hq
      rw [pz_0] at h
      by_cases z1 : tSb r n a 40 = true
      · rw [if_pos z1] at h
        by_cases z2 : 8 ≤ op
        · rw [if_pos z2] at h; cases h
        · rw [if_neg z2] at h
          obtain ⟨a1, c1, c1', e1, h⟩ := bd_inr (av_inr h)
          by_cases z3 : tSb r n a1 41 = true
          · rw [if_pos z3] at h
            have nb := av_nb h
            have h := av_inr h
            cases h; exact nb
          · rw [if_neg z3] at h; cases h
      · rw [if_neg z1] at h
        have one : ∀ {x : Int}, avP r n true a (fun a1 => .inr (a1, [x], [x])) = .inr (a', c, c') → tBb r n a' = false := fun {x} h => by
          have nb := av_nb h
          have h := av_inr h
          cases h; exact nb
        by_cases z2 : tNb r n a = true
        · rw [if_pos z2] at h; exact one h
        · rw [if_neg z2] at h
          by_cases z3 : ftP r n a ≠ 0
          · rw [if_pos z3] at h; exact one h
          · rw [if_neg z3] at h
            by_cases z4 : tWb r n a 27 = true ∨ tWb r n a 28 = true
            · rw [if_pos z4] at h
              have h := av_inr h
              by_cases z5 : tSb r n (tN r n a) 40 = true
              · rw [if_pos z5] at h
                by_cases z6 : 8 ≤ op
                · rw [if_pos z6] at h; cases h
                · rw [if_neg z6] at h
                  obtain ⟨a1, c1, c1', e1, h⟩ := bd_inr (av_inr h)
                  by_cases z7 : tSb r n a1 44 = true
                  · rw [if_pos z7] at h
                    obtain ⟨a2, c2, c2', e2, h⟩ := bd_inr (av_inr h)
                    by_cases z8 : tSb r n a2 41 = true
                    · rw [if_pos z8] at h
                      have nb := av_nb h
                      have h := av_inr h
                      cases h; exact nb
                    · rw [if_neg z8] at h; cases h
                  · rw [if_neg z7] at h; cases h
              · rw [if_neg z5] at h; cases h
            · rw [if_neg z4] at h; cases h
    · subst hq; rw [pz_1] at h; exact seq (by omega) (by omega) h
    · subst hq; rw [pz_2] at h; exact seq (by omega) (by omega) h
    · rw [pz_3 hq] at h
      by_cases z1 : tWb r n a 20 = true
      · rw [if_pos z1] at h
        have nb := av_nb h
        obtain ⟨a1, c1, c1', e1, h⟩ := bd_inr (av_inr h)
        cases h
        exact ih (13 - q) _ op a' c c1' (by omega) nb e1
      · rw [if_neg z1] at h
        by_cases z2 : tSb r n a 91 = true
        · rw [if_pos z2] at h
          by_cases z3 : 8 ≤ op
          · rw [if_pos z3] at h; cases h
          · rw [if_neg z3] at h
            obtain ⟨a1, c1, c1', e1, h⟩ := bd_inr (av_inr h)
            by_cases z4 : tSb r n a1 93 = true
            · rw [if_pos z4] at h
              have nb := av_nb h
              have h := av_inr h
              cases h; exact nb
            · rw [if_neg z4] at h; cases h
        · rw [if_neg z2] at h
          by_cases z3 : tWb r n a 21 = true
          · rw [if_pos z3] at h
            have nb := av_nb h
            have h := av_inr h
            cases h; exact nb
          · rw [if_neg z3] at h
            obtain ⟨a1, c1, c1', e1, h⟩ := bd_inr h
            by_cases z4 : cmpP r n a1 ≠ 0
            · rw [if_pos z4] at h
              have nb := av_nb h
              obtain ⟨a2, c2, c2', e2, h⟩ := bd_inr (av_inr h)
              cases h
              exact ih 2 _ op a' c2 c2' (by omega) nb e2
            · rw [if_neg z4] at h; cases h
    · subst hq; rw [pz_4] at h; exact seq (by omega) (by omega) h
    · subst hq; rw [pz_5] at h; exact seq (by omega) (by omega) h
    · subst hq; rw [pz_6] at h; exact lop (by omega) (by omega) h
    · subst hq; rw [pz_7] at h; exact lop (by omega) (by omega) h
    · subst hq; rw [pz_8] at h; exact lop (by omega) (by omega) h
    · subst hq; rw [pz_9] at h; exact lop (by omega) (by omega) h
end PEnd
