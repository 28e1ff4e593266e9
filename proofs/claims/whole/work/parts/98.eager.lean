/-! the reader that meets what is bad at once, and the one that meets it when it is asked for -/
section Eager
variable {r : Nat → Int} {n : Nat}
/-- what a reading that met something bad at a ends with -/
def bxP (r : Nat → Int) (n a : Nat) (y : Sum (Nat × Nat) (Nat × List Int × List Int)) : Prop := y = .inl (1, tPl r n a) ∨ ∃ a' c c', y = .inr (a', c, c') ∧ tBb r n a' = true ∧ tPl r n a' = tPl r n a ∧ a' ≤ n
def eeP (r : Nat → Int) (n : Nat) (x y : Sum (Nat × Nat) (Nat × List Int × List Int)) : Prop := (∀ w, x = .inr w → y = .inr w) ∧ ∀ z, x = .inl z → y = .inl z ∨ ∃ a' c c', y = .inr (a', c, c') ∧ tBb r n a' = true ∧ z = (1, tPl r n a') ∧ a' ≤ n
theorem eeP.rf {x : Sum (Nat × Nat) (Nat × List Int × List Int)} : eeP r n x x := ⟨fun _ h => h, fun _ h => Or.inl h⟩
theorem ee_av {a : Nat} {K K' : Nat → Sum (Nat × Nat) (Nat × List Int × List Int)} (h1 : tBb r n (tN r n a) = false → eeP r n (K (tN r n a)) (K' (tN r n a))) (h2 : tBb r n (tN r n a) = true → bxP r n (tN r n a) (K' (tN r n a))) : eeP r n (avP r n true a K) (avP r n false a K') := by
  rw [av_ff]
  by_cases q : tBb r n (tN r n a) = true
  · rw [av_b q]
    refine ⟨fun w h => (by cases h), fun z h => ?_⟩
    cases h
    rcases h2 q with h | ⟨a', c, c', h, hb, hp, hl⟩
    · exact Or.inl h
    · exact Or.inr ⟨a', c, c', h, hb, by rw [hp], hl⟩
  · have q : tBb r n (tN r n a) = false := by simpa using q
    rw [av_t q]; exact h1 q
theorem ee_bd {x y : Sum (Nat × Nat) (Nat × List Int × List Int)} {K K' : Nat → List Int → List Int → Sum (Nat × Nat) (Nat × List Int × List Int)} (h : eeP r n x y) (h1 : ∀ a c c', x = .inr (a, c, c') → eeP r n (K a c c') (K' a c c')) (h2 : ∀ a c c', y = .inr (a, c, c') → tBb r n a = true → a ≤ n → bxP r n a (K' a c c')) : eeP r n (bdP x K) (bdP y K') := by
  match x, h, h1 with
  | .inr (a, c, c'), h, h1 =>
    rw [h.1 _ rfl, bd_r, bd_r]; exact h1 a c c' rfl
  | .inl z, h, _ =>
    rcases h.2 z rfl with h | ⟨a', c, c', h, hb, hz, hl⟩
    · rw [h, bd_l, bd_l]; exact eeP.rf
    · have h2 := h2 a' c c' h hb hl
      rw [h, bd_l, bd_r]
      refine ⟨fun w h => (by cases h), fun w h => ?_⟩
      cases h
      rcases h2 with h | ⟨a2, k, k', h, hb2, hp, hl2⟩
      · rw [hz]; exact Or.inl h
      · rw [hz]; exact Or.inr ⟨a2, k, k', h, hb2, by rw [hp], hl2⟩
theorem tB_k {a : Nat} (h : tBb r n a = true) : (tk r n a).1 = 1 := of_decide_eq_true h
theorem bad_S {a : Nat} {c : Int} (h : tBb r n a = true) : tSb r n a c = false := tS_f (by rw [tB_k h]; omega)
theorem bad_W {a i : Nat} (h : tBb r n a = true) : tWb r n a i = false := tW_f (by rw [tB_k h]; omega)
theorem bad_N {a : Nat} (h : tBb r n a = true) : tNb r n a = false := tN_f (by rw [tB_k h]; omega)
theorem bad_ft {a : Nat} (h : tBb r n a = true) : ftP r n a = 0 := by unfold ftP; simp [bad_W h]
theorem bad_mul {a : Nat} (h : tBb r n a = true) : mulP r n a = 0 := by unfold mulP; simp [bad_S h]
theorem bad_add {a : Nat} (h : tBb r n a = true) : addP r n a = 0 := by unfold addP; simp [bad_S h]
theorem bad_cmp {a : Nat} (h : tBb r n a = true) : cmpP r n a = 0 := by unfold cmpP; simp [bad_S h]
theorem pb_0 {e : Bool} {f a op : Nat} (h : tBb r n a = true) : pz r n e (f + 1) 0 a op = .inl (1, tPl r n a) := by
  rw [pz_0, if_neg (by rw [bad_S h]; decide), if_neg (by rw [bad_N h]; decide), if_neg (by rw [bad_ft h]; decide), if_neg (by rw [bad_W h, bad_W h]; decide)]
theorem pb_1 {e : Bool} {f a op : Nat} (h : tBb r n a = true) : pz r n e (f + 2) 1 a op = .inl (1, tPl r n a) := by rw [pz_1, pb_0 h, bd_l]
theorem pb_2 {e : Bool} {f a op : Nat} (h : tBb r n a = true) : pz r n e (f + 3) 2 a op = .inl (1, tPl r n a) := by rw [pz_2, pb_1 h, bd_l]
theorem pb_3 {e : Bool} {f q a op : Nat} (hq : q = 3 ∨ q = 10) (h : tBb r n a = true) : pz r n e (f + 4) q a op = .inl (1, tPl r n a) := by
  rw [pz_3 hq, if_neg (by rw [bad_W h]; decide), if_neg (by rw [bad_S h]; decide), if_neg (by rw [bad_W h]; decide), pb_2 h, bd_l]
theorem pb_4 {e : Bool} {f a op : Nat} (h : tBb r n a = true) : pz r n e (f + 5) 4 a op = .inl (1, tPl r n a) := by rw [pz_4, pb_3 (Or.inl rfl) h, bd_l]
theorem pb_5 {e : Bool} {f a op : Nat} (h : tBb r n a = true) : pz r n e (f + 6) 5 a op = .inl (1, tPl r n a) := by rw [pz_5, pb_4 h, bd_l]
theorem pb_6 {e : Bool} {f a op : Nat} (h : tBb r n a = true) : pz r n e (f + 1) 6 a op = .inr (a, [], []) := by rw [pz_6, if_neg (by rw [bad_mul h]; decide)]
theorem pb_7 {e : Bool} {f a op : Nat} (h : tBb r n a = true) : pz r n e (f + 1) 7 a op = .inr (a, [], []) := by rw [pz_7, if_neg (by rw [bad_add h]; decide)]
theorem pb_8 {e : Bool} {f a op : Nat} (h : tBb r n a = true) : pz r n e (f + 1) 8 a op = .inr (a, [], []) := by rw [pz_8, if_neg (by rw [bad_W h]; decide)]
theorem pb_9 {e : Bool} {f a op : Nat} (h : tBb r n a = true) : pz r n e (f + 1) 9 a op = .inr (a, [], []) := by rw [pz_9, if_neg (by rw [bad_W h]; decide)]
theorem pb_q {e : Bool} {f q a op : Nat} (hq : q ≤ 10) (hf : guP q + 1 ≤ f) (h : tBb r n a = true) : pz r n e f q a op = if q ≤ 5 ∨ q = 10 then .inl (1, tPl r n a) else .inr (a, [], []) := by
  have hq' : q = 0 ∨ q = 1 ∨ q = 2 ∨ q = 3 ∨ q = 10 ∨ q = 4 ∨ q = 5 ∨ q = 6 ∨ q = 7 ∨ q = 8 ∨ q = 9 := by omega
  rcases hq' with hq | hq | hq | hq | hq | hq | hq | hq | hq | hq | hq <;> subst hq
  · obtain ⟨g, rfl⟩ : ∃ g, f = g + 1 := ⟨f - 1, by have : guP 0 = 0 := rfl; omega⟩
    exact pb_0 h
  · obtain ⟨g, rfl⟩ : ∃ g, f = g + 2 := ⟨f - 2, by have : guP 1 = 1 := rfl; omega⟩
    exact pb_1 h
  · obtain ⟨g, rfl⟩ : ∃ g, f = g + 3 := ⟨f - 3, by have : guP 2 = 2 := rfl; omega⟩
    exact pb_2 h
  · obtain ⟨g, rfl⟩ : ∃ g, f = g + 4 := ⟨f - 4, by have : guP 3 = 3 := rfl; omega⟩
    exact pb_3 (Or.inl rfl) h
  · obtain ⟨g, rfl⟩ : ∃ g, f = g + 4 := ⟨f - 4, by have : guP 10 = 3 := rfl; omega⟩
    exact pb_3 (Or.inr rfl) h
  · obtain ⟨g, rfl⟩ : ∃ g, f = g + 5 := ⟨f - 5, by have : guP 4 = 4 := rfl; omega⟩
    exact pb_4 h
  · obtain ⟨g, rfl⟩ : ∃ g, f = g + 6 := ⟨f - 6, by have : guP 5 = 5 := rfl; omega⟩
    exact pb_5 h
  · obtain ⟨g, rfl⟩ : ∃ g, f = g + 1 := ⟨f - 1, by omega⟩
    exact pb_6 h
  · obtain ⟨g, rfl⟩ : ∃ g, f = g + 1 := ⟨f - 1, by omega⟩
    exact pb_7 h
  · obtain ⟨g, rfl⟩ : ∃ g, f = g + 1 := ⟨f - 1, by omega⟩
    exact pb_8 h
  · obtain ⟨g, rfl⟩ : ∃ g, f = g + 1 := ⟨f - 1, by omega⟩
    exact pb_9 h
theorem bx_bd {a : Nat} {p : Nat} {f op : Nat} {K : Nat → List Int → List Int → Sum (Nat × Nat) (Nat × List Int × List Int)} (hp : p ≤ 5 ∨ p = 10) (hf : guP p + 1 ≤ f) (h : tBb r n a = true) : bxP r n a (bdP (pz r n false f p a op) K) := by
  rw [pb_q (by omega) hf h, if_pos hp, bd_l]; exact Or.inl rfl
theorem bx_lp {a s f op : Nat} {g g' : List Int → List Int} (hs : 6 ≤ s ∧ s ≤ 9) (hf : 1 ≤ f) (ha : a ≤ n) (h : tBb r n a = true) : bxP r n a (bdP (pz r n false f s a op) (fun a2 k k' => .inr (a2, g k, g' k'))) := by
  rw [pb_q (by omega) (by unfold guP; rw [if_neg (by omega), if_neg (by omega)]; omega) h, if_neg (by omega), bd_r]
  exact Or.inr ⟨a, _, _, rfl, h, rfl, ha⟩
theorem pz_ee (hr : ∀ i, 0 ≤ r i ∧ r i ≤ 255) : ∀ (f q a op : Nat), q ≤ 10 → a ≤ n → tBb r n a = false → 12 * (n - a) + guP q + 1 ≤ f → eeP r n (pz r n true f q a op) (pz r n false f q a op)
  | 0, q, a, op, _, _, _, hf => by omega
  | f + 1, q, a, op, hq, ha, nb, hf => by
    have ih := pz_ee hr f
    have seq : ∀ {p s : Nat}, (p ≤ 5 ∨ p = 10) → (6 ≤ s ∧ s ≤ 9) → guP p < guP q → eeP r n (bdP (pz r n true f p a op) (fun a1 c c' => bdP (pz r n true f s a1 op) (fun a2 k k' => .inr (a2, c ++ k, c' ++ k')))) (bdP (pz r n false f p a op) (fun a1 c c' => bdP (pz r n false f s a1 op) (fun a2 k k' => .inr (a2, c ++ k, c' ++ k')))) := fun {p s} p1 s1 g1 => by
      have gs : guP s = 0 := by unfold guP; rw [if_neg (by omega), if_neg (by omega)]
      refine ee_bd (ih p a op (by omega) ha nb (by omega)) (fun a1 c c' e1 => ?_) (fun a1 c c' e1 hb hl => ?_)
      · obtain ⟨x1, x2, x3, x4, x5⟩ := pz_ln hr f p a op a1 c c' (by omega) ha e1
        refine ee_bd (ih s a1 op (by omega) x1 (pz_nb f p a op a1 c c' (by omega) nb e1) (by omega)) (fun a2 k k' e2 => eeP.rf) (fun a2 k k' e2 hb hl => Or.inr ⟨a2, _, _, rfl, hb, rfl, hl⟩)
      · exact bx_lp s1 (by omega) hl hb
    have lop : ∀ {p s : Nat} {b : Prop} [Decidable b] {x : Int}, (p ≤ 5 ∨ p = 10) → (6 ≤ s ∧ s ≤ 9) → (b → a < tN r n a ∧ tN r n a ≤ n) → eeP r n (if b then avP r n true a (fun a1 => bdP (pz r n true f p a1 op) (fun a2 c c' => bdP (pz r n true f s a2 op) (fun a3 k k' => .inr (a3, c ++ x :: k, c' ++ x :: k')))) else .inr (a, [], [])) (if b then avP r n false a (fun a1 => bdP (pz r n false f p a1 op) (fun a2 c c' => bdP (pz r n false f s a2 op) (fun a3 k k' => .inr (a3, c ++ x :: k, c' ++ x :: k')))) else .inr (a, [], [])) := fun {p s b _ x} p1 s1 hb => by
      have gs : guP s = 0 := by unfold guP; rw [if_neg (by omega), if_neg (by omega)]
      have gp : guP p ≤ 5 := by
        unfold guP
        by_cases y1 : p ≤ 5
        · rw [if_pos y1]; exact y1
        · rw [if_neg y1]; split <;> omega
      by_cases y : b
      · have hb := hb y
        rw [if_pos y, if_pos y]
        refine ee_av (fun z => ee_bd (ih p _ op (by omega) hb.2 z (by omega)) (fun a1 c c' e1 => ?_) (fun a1 c c' e1 hb hl => ?_)) (fun z => bx_bd p1 (by omega) z)
        · obtain ⟨x1, x2, x3, x4, x5⟩ := pz_ln hr f p _ op a1 c c' (by omega) hb.2 e1
          refine ee_bd (ih s a1 op (by omega) x1 (pz_nb f p _ op a1 c c' (by omega) z e1) (by omega)) (fun a2 k k' e2 => eeP.rf) (fun a2 k k' e2 hb hl => Or.inr ⟨a2, _, _, rfl, hb, rfl, hl⟩)
        · exact bx_lp s1 (by omega) hl hb
      · rw [if_neg y, if_neg y]; exact eeP.rf
    have g2 : guP 2 = 2 := rfl
    have g5 : guP 5 = 5 := rfl
    -- a closing sign
    have clo : ∀ {a1 : Nat} {s : Int} {c c' : List Int}, a1 ≤ n → eeP r n (if tSb r n a1 s = true then avP r n true a1 (fun a3 => .inr (a3, c, c')) else .inl (1, tPl r n a1)) (if tSb r n a1 s = true then avP r n false a1 (fun a3 => .inr (a3, c, c')) else .inl (1, tPl r n a1)) := fun {a1 s c c'} h1 => by
      by_cases y : tSb r n a1 s = true
      · rw [if_pos y, if_pos y]
        exact ee_av (fun _ => eeP.rf) (fun z => Or.inr ⟨_, _, _, rfl, z, rfl, (tS_n h1 hr y).2⟩)
      · rw [if_neg y, if_neg y]; exact eeP.rf
    have hq' : q = 0 ∨ q = 1 ∨ q = 2 ∨ (q = 3 ∨ q = 10) ∨ q = 4 ∨ q = 5 ∨ q = 6 ∨ q = 7 ∨ q = 8 ∨ q = 9 := by omega
    rcases hq' with hq | hq | hq | hq | hq | hq | hq | hq | hq | hq
    · subst hq
      rw [pz_0, pz_0]
      by_cases z1 : tSb r n a 40 = true
      · rw [if_pos z1, if_pos z1]
        have t1 := tS_n ha hr z1
        by_cases z2 : 8 ≤ op
        · rw [if_pos z2, if_pos z2]; exact eeP.rf
        · rw [if_neg z2, if_neg z2]
          refine ee_av (fun z => ee_bd (ih 2 _ _ (by omega) t1.2 z (by omega)) (fun a1 c c' e1 => ?_) (fun a1 c c' e1 hb hl => ?_)) (fun z => bx_bd (by omega) (by omega) z)
          · obtain ⟨x1, x2, x3, x4, x5⟩ := pz_ln hr f 2 _ _ a1 c c' (by omega) t1.2 e1
            exact clo x1
          · rw [if_neg (by rw [bad_S hb]; decide)]; exact Or.inl rfl
      · rw [if_neg z1, if_neg z1]
        have one : ∀ {x : Int}, (a < tN r n a ∧ tN r n a ≤ n) → eeP r n (avP r n true a (fun a1 => .inr (a1, [x], [x]))) (avP r n false a (fun a1 => .inr (a1, [x], [x]))) := fun {x} t => ee_av (fun _ => eeP.rf) (fun z => Or.inr ⟨_, _, _, rfl, z, rfl, t.2⟩)
        by_cases z2 : tNb r n a = true
        · rw [if_pos z2, if_pos z2]
          exact one (tN_lt ha hr (by have := of_decide_eq_true z2; omega))
        · rw [if_neg z2, if_neg z2]
          by_cases z3 : ftP r n a ≠ 0
          · rw [if_pos z3, if_pos z3]
            exact one (ft_n ha hr z3)
          · rw [if_neg z3, if_neg z3]
            by_cases z4 : tWb r n a 27 = true ∨ tWb r n a 28 = true
            · rw [if_pos z4, if_pos z4]
              have t0 : a < tN r n a ∧ tN r n a ≤ n := by
                rcases z4 with z4 | z4
                · exact tW_n ha hr z4
                · exact tW_n ha hr z4
              refine ee_av (fun z => ?_) (fun z => by rw [if_neg (by rw [bad_S z]; decide)]; exact Or.inl rfl)
              by_cases z5 : tSb r n (tN r n a) 40 = true
              · rw [if_pos z5, if_pos z5]
                have t1 := tS_n t0.2 hr z5
                by_cases z6 : 8 ≤ op
                · rw [if_pos z6, if_pos z6]; exact eeP.rf
                · rw [if_neg z6, if_neg z6]
                  refine ee_av (fun z => ee_bd (ih 2 _ _ (by omega) t1.2 z (by omega)) (fun a1 c c' e1 => ?_) (fun a1 c c' e1 hb hl => ?_)) (fun z => bx_bd (by omega) (by omega) z)
                  · obtain ⟨x1, x2, x3, x4, x5⟩ := pz_ln hr f 2 _ _ a1 c c' (by omega) t1.2 e1
                    by_cases z7 : tSb r n a1 44 = true
                    · rw [if_pos z7, if_pos z7]
                      have t2 := tS_n x1 hr z7
                      refine ee_av (fun z => ee_bd (ih 2 _ _ (by omega) t2.2 z (by omega)) (fun a2 k k' e2 => ?_) (fun a2 k k' e2 hb hl => ?_)) (fun z => bx_bd (by omega) (by omega) z)
                      · obtain ⟨y1, y2, y3, y4, y5⟩ := pz_ln hr f 2 _ _ a2 k k' (by omega) t2.2 e2
                        exact clo y1
                      · rw [if_neg (by rw [bad_S hb]; decide)]; exact Or.inl rfl
                    · rw [if_neg z7, if_neg z7]; exact eeP.rf
                  · rw [if_neg (by rw [bad_S hb]; decide)]; exact Or.inl rfl
              · rw [if_neg z5, if_neg z5]; exact eeP.rf
            · rw [if_neg z4, if_neg z4]; exact eeP.rf
    · subst hq; rw [pz_1, pz_1]; exact seq (by omega) (by omega) (by decide)
    · subst hq; rw [pz_2, pz_2]; exact seq (by omega) (by omega) (by decide)
    · rw [pz_3 hq, pz_3 hq]
      have gq : guP q = 3 := by rcases hq with h | h <;> subst h <;> rfl
      by_cases z1 : tWb r n a 20 = true
      · rw [if_pos z1, if_pos z1]
        have t1 := tW_n ha hr z1
        have g13 : guP (13 - q) = 3 := by rcases hq with h | h <;> subst h <;> rfl
        refine ee_av (fun z => ee_bd (ih (13 - q) _ op (by omega) t1.2 z (by omega)) (fun a1 c c' e1 => eeP.rf) (fun a1 c c' e1 hb hl => Or.inr ⟨_, _, _, rfl, hb, rfl, hl⟩)) (fun z => bx_bd (by omega) (by omega) z)
      · rw [if_neg z1, if_neg z1]
        by_cases z2 : tSb r n a 91 = true
        · rw [if_pos z2, if_pos z2]
          have t1 := tS_n ha hr z2
          by_cases z3 : 8 ≤ op
          · rw [if_pos z3, if_pos z3]; exact eeP.rf
          · rw [if_neg z3, if_neg z3]
            refine ee_av (fun z => ee_bd (ih 5 _ _ (by omega) t1.2 z (by omega)) (fun a1 c c' e1 => ?_) (fun a1 c c' e1 hb hl => ?_)) (fun z => bx_bd (by omega) (by omega) z)
            · obtain ⟨x1, x2, x3, x4, x5⟩ := pz_ln hr f 5 _ _ a1 c c' (by omega) t1.2 e1
              exact clo x1
            · rw [if_neg (by rw [bad_S hb]; decide)]; exact Or.inl rfl
        · rw [if_neg z2, if_neg z2]
          by_cases z3 : tWb r n a 21 = true
          · rw [if_pos z3, if_pos z3]
            exact ee_av (fun _ => eeP.rf) (fun z => Or.inr ⟨_, _, _, rfl, z, rfl, (tW_n ha hr z3).2⟩)
          · rw [if_neg z3, if_neg z3]
            refine ee_bd (ih 2 _ _ (by omega) ha nb (by omega)) (fun a1 c c' e1 => ?_) (fun a1 c c' e1 hb hl => ?_)
            · obtain ⟨x1, x2, x3, x4, x5⟩ := pz_ln hr f 2 _ _ a1 c c' (by omega) ha e1
              by_cases z4 : cmpP r n a1 ≠ 0
              · rw [if_pos z4, if_pos z4]
                have t1 := cmp_n x1 hr z4
                exact ee_av (fun z => ee_bd (ih 2 _ _ (by omega) t1.2 z (by omega)) (fun a2 k k' e2 => eeP.rf) (fun a2 k k' e2 hb hl => Or.inr ⟨_, _, _, rfl, hb, rfl, hl⟩)) (fun z => bx_bd (by omega) (by omega) z)
              · rw [if_neg z4, if_neg z4]; exact eeP.rf
            · rw [if_neg (by rw [bad_cmp hb]; decide)]; exact Or.inl rfl
    · subst hq; rw [pz_4, pz_4]; exact seq (by omega) (by omega) (by decide)
    · subst hq; rw [pz_5, pz_5]; exact seq (by omega) (by omega) (by decide)
    · subst hq; rw [pz_6, pz_6]; exact lop (by omega) (by omega) (fun z => mul_n ha hr z)
    · subst hq; rw [pz_7, pz_7]; exact lop (by omega) (by omega) (fun z => add_n ha hr z)
    · subst hq; rw [pz_8, pz_8]; exact lop (by omega) (by omega) (fun z => tW_n ha hr z)
    · subst hq; rw [pz_9, pz_9]; exact lop (by omega) (by omega) (fun z => tW_n ha hr z)
end Eager
