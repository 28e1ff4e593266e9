/-! sums and tests as they are read: the place behind, the class's steps, the reference's -/
def tS0 (r : Nat → Int) (n a : Nat) (c : Int) : Prop := (tk r n a).1 = 2 ∧ (tk r n a).2.2.1 = c
def tW0 (r : Nat → Int) (n a i : Nat) : Prop := (tk r n a).1 = 4 ∧ (tk r n a).2.2.1 = owW.getD i 0
def tSb (r : Nat → Int) (n a : Nat) (c : Int) : Bool := decide ((tk r n a).1 = 2 ∧ (tk r n a).2.2.1 = c)
def tWb (r : Nat → Int) (n a i : Nat) : Bool := decide ((tk r n a).1 = 4 ∧ (tk r n a).2.2.1 = owW.getD i 0)
def tNb (r : Nat → Int) (n a : Nat) : Bool := decide ((tk r n a).1 = 3)
def tBb (r : Nat → Int) (n a : Nat) : Bool := decide ((tk r n a).1 = 1)
def tPl (r : Nat → Int) (n a : Nat) : Nat := (tk r n a).2.1
def tV (r : Nat → Int) (n a : Nat) : Int := (tk r n a).2.2.1
def tN (r : Nat → Int) (n a : Nat) : Nat := (tk r n a).2.2.2
/-- on to the next token; e: a bad one is met at once -/
def avP (r : Nat → Int) (n : Nat) (e : Bool) (a : Nat) (K : Nat → Sum (Nat × Nat) (Nat × List Int × List Int)) : Sum (Nat × Nat) (Nat × List Int × List Int) :=
  if (e && tBb r n (tN r n a)) = true then .inl (1, tPl r n (tN r n a)) else K (tN r n a)
def bdP (x : Sum (Nat × Nat) (Nat × List Int × List Int)) (K : Nat → List Int → List Int → Sum (Nat × Nat) (Nat × List Int × List Int)) : Sum (Nat × Nat) (Nat × List Int × List Int) :=
  match x with
  | .inl z => .inl z
  | .inr (a, c, c') => K a c c'
/-- the fact words: sum first last old here, kept -/
def ftP (r : Nat → Int) (n a : Nat) : Int := if tWb r n a 22 = true then -1 else if tWb r n a 23 = true then -2 else if tWb r n a 24 = true then -3 else if tWb r n a 25 = true then -4 else if tWb r n a 26 = true then -5 else if tWb r n a 6 = true then -6 else 0
def mulP (r : Nat → Int) (n a : Nat) : Int := if tSb r n a 42 = true then -10 else if tSb r n a 47 = true then -11 else if tSb r n a 37 = true then -12 else 0
def addP (r : Nat → Int) (n a : Nat) : Int := if tSb r n a 43 = true then -8 else if tSb r n a 45 = true then -9 else 0
def cmpP (r : Nat → Int) (n a : Nat) : Int := if tSb r n a 60 = true then -15 else if tSb r n a 62 = true then -16 else if tSb r n a 61 = true then -17 else 0
/-- q: 0 part, 1 product, 2 sum, 3 fact, 4 both, 5 test, 6 to 9 what follows in a product, a sum, both, a test; 10 a fact behind an odd row of not -/
def pz (r : Nat → Int) (n : Nat) (e : Bool) : Nat → Nat → Nat → Nat → Sum (Nat × Nat) (Nat × List Int × List Int)
  | 0, _, _, _ => .inl (0, 0)
  | f + 1, q, a, op =>
    if q = 0 then
      (if tSb r n a 40 = true then (if 8 ≤ op then .inl (5, tPl r n a) else
        avP r n e a (fun a1 => bdP (pz r n e f 2 a1 (op + 1)) (fun a2 c c' => if tSb r n a2 41 = true then avP r n e a2 (fun a3 => .inr (a3, c, c')) else .inl (1, tPl r n a2))))
      else if tNb r n a = true then avP r n e a (fun a1 => .inr (a1, [tV r n a], [tV r n a]))
      else if ftP r n a ≠ 0 then avP r n e a (fun a1 => .inr (a1, [ftP r n a], [ftP r n a]))
      else if tWb r n a 27 = true ∨ tWb r n a 28 = true then
        avP r n e a (fun a1 => if tSb r n a1 40 = true then (if 8 ≤ op then .inl (5, tPl r n a1) else
          avP r n e a1 (fun a2 => bdP (pz r n e f 2 a2 (op + 1)) (fun a3 c c' => if tSb r n a3 44 = true then
            avP r n e a3 (fun a4 => bdP (pz r n e f 2 a4 (op + 1)) (fun a5 k k' => if tSb r n a5 41 = true then
              avP r n e a5 (fun a6 => .inr (a6, c ++ k ++ [if tWb r n a 27 = true then -13 else -14], c' ++ k' ++ [if tWb r n a 27 = true then -13 else -14]))
              else .inl (1, tPl r n a5)))
            else .inl (1, tPl r n a3))))
          else .inl (1, tPl r n a1))
      else .inl (1, tPl r n a))
    else if q = 1 then bdP (pz r n e f 0 a op) (fun a1 c c' => bdP (pz r n e f 6 a1 op) (fun a2 k k' => .inr (a2, c ++ k, c' ++ k')))
    else if q = 2 then bdP (pz r n e f 1 a op) (fun a1 c c' => bdP (pz r n e f 7 a1 op) (fun a2 k k' => .inr (a2, c ++ k, c' ++ k')))
    else if q = 6 then (if mulP r n a ≠ 0 then avP r n e a (fun a1 => bdP (pz r n e f 0 a1 op) (fun a2 c c' => bdP (pz r n e f 6 a2 op) (fun a3 k k' => .inr (a3, c ++ mulP r n a :: k, c' ++ mulP r n a :: k')))) else .inr (a, [], []))
    else if q = 7 then (if addP r n a ≠ 0 then avP r n e a (fun a1 => bdP (pz r n e f 1 a1 op) (fun a2 c c' => bdP (pz r n e f 7 a2 op) (fun a3 k k' => .inr (a3, c ++ addP r n a :: k, c' ++ addP r n a :: k')))) else .inr (a, [], []))
    else if q = 3 ∨ q = 10 then
      (if tWb r n a 20 = true then avP r n e a (fun a1 => bdP (pz r n e f (13 - q) a1 op) (fun a2 c c' => .inr (a2, c, c' ++ [-7])))
      else if tSb r n a 91 = true then (if 8 ≤ op then .inl (5, tPl r n a) else
        avP r n e a (fun a1 => bdP (pz r n e f 5 a1 (op + 1)) (fun a2 c c' => if tSb r n a2 93 = true then avP r n e a2 (fun a3 => .inr (a3, c ++ (if q = 3 then [] else [-7]), c')) else .inl (1, tPl r n a2))))
      else if tWb r n a 21 = true then avP r n e a (fun a1 => .inr (a1, 1 :: (if q = 3 then [] else [-7]), [1]))
      else bdP (pz r n e f 2 a op) (fun a1 c c' => if cmpP r n a1 ≠ 0 then avP r n e a1 (fun a2 => bdP (pz r n e f 2 a2 op) (fun a3 k k' => .inr (a3, c ++ k ++ cmpP r n a1 :: (if q = 3 then [] else [-7]), c' ++ k' ++ [cmpP r n a1]))) else .inl (1, tPl r n a1)))
    else if q = 4 then bdP (pz r n e f 3 a op) (fun a1 c c' => bdP (pz r n e f 8 a1 op) (fun a2 k k' => .inr (a2, c ++ k, c' ++ k')))
    else if q = 5 then bdP (pz r n e f 4 a op) (fun a1 c c' => bdP (pz r n e f 9 a1 op) (fun a2 k k' => .inr (a2, c ++ k, c' ++ k')))
    else if q = 8 then (if tWb r n a 19 = true then avP r n e a (fun a1 => bdP (pz r n e f 3 a1 op) (fun a2 c c' => bdP (pz r n e f 8 a2 op) (fun a3 k k' => .inr (a3, c ++ (-18) :: k, c' ++ (-18) :: k')))) else .inr (a, [], []))
    else (if tWb r n a 18 = true then avP r n e a (fun a1 => bdP (pz r n e f 4 a1 op) (fun a2 c c' => bdP (pz r n e f 9 a2 op) (fun a3 k k' => .inr (a3, c ++ (-19) :: k, c' ++ (-19) :: k')))) else .inr (a, [], []))
section Parse
variable {r : Nat → Int} {n : Nat} {e : Bool}
theorem pz_0 {f a op : Nat} : pz r n e (f + 1) 0 a op = (if tSb r n a 40 = true then (if 8 ≤ op then .inl (5, tPl r n a) else
        avP r n e a (fun a1 => bdP (pz r n e f 2 a1 (op + 1)) (fun a2 c c' => if tSb r n a2 41 = true then avP r n e a2 (fun a3 => .inr (a3, c, c')) else .inl (1, tPl r n a2))))
      else if tNb r n a = true then avP r n e a (fun a1 => .inr (a1, [tV r n a], [tV r n a]))
      else if ftP r n a ≠ 0 then avP r n e a (fun a1 => .inr (a1, [ftP r n a], [ftP r n a]))
      else if tWb r n a 27 = true ∨ tWb r n a 28 = true then
        avP r n e a (fun a1 => if tSb r n a1 40 = true then (if 8 ≤ op then .inl (5, tPl r n a1) else
          avP r n e a1 (fun a2 => bdP (pz r n e f 2 a2 (op + 1)) (fun a3 c c' => if tSb r n a3 44 = true then
            avP r n e a3 (fun a4 => bdP (pz r n e f 2 a4 (op + 1)) (fun a5 k k' => if tSb r n a5 41 = true then
              avP r n e a5 (fun a6 => .inr (a6, c ++ k ++ [if tWb r n a 27 = true then -13 else -14], c' ++ k' ++ [if tWb r n a 27 = true then -13 else -14]))
              else .inl (1, tPl r n a5)))
            else .inl (1, tPl r n a3))))
          else .inl (1, tPl r n a1))
      else .inl (1, tPl r n a)) := rfl
theorem pz_1 {f a op : Nat} : pz r n e (f + 1) 1 a op = bdP (pz r n e f 0 a op) (fun a1 c c' => bdP (pz r n e f 6 a1 op) (fun a2 k k' => .inr (a2, c ++ k, c' ++ k'))) := rfl
theorem pz_2 {f a op : Nat} : pz r n e (f + 1) 2 a op = bdP (pz r n e f 1 a op) (fun a1 c c' => bdP (pz r n e f 7 a1 op) (fun a2 k k' => .inr (a2, c ++ k, c' ++ k'))) := rfl
theorem pz_6 {f a op : Nat} : pz r n e (f + 1) 6 a op = (if mulP r n a ≠ 0 then avP r n e a (fun a1 => bdP (pz r n e f 0 a1 op) (fun a2 c c' => bdP (pz r n e f 6 a2 op) (fun a3 k k' => .inr (a3, c ++ mulP r n a :: k, c' ++ mulP r n a :: k')))) else .inr (a, [], [])) := rfl
theorem pz_7 {f a op : Nat} : pz r n e (f + 1) 7 a op = (if addP r n a ≠ 0 then avP r n e a (fun a1 => bdP (pz r n e f 1 a1 op) (fun a2 c c' => bdP (pz r n e f 7 a2 op) (fun a3 k k' => .inr (a3, c ++ addP r n a :: k, c' ++ addP r n a :: k')))) else .inr (a, [], [])) := rfl
theorem pz_3 {f q a op : Nat} (hq : q = 3 ∨ q = 10) : pz r n e (f + 1) q a op = (if tWb r n a 20 = true then avP r n e a (fun a1 => bdP (pz r n e f (13 - q) a1 op) (fun a2 c c' => .inr (a2, c, c' ++ [-7])))
      else if tSb r n a 91 = true then (if 8 ≤ op then .inl (5, tPl r n a) else
        avP r n e a (fun a1 => bdP (pz r n e f 5 a1 (op + 1)) (fun a2 c c' => if tSb r n a2 93 = true then avP r n e a2 (fun a3 => .inr (a3, c ++ (if q = 3 then [] else [-7]), c')) else .inl (1, tPl r n a2))))
      else if tWb r n a 21 = true then avP r n e a (fun a1 => .inr (a1, 1 :: (if q = 3 then [] else [-7]), [1]))
      else bdP (pz r n e f 2 a op) (fun a1 c c' => if cmpP r n a1 ≠ 0 then avP r n e a1 (fun a2 => bdP (pz r n e f 2 a2 op) (fun a3 k k' => .inr (a3, c ++ k ++ cmpP r n a1 :: (if q = 3 then [] else [-7]), c' ++ k' ++ [cmpP r n a1]))) else .inl (1, tPl r n a1))) := by
  rcases hq with h | h <;> subst h <;> rfl
theorem pz_4 {f a op : Nat} : pz r n e (f + 1) 4 a op = bdP (pz r n e f 3 a op) (fun a1 c c' => bdP (pz r n e f 8 a1 op) (fun a2 k k' => .inr (a2, c ++ k, c' ++ k'))) := rfl
theorem pz_5 {f a op : Nat} : pz r n e (f + 1) 5 a op = bdP (pz r n e f 4 a op) (fun a1 c c' => bdP (pz r n e f 9 a1 op) (fun a2 k k' => .inr (a2, c ++ k, c' ++ k'))) := rfl
theorem pz_8 {f a op : Nat} : pz r n e (f + 1) 8 a op = (if tWb r n a 19 = true then avP r n e a (fun a1 => bdP (pz r n e f 3 a1 op) (fun a2 c c' => bdP (pz r n e f 8 a2 op) (fun a3 k k' => .inr (a3, c ++ (-18) :: k, c' ++ (-18) :: k')))) else .inr (a, [], [])) := rfl
theorem pz_9 {f a op : Nat} : pz r n e (f + 1) 9 a op = (if tWb r n a 18 = true then avP r n e a (fun a1 => bdP (pz r n e f 4 a1 op) (fun a2 c c' => bdP (pz r n e f 9 a2 op) (fun a3 k k' => .inr (a3, c ++ (-19) :: k, c' ++ (-19) :: k')))) else .inr (a, [], [])) := rfl
theorem av_inr {a : Nat} {K : Nat → Sum (Nat × Nat) (Nat × List Int × List Int)} {x : Nat × List Int × List Int} (h : avP r n e a K = .inr x) : K (tN r n a) = .inr x := by
  unfold avP at h
  split at h
  · cases h
  · exact h
theorem bd_inr {y : Sum (Nat × Nat) (Nat × List Int × List Int)} {K : Nat → List Int → List Int → Sum (Nat × Nat) (Nat × List Int × List Int)} {x : Nat × List Int × List Int} (h : bdP y K = .inr x) : ∃ a c c', y = .inr (a, c, c') ∧ K a c c' = .inr x := by
  match y, h with
  | .inr (a, c, c'), h => exact ⟨a, c, c', rfl, h⟩
theorem tS_k {a : Nat} {c : Int} (h : tSb r n a c = true) : (tk r n a).1 = 2 ∧ (tk r n a).2.2.1 = c := of_decide_eq_true h
theorem tW_k {a i : Nat} (h : tWb r n a i = true) : (tk r n a).1 = 4 ∧ (tk r n a).2.2.1 = owW.getD i 0 := of_decide_eq_true h
theorem tN_lt {a : Nat} (ha : a ≤ n) (hr : ∀ i, 0 ≤ r i ∧ r i ≤ 255) (h : 2 ≤ (tk r n a).1) : a < tN r n a ∧ tN r n a ≤ n := by
  obtain ⟨h1, -, -, h4, -⟩ := tk_r (r := r) (n := n) ha hr
  have := h4 h
  unfold tN; omega
theorem tS_n {a : Nat} {c : Int} (ha : a ≤ n) (hr : ∀ i, 0 ≤ r i ∧ r i ≤ 255) (h : tSb r n a c = true) : a < tN r n a ∧ tN r n a ≤ n := tN_lt ha hr (by rw [(tS_k h).1]; omega)
theorem tW_n {a i : Nat} (ha : a ≤ n) (hr : ∀ i, 0 ≤ r i ∧ r i ≤ 255) (h : tWb r n a i = true) : a < tN r n a ∧ tN r n a ≤ n := tN_lt ha hr (by rw [(tW_k h).1]; omega)
theorem mul_n {a : Nat} (ha : a ≤ n) (hr : ∀ i, 0 ≤ r i ∧ r i ≤ 255) (h : mulP r n a ≠ 0) : a < tN r n a ∧ tN r n a ≤ n := by
  unfold mulP at h
  by_cases q1 : tSb r n a 42 = true
  · exact tS_n ha hr q1
  · by_cases q2 : tSb r n a 47 = true
    · exact tS_n ha hr q2
    · by_cases q3 : tSb r n a 37 = true
      · exact tS_n ha hr q3
      · rw [if_neg q1, if_neg q2, if_neg q3] at h; exact absurd rfl h
theorem add_n {a : Nat} (ha : a ≤ n) (hr : ∀ i, 0 ≤ r i ∧ r i ≤ 255) (h : addP r n a ≠ 0) : a < tN r n a ∧ tN r n a ≤ n := by
  unfold addP at h
  by_cases q1 : tSb r n a 43 = true
  · exact tS_n ha hr q1
  · by_cases q2 : tSb r n a 45 = true
    · exact tS_n ha hr q2
    · rw [if_neg q1, if_neg q2] at h; exact absurd rfl h
theorem cmp_n {a : Nat} (ha : a ≤ n) (hr : ∀ i, 0 ≤ r i ∧ r i ≤ 255) (h : cmpP r n a ≠ 0) : a < tN r n a ∧ tN r n a ≤ n := by
  unfold cmpP at h
  by_cases q1 : tSb r n a 60 = true
  · exact tS_n ha hr q1
  · by_cases q2 : tSb r n a 62 = true
    · exact tS_n ha hr q2
    · by_cases q3 : tSb r n a 61 = true
      · exact tS_n ha hr q3
      · rw [if_neg q1, if_neg q2, if_neg q3] at h; exact absurd rfl h
theorem ft_n {a : Nat} (ha : a ≤ n) (hr : ∀ i, 0 ≤ r i ∧ r i ≤ 255) (h : ftP r n a ≠ 0) : a < tN r n a ∧ tN r n a ≤ n := by
  unfold ftP at h
  by_cases q1 : tWb r n a 22 = true
  · exact tW_n ha hr q1
  by_cases q2 : tWb r n a 23 = true
  · exact tW_n ha hr q2
  by_cases q3 : tWb r n a 24 = true
  · exact tW_n ha hr q3
  by_cases q4 : tWb r n a 25 = true
  · exact tW_n ha hr q4
  by_cases q5 : tWb r n a 26 = true
  · exact tW_n ha hr q5
  by_cases q6 : tWb r n a 6 = true
  · exact tW_n ha hr q6
  rw [if_neg q1, if_neg q2, if_neg q3, if_neg q4, if_neg q5, if_neg q6] at h; exact absurd rfl h
/-- where a reading ends, and how many steps it makes -/
def lnP (q a a' : Nat) (c c' : List Int) (n : Nat) : Prop := a' ≤ n ∧ ((6 ≤ q ∧ q ≤ 9) ∨ a < a') ∧ a ≤ a' ∧ c.length + a ≤ a' + (if q = 10 then 1 else 0) ∧ c'.length + a ≤ a'
theorem pz_ln (hr : ∀ i, 0 ≤ r i ∧ r i ≤ 255) : ∀ (f q a op a' : Nat) (c c' : List Int), q ≤ 10 → a ≤ n → pz r n e f q a op = .inr (a', c, c') → lnP q a a' c c' n
  | 0, q, a, op, a', c, c', _, _, h => by cases h
  | f + 1, q, a, op, a', c, c', hq, ha, h => by
    have ih := pz_ln hr f
    have seq : ∀ {p s : Nat}, p ≤ 10 → s ≤ 10 → p ≠ 10 → s ≠ 10 → ¬ (6 ≤ p ∧ p ≤ 9) → ∀ {q : Nat}, q ≠ 10 → bdP (pz r n e f p a op) (fun a1 c c' => bdP (pz r n e f s a1 op) (fun a2 k k' => .inr (a2, c ++ k, c' ++ k'))) = .inr (a', c, c') → lnP q a a' c c' n := fun {p s} p1 s1 p2 s2 p3 {q} q1 h => by
      obtain ⟨a1, c1, c1', e1, h⟩ := bd_inr h
      obtain ⟨a2, c2, c2', e2, h⟩ := bd_inr h
      cases h
      obtain ⟨x1, x2, x3, x4, x5⟩ := ih p a op a1 c1 c1' p1 ha e1
      obtain ⟨y1, y2, y3, y4, y5⟩ := ih s a1 op a' c2 c2' s1 x1 e2
      rw [if_neg p2] at x4
      rw [if_neg s2] at y4
      refine ⟨y1, by omega, by omega, ?_, ?_⟩
      · rw [List.length_append, if_neg q1]; omega
      · rw [List.length_append]; omega
    have lop : ∀ {p : Nat} {q : Nat} {b : Prop} [Decidable b] {x : Int}, p ≤ 10 → p ≠ 10 → (6 ≤ q ∧ q ≤ 9) → (b → a < tN r n a ∧ tN r n a ≤ n) → (if b then avP r n e a (fun a1 => bdP (pz r n e f p a1 op) (fun a2 c c' => bdP (pz r n e f q a2 op) (fun a3 k k' => .inr (a3, c ++ x :: k, c' ++ x :: k')))) else .inr (a, [], [])) = .inr (a', c, c') → lnP q a a' c c' n := fun {p q b _ x} p1 p2 q1 hb h => by
      by_cases z : b
      · rw [if_pos z] at h
        have hb := hb z
        obtain ⟨a1, c1, c1', e1, h⟩ := bd_inr (av_inr h)
        obtain ⟨a2, c2, c2', e2, h⟩ := bd_inr h
        cases h
        obtain ⟨x1, x2, x3, x4, x5⟩ := ih p _ op a1 c1 c1' p1 hb.2 e1
        obtain ⟨y1, y2, y3, y4, y5⟩ := ih q a1 op a' c2 c2' (by omega) x1 e2
        rw [if_neg p2] at x4
        rw [if_neg (by omega)] at y4
        refine ⟨y1, Or.inl q1, by omega, ?_, ?_⟩
        · rw [List.length_append, List.length_cons, if_neg (by omega)]; omega
        · rw [List.length_append, List.length_cons]; omega
      · rw [if_neg z] at h
        cases h
        exact ⟨ha, Or.inl q1, Nat.le_refl _, by rw [if_neg (by omega)]; show 0 + a ≤ a + 0; omega, by show 0 + a ≤ a; omega⟩
    have hq' : q = 0 ∨ q = 1 ∨ q = 2 ∨ (q = 3 ∨ q = 10) ∨ q = 4 ∨ q = 5 ∨ q = 6 ∨ q = 7 ∨ q = 8 ∨ q = 9 := by omega
    rcases hq' with hq | hq | hq | hq | hq | hq | hq | hq | hq | hq
    · subst hq
      rw [pz_0] at h
      by_cases z1 : tSb r n a 40 = true
      · rw [if_pos z1] at h
        have t1 := tS_n ha hr z1
        by_cases z2 : 8 ≤ op
        · rw [if_pos z2] at h; cases h
        · rw [if_neg z2] at h
          obtain ⟨a1, c1, c1', e1, h⟩ := bd_inr (av_inr h)
          obtain ⟨x1, x2, x3, x4, x5⟩ := ih 2 _ _ a1 c1 c1' (by omega) t1.2 e1
          by_cases z3 : tSb r n a1 41 = true
          · rw [if_pos z3] at h
            have t2 := tS_n x1 hr z3
            have h := av_inr h
            cases h
            rw [if_neg (by omega)] at x4
            exact ⟨t2.2, by omega, by omega, by rw [if_neg (by omega)]; omega, by omega⟩
          · rw [if_neg z3] at h; cases h
      · rw [if_neg z1] at h
        have one : ∀ {x : Int}, (a < tN r n a ∧ tN r n a ≤ n) → avP r n e a (fun a1 => .inr (a1, [x], [x])) = .inr (a', c, c') → lnP 0 a a' c c' n := fun {x} t h => by
          have h := av_inr h
          cases h
          exact ⟨t.2, by omega, by omega, by rw [if_neg (by omega)]; show 1 + a ≤ _; omega, by show 1 + a ≤ _; omega⟩
        by_cases z2 : tNb r n a = true
        · rw [if_pos z2] at h
          exact one (tN_lt ha hr (by have := of_decide_eq_true z2; omega)) h
        · rw [if_neg z2] at h
          by_cases z3 : ftP r n a ≠ 0
          · rw [if_pos z3] at h
            exact one (ft_n ha hr z3) h
          · rw [if_neg z3] at h
            by_cases z4 : tWb r n a 27 = true ∨ tWb r n a 28 = true
            · rw [if_pos z4] at h
              have t0 : a < tN r n a ∧ tN r n a ≤ n := by
                rcases z4 with z4 | z4
                · exact tW_n ha hr z4
                · exact tW_n ha hr z4
              have h := av_inr h
              by_cases z5 : tSb r n (tN r n a) 40 = true
              · rw [if_pos z5] at h
                have t1 := tS_n t0.2 hr z5
                by_cases z6 : 8 ≤ op
                · rw [if_pos z6] at h; cases h
                · rw [if_neg z6] at h
                  obtain ⟨a1, c1, c1', e1, h⟩ := bd_inr (av_inr h)
                  obtain ⟨x1, x2, x3, x4, x5⟩ := ih 2 _ _ a1 c1 c1' (by omega) t1.2 e1
                  by_cases z7 : tSb r n a1 44 = true
                  · rw [if_pos z7] at h
                    have t2 := tS_n x1 hr z7
                    obtain ⟨a2, c2, c2', e2, h⟩ := bd_inr (av_inr h)
                    obtain ⟨y1, y2, y3, y4, y5⟩ := ih 2 _ _ a2 c2 c2' (by omega) t2.2 e2
                    by_cases z8 : tSb r n a2 41 = true
                    · rw [if_pos z8] at h
                      have t3 := tS_n y1 hr z8
                      have h := av_inr h
                      cases h
                      rw [if_neg (by omega)] at x4 y4
                      refine ⟨t3.2, by omega, by omega, ?_, ?_⟩
                      · rw [List.length_append, List.length_append]
                        show c1.length + c2.length + 1 + a ≤ tN r n a2 + 0; omega
                      · rw [List.length_append, List.length_append]
                        show c1'.length + c2'.length + 1 + a ≤ _; omega
                    · rw [if_neg z8] at h; cases h
                  · rw [if_neg z7] at h; cases h
              · rw [if_neg z5] at h; cases h
            · rw [if_neg z4] at h; cases h
    · subst hq; rw [pz_1] at h; exact seq (by omega) (by omega) (by omega) (by omega) (by omega) (by omega) h
    · subst hq; rw [pz_2] at h; exact seq (by omega) (by omega) (by omega) (by omega) (by omega) (by omega) h
    · rw [pz_3 hq] at h
      by_cases z1 : tWb r n a 20 = true
      · rw [if_pos z1] at h
        have t1 := tW_n ha hr z1
        obtain ⟨a1, c1, c1', e1, h⟩ := bd_inr (av_inr h)
        cases h
        obtain ⟨x1, x2, x3, x4, x5⟩ := ih (13 - q) _ _ a' c c1' (by omega) t1.2 e1
        refine ⟨x1, by omega, by omega, ?_, ?_⟩
        · rcases hq with hq | hq
          · subst hq; rw [if_pos rfl] at x4; rw [if_neg (by omega)]; omega
          · subst hq; rw [if_neg (by omega)] at x4; rw [if_pos rfl]; omega
        · rw [List.length_append]; show c1'.length + 1 + a ≤ a'; omega
      · rw [if_neg z1] at h
        have tl : (if q = 3 then ([] : List Int) else [-7]).length = if q = 10 then 1 else 0 := by
          rcases hq with hq | hq <;> subst hq <;> rfl
        by_cases z2 : tSb r n a 91 = true
        · rw [if_pos z2] at h
          have t1 := tS_n ha hr z2
          by_cases z3 : 8 ≤ op
          · rw [if_pos z3] at h; cases h
          · rw [if_neg z3] at h
            obtain ⟨a1, c1, c1', e1, h⟩ := bd_inr (av_inr h)
            obtain ⟨x1, x2, x3, x4, x5⟩ := ih 5 _ _ a1 c1 c1' (by omega) t1.2 e1
            by_cases z4 : tSb r n a1 93 = true
            · rw [if_pos z4] at h
              have t2 := tS_n x1 hr z4
              have h := av_inr h
              cases h
              rw [if_neg (by omega)] at x4
              refine ⟨t2.2, by omega, by omega, ?_, by omega⟩
              rw [List.length_append, tl]; omega
            · rw [if_neg z4] at h; cases h
        · rw [if_neg z2] at h
          by_cases z3 : tWb r n a 21 = true
          · rw [if_pos z3] at h
            have t1 := tW_n ha hr z3
            have h := av_inr h
            cases h
            refine ⟨t1.2, by omega, by omega, ?_, by show 1 + a ≤ _; omega⟩
            rw [List.length_cons, tl]; omega
          · rw [if_neg z3] at h
            obtain ⟨a1, c1, c1', e1, h⟩ := bd_inr h
            obtain ⟨x1, x2, x3, x4, x5⟩ := ih 2 _ _ a1 c1 c1' (by omega) ha e1
            by_cases z4 : cmpP r n a1 ≠ 0
            · rw [if_pos z4] at h
              have t1 := cmp_n x1 hr z4
              obtain ⟨a2, c2, c2', e2, h⟩ := bd_inr (av_inr h)
              obtain ⟨y1, y2, y3, y4, y5⟩ := ih 2 _ _ a2 c2 c2' (by omega) t1.2 e2
              cases h
              rw [if_neg (by omega)] at x4 y4
              refine ⟨y1, by omega, by omega, ?_, ?_⟩
              · rw [List.length_append, List.length_append, List.length_cons, tl]; omega
              · rw [List.length_append, List.length_append]; show c1'.length + c2'.length + 1 + a ≤ _; omega
            · rw [if_neg z4] at h; cases h
    · subst hq; rw [pz_4] at h; exact seq (by omega) (by omega) (by omega) (by omega) (by omega) (by omega) h
    · subst hq; rw [pz_5] at h; exact seq (by omega) (by omega) (by omega) (by omega) (by omega) (by omega) h
    · subst hq; rw [pz_6] at h; exact lop (by omega) (by omega) (by omega) (fun z => mul_n ha hr z) h
    · subst hq; rw [pz_7] at h; exact lop (by omega) (by omega) (by omega) (fun z => add_n ha hr z) h
    · subst hq; rw [pz_8] at h; exact lop (by omega) (by omega) (by omega) (fun z => tW_n ha hr z) h
    · subst hq; rw [pz_9] at h; exact lop (by omega) (by omega) (by omega) (fun z => tW_n ha hr z) h
end Parse
