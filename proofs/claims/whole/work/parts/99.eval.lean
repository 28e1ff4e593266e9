/-! what a row of steps makes -/
def clP (v : Int) : Int := max (-1000000) (min 1000000 v)
def dvP (l r : Int) : Int := if r = 0 then 0 else if 0 < r then l / r else (-l) / (-r)
def mdP (l r : Int) : Int := if r = 0 then 0 else l - r * dvP l r
def jnP (x l r : Int) : Int := if x = -8 then clP (l + r) else if x = -9 then clP (l - r) else if x = -10 then clP (l * r) else if x = -11 then dvP l r else if x = -12 then mdP l r else if x = -13 then min l r else if x = -14 then max l r else if x = -15 then (if l < r then 1 else 0) else if x = -16 then (if r < l then 1 else 0) else if x = -17 then (if l = r then 1 else 0) else if x = -18 then l * r else (if 0 < l + r then 1 else 0)
def bd6 (v : Int) : Prop := -1000000 ≤ v ∧ v ≤ 1000000
def b01 (v : Int) : Prop := v = 0 ∨ v = 1
def stC (F : Nat → Int) (x : Int) (s : List Int) : List Int := if 0 ≤ x then x :: s else if -6 ≤ x then F (-1 - x).toNat :: s else if x = -7 then (match s with | a :: t => (1 - a) :: t | [] => []) else (match s with | b :: a :: t => jnP x a b :: t | _ => [])
def okS (M : Nat) (x : Int) (s : List Int) : Prop := -19 ≤ x ∧ x ≤ 9999 ∧ (-6 ≤ x → s.length < M) ∧ (x = -7 → ∃ a t, s = a :: t ∧ b01 a) ∧ (x < -7 → ∃ b a t, s = b :: a :: t ∧ bd6 a ∧ bd6 b ∧ (x ≤ -18 → b01 a ∧ b01 b))
def evC (F : Nat → Int) : List Int → List Int → List Int
  | [], s => s
  | x :: c, s => evC F c (stC F x s)
def okC (F : Nat → Int) (M : Nat) : List Int → List Int → Prop
  | [], _ => True
  | x :: c, s => okS M x s ∧ okC F M c (stC F x s)
theorem evC_app (F : Nat → Int) : ∀ (c k s : List Int), evC F (c ++ k) s = evC F k (evC F c s)
  | [], k, s => rfl
  | x :: c, k, s => evC_app F c k (stC F x s)
theorem okC_app {F : Nat → Int} {M : Nat} : ∀ {c k s : List Int}, okC F M c s → okC F M k (evC F c s) → okC F M (c ++ k) s
  | [], k, s, _, h => h
  | x :: c, k, s, h1, h => ⟨h1.1, okC_app h1.2 h⟩
theorem dv_t {l r : Int} (hr : 0 < r) : l / r = if 0 ≤ l ∨ Int.tmod l r = 0 then Int.tdiv l r else Int.tdiv l r - 1 := by
  by_cases q : 0 ≤ l
  · rw [if_pos (Or.inl q), Int.tdiv_eq_ediv_of_nonneg q]
  · have m := tm_neg (a := l) (b := r) (by omega) hr
    have d1 := Int.mul_ediv_add_emod l r
    have d2 := Int.mul_tdiv_add_tmod l r
    by_cases q2 : Int.tmod l r = 0
    · rw [if_pos (Or.inr q2)]
      rw [if_pos q2] at m
      exact Int.eq_of_mul_eq_mul_left (by omega : r ≠ 0) (by omega)
    · rw [if_neg (by omega)]
      rw [if_neg q2] at m
      have : r * (l / r + 1) = r * Int.tdiv l r := by rw [Int.mul_add, Int.mul_one]; omega
      have := Int.eq_of_mul_eq_mul_left (by omega : r ≠ 0) this
      omega
theorem dvP_t {l r : Int} (hr : r ≠ 0) : dvP l r = if ((0 ≤ l ↔ 0 ≤ r) ∨ Int.tmod l r = 0) then Int.tdiv l r else Int.tdiv l r - 1 := by
  unfold dvP
  rw [if_neg hr]
  by_cases q : 0 < r
  · rw [if_pos q, dv_t q]
    by_cases z : 0 ≤ l
    · rw [if_pos (Or.inl z), if_pos (Or.inl (by omega))]
    · by_cases z2 : Int.tmod l r = 0
      · rw [if_pos (Or.inr z2), if_pos (Or.inr z2)]
      · rw [if_neg (by omega), if_neg (by omega)]
  · rw [if_neg q, dv_t (by omega)]
    have e1 : Int.tdiv (-l) (-r) = Int.tdiv l r := by rw [Int.neg_tdiv, Int.tdiv_neg, Int.neg_neg]
    have e2 : Int.tmod (-l) (-r) = -Int.tmod l r := by rw [Int.tmod_neg, Int.neg_tmod]
    rw [e1, e2]
    by_cases z : 0 ≤ -l
    · rw [if_pos (Or.inl z)]
      by_cases z0 : l = 0
      · subst z0; rw [if_pos (Or.inr (Int.zero_tmod r))]
      · rw [if_pos (Or.inl (by omega))]
    · by_cases z2 : Int.tmod l r = 0
      · rw [if_pos (Or.inr (by omega)), if_pos (Or.inr z2)]
      · rw [if_neg (by omega), if_neg (by omega)]
theorem ed_b {l r : Int} (hr : 0 < r) (h : bd6 l) : bd6 (l / r) := by
  have d1 := Int.mul_ediv_add_emod l r
  have m0 := Int.emod_nonneg l (by omega : r ≠ 0)
  have m1 := Int.emod_lt_of_pos l hr
  obtain ⟨h1, h2⟩ := h
  by_cases q : 0 ≤ l
  · have a := Int.ediv_nonneg q (by omega : 0 ≤ r)
    have b := Int.ediv_le_self r q
    exact ⟨by omega, by omega⟩
  · have a : l ≤ l / r := by
      rw [Int.le_ediv_iff_mul_le hr]
      obtain ⟨k, hk⟩ : ∃ k : Nat, r = k + 1 := ⟨(r - 1).toNat, by omega⟩
      rw [hk, Int.mul_add, Int.mul_one]
      have : l * (k : Int) ≤ 0 := Int.mul_nonpos_of_nonpos_of_nonneg (by omega) (by omega)
      omega
    have b : l / r < 0 := Int.ediv_neg_of_neg_of_pos (by omega) hr
    exact ⟨by omega, by omega⟩
theorem dv_b {l r : Int} (h : bd6 l) : bd6 (dvP l r) := by
  unfold dvP
  by_cases q0 : r = 0
  · rw [if_pos q0]; exact ⟨by omega, by omega⟩
  · rw [if_neg q0]
    by_cases q : 0 < r
    · rw [if_pos q]; exact ed_b q h
    · rw [if_neg q]; exact ed_b (by omega) ⟨by have := h.2; omega, by have := h.1; omega⟩
theorem md_b {l r : Int} (h : bd6 r) : bd6 (mdP l r) := by
  unfold mdP dvP
  by_cases q0 : r = 0
  · rw [if_pos q0]; exact ⟨by omega, by omega⟩
  · rw [if_neg q0, if_neg q0]
    obtain ⟨h1, h2⟩ := h
    by_cases q : 0 < r
    · rw [if_pos q]
      have d1 := Int.mul_ediv_add_emod l r
      have m0 := Int.emod_nonneg l q0
      have m1 := Int.emod_lt_of_pos l q
      exact ⟨by omega, by omega⟩
    · rw [if_neg q]
      have d1 := Int.mul_ediv_add_emod (-l) (-r)
      have m0 := Int.emod_nonneg (-l) (by omega : -r ≠ 0)
      have m1 := Int.emod_lt_of_pos (-l) (by omega : 0 < -r)
      rw [Int.neg_mul] at d1
      exact ⟨by omega, by omega⟩
theorem cl_b {v : Int} : bd6 (clP v) := by unfold clP bd6; omega
theorem jn_b {x l r : Int} (hx : -17 ≤ x ∧ x ≤ -8) (hl : bd6 l) (hr : bd6 r) : bd6 (jnP x l r) := by
  have hx' : x = -8 ∨ x = -9 ∨ x = -10 ∨ x = -11 ∨ x = -12 ∨ x = -13 ∨ x = -14 ∨ x = -15 ∨ x = -16 ∨ x = -17 := by omega
  have c01 : ∀ (p : Prop) [Decidable p], bd6 (if p then 1 else 0) := fun p _ => by unfold bd6; split <;> omega
  rcases hx' with h | h | h | h | h | h | h | h | h | h <;> subst h
  · exact cl_b
  · exact cl_b
  · exact cl_b
  · exact dv_b hl
  · exact md_b hr
  · show bd6 (min l r); unfold bd6 at *; omega
  · show bd6 (max l r); unfold bd6 at *; omega
  · exact c01 _
  · exact c01 _
  · exact c01 _
theorem jn_c {x l r : Int} (hx : -17 ≤ x ∧ x ≤ -15) : b01 (jnP x l r) := by
  have c01 : ∀ (p : Prop) [Decidable p], b01 (if p then 1 else 0) := fun p _ => by unfold b01; split <;> omega
  have hx' : x = -15 ∨ x = -16 ∨ x = -17 := by omega
  rcases hx' with h | h | h <;> subst h <;> exact c01 _
theorem jn_a {x l r : Int} (hx : x = -18 ∨ x = -19) (hl : b01 l) (hr : b01 r) : b01 (jnP x l r) := by
  rcases hx with h | h <;> subst h <;> rcases hl with h | h <;> subst h <;> rcases hr with h | h <;> subst h <;> unfold b01 <;> decide
/-- how many a reading lays on one another -/
def dpP (q op : Nat) : Nat := (if q = 0 then 1 else if q = 1 then 2 else if q = 2 then 3 else if q = 3 ∨ q = 10 then 4 else if q = 4 then 5 else if q = 5 then 6 else if q = 6 then 2 else if q = 7 then 3 else if q = 8 then 5 else 6) + 3 * (8 - op)
section Eval
variable {r : Nat → Int} {n : Nat} {e : Bool} {F : Nat → Int}
/-- a reading that lays one number: the class's steps give v, the reference's w -/
def ev1 (F : Nat → Int) (D : Nat) (c c' : List Int) (v w : Int) : Prop := ∀ (M : Nat) (s : List Int), s.length + D ≤ M → okC F M c s ∧ okC F M c' s ∧ evC F c s = v :: s ∧ evC F c' s = w :: s
/-- what follows: from u to w -/
def ev2 (F : Nat → Int) (D : Nat) (c c' : List Int) (u w : Int) : Prop := ∀ (M : Nat) (s : List Int), s.length + D ≤ M → okC F M c (u :: s) ∧ okC F M c' (u :: s) ∧ evC F c (u :: s) = w :: s ∧ evC F c' (u :: s) = w :: s
theorem ev_seq {D D1 D2 : Nat} {c c' k k' : List Int} {u w : Int} (h1 : ev1 F D1 c c' u u) (h2 : ev2 F D2 k k' u w) (hD : D1 ≤ D ∧ D2 ≤ D) : ev1 F D (c ++ k) (c' ++ k') w w := fun M s hs => by
  obtain ⟨a1, a2, a3, a4⟩ := h1 M s (by omega)
  obtain ⟨b1, b2, b3, b4⟩ := h2 M s (by omega)
  exact ⟨okC_app a1 (by rw [a3]; exact b1), okC_app a2 (by rw [a4]; exact b2), by rw [evC_app, a3, b3], by rw [evC_app, a4, b4]⟩
theorem ev_lop {D D1 : Nat} {c c' k k' : List Int} {x u v w : Int} (hx : -19 ≤ x ∧ x ≤ -8) (hu : bd6 u) (hv : bd6 v) (h18 : x ≤ -18 → b01 u ∧ b01 v) (h1 : ev1 F D1 c c' v v) (h2 : ev2 F D k k' (jnP x u v) w) (hD : D1 + 1 ≤ D) : ev2 F D (c ++ x :: k) (c' ++ x :: k') u w := fun M s hs => by
  obtain ⟨a1, a2, a3, a4⟩ := h1 M (u :: s) (by show s.length + 1 + D1 ≤ M; omega)
  obtain ⟨b1, b2, b3, b4⟩ := h2 M s (by omega)
  have st : stC F x (v :: u :: s) = jnP x u v :: s := by unfold stC; rw [if_neg (by omega), if_neg (by omega), if_neg (by omega)]
  have ok : okS M x (v :: u :: s) := ⟨by omega, by omega, fun q => by omega, fun q => by omega, fun _ => ⟨v, u, s, rfl, hu, hv, h18⟩⟩
  refine ⟨okC_app a1 ?_, okC_app a2 ?_, ?_, ?_⟩
  · rw [a3]; exact ⟨ok, by rw [st]; exact b1⟩
  · rw [a4]; exact ⟨ok, by rw [st]; exact b2⟩
  · rw [evC_app, a3]; show evC F k (stC F x (v :: u :: s)) = _; rw [st, b3]
  · rw [evC_app, a4]; show evC F k' (stC F x (v :: u :: s)) = _; rw [st, b4]
theorem ev_nil {D : Nat} {u : Int} : ev2 F D [] [] u u := fun M s hs => ⟨trivial, trivial, rfl, rfl⟩
theorem ev_bin {D D1 D2 : Nat} {c c' k k' : List Int} {x u v : Int} (hx : -17 ≤ x ∧ x ≤ -8) (hu : bd6 u) (hv : bd6 v) (h1 : ev1 F D1 c c' u u) (h2 : ev1 F D2 k k' v v) (hD : D1 ≤ D ∧ D2 + 1 ≤ D) : ev1 F D (c ++ k ++ [x]) (c' ++ k' ++ [x]) (jnP x u v) (jnP x u v) := by
  have := ev_seq h1 (ev_lop (x := x) (k := []) (k' := []) ⟨by omega, by omega⟩ hu hv (fun q => by omega) h2 ev_nil hD.2) (D := D) ⟨hD.1, Nat.le_refl _⟩
  rw [List.append_assoc, List.append_assoc]; exact this
theorem ev_not {D : Nat} {c c' : List Int} {v w : Int} (hw : b01 w) (h : ev1 F D c c' v w) : ev1 F D c (c' ++ [-7]) v (1 - w) := fun M s hs => by
  obtain ⟨a1, a2, a3, a4⟩ := h M s hs
  exact ⟨a1, okC_app a2 (by rw [a4]; exact ⟨⟨by omega, by omega, fun q => by omega, fun _ => ⟨w, s, rfl, hw⟩, fun q => by omega⟩, trivial⟩), a3, by rw [evC_app, a4]; rfl⟩
theorem ev_cnot {D : Nat} {c c' : List Int} {v w : Int} (hv : b01 v) (h : ev1 F D c c' v w) : ev1 F D (c ++ [-7]) c' (1 - v) w := fun M s hs => by
  obtain ⟨a1, a2, a3, a4⟩ := h M s hs
  exact ⟨okC_app a1 (by rw [a3]; exact ⟨⟨by omega, by omega, fun q => by omega, fun _ => ⟨v, s, rfl, hv⟩, fun q => by omega⟩, trivial⟩), a2, by rw [evC_app, a3]; rfl, a4⟩
theorem ev_num {x : Int} (hx : 0 ≤ x ∧ x ≤ 9999) {D : Nat} (hD : 1 ≤ D) : ev1 F D [x] [x] x x := fun M s hs => by
  have ok : okC F M [x] s := ⟨⟨by omega, by omega, fun _ => by omega, fun q => by omega, fun q => by omega⟩, trivial⟩
  have st : evC F [x] s = x :: s := by show stC F x s = _; unfold stC; rw [if_pos hx.1]
  exact ⟨ok, ok, st, st⟩
theorem ev_fct {x : Int} (hx : -6 ≤ x ∧ x ≤ -1) {D : Nat} (hD : 1 ≤ D) : ev1 F D [x] [x] (F (-1 - x).toNat) (F (-1 - x).toNat) := fun M s hs => by
  have ok : okC F M [x] s := ⟨⟨by omega, by omega, fun _ => by omega, fun q => by omega, fun q => by omega⟩, trivial⟩
  have st : evC F [x] s = F (-1 - x).toNat :: s := by show stC F x s = _; unfold stC; rw [if_neg (by omega), if_pos (by omega)]
  exact ⟨ok, ok, st, st⟩
theorem ev1.up {D D' : Nat} {c c' : List Int} {v w : Int} (h : ev1 F D c c' v w) (hD : D ≤ D') : ev1 F D' c c' v w := fun M s hs => h M s (by omega)
theorem ft_r {a : Nat} : ftP r n a = 0 ∨ (-6 ≤ ftP r n a ∧ ftP r n a ≤ -1) := by unfold ftP; repeat' split <;> omega
theorem mul_r {a : Nat} (h : mulP r n a ≠ 0) : -12 ≤ mulP r n a ∧ mulP r n a ≤ -10 := by
  unfold mulP at h ⊢; repeat' split <;> simp_all
theorem add_r {a : Nat} (h : addP r n a ≠ 0) : -9 ≤ addP r n a ∧ addP r n a ≤ -8 := by
  unfold addP at h ⊢; repeat' split <;> simp_all
/-- what a reading of kind q is worth -/
def evQ (F : Nat → Int) (q op : Nat) (c c' : List Int) : Prop := (q ≤ 2 → ∃ v, bd6 v ∧ ev1 F (dpP q op) c c' v v) ∧ (q = 3 ∨ q = 4 ∨ q = 5 → ∃ v, b01 v ∧ ev1 F (dpP q op) c c' v v) ∧ (q = 10 → ∃ v, b01 v ∧ ev1 F (dpP q op) c c' (1 - v) v) ∧ (q = 6 ∨ q = 7 → ∀ u, bd6 u → ∃ w, bd6 w ∧ ev2 F (dpP q op) c c' u w) ∧ (q = 8 ∨ q = 9 → ∀ u, b01 u → ∃ w, b01 w ∧ ev2 F (dpP q op) c c' u w)
theorem b01_6 {v : Int} (h : b01 v) : bd6 v := by unfold b01 at h; unfold bd6; omega
theorem b01_n {v : Int} (h : b01 v) : b01 (1 - v) := by unfold b01 at h ⊢; omega
theorem pz_ev (hF : ∀ i, i < 6 → bd6 (F i)) (hr : ∀ i, 0 ≤ r i ∧ r i ≤ 255) : ∀ (f q a op a' : Nat) (c c' : List Int), q ≤ 10 → a ≤ n → op ≤ 8 → pz r n e f q a op = .inr (a', c, c') → evQ F q op c c'
  | 0, q, a, op, a', c, c', _, _, _, h => by cases h
  | f + 1, q, a, op, a', c, c', hq, ha, ho, h => by
    have ih := pz_ev hF hr f
    have ln := fun (p b b' : Nat) (o : Nat) (k k' : List Int) (h1 : p ≤ 10) (h2 : b ≤ n) (h3 : pz r n e f p b o = .inr (b', k, k')) => (pz_ln hr f p b o b' k k' h1 h2 h3).1
    have low : ∀ {q : Nat}, q ≤ 2 → (∃ v, bd6 v ∧ ev1 F (dpP q op) c c' v v) → evQ F q op c c' := fun h k => ⟨fun _ => k, fun y => by omega, fun y => by omega, fun y => by omega, fun y => by omega⟩
    have tst : ∀ {q : Nat}, (q = 3 ∨ q = 4 ∨ q = 5) → (∃ v, b01 v ∧ ev1 F (dpP q op) c c' v v) → evQ F q op c c' := fun h k => ⟨fun y => by omega, fun _ => k, fun y => by omega, fun y => by omega, fun y => by omega⟩
    have ten : (∃ v, b01 v ∧ ev1 F (dpP 10 op) c c' (1 - v) v) → evQ F 10 op c c' := fun k => ⟨fun y => by omega, fun y => by omega, fun _ => k, fun y => by omega, fun y => by omega⟩
    have lo6 : ∀ {q : Nat}, (q = 6 ∨ q = 7) → (∀ u, bd6 u → ∃ w, bd6 w ∧ ev2 F (dpP q op) c c' u w) → evQ F q op c c' := fun h k => ⟨fun y => by omega, fun y => by omega, fun y => by omega, fun _ => k, fun y => by omega⟩
    have lo8 : ∀ {q : Nat}, (q = 8 ∨ q = 9) → (∀ u, b01 u → ∃ w, b01 w ∧ ev2 F (dpP q op) c c' u w) → evQ F q op c c' := fun h k => ⟨fun y => by omega, fun y => by omega, fun y => by omega, fun y => by omega, fun _ => k⟩
    have hq' : q = 0 ∨ q = 1 ∨ q = 2 ∨ (q = 3 ∨ q = 10) ∨ q = 4 ∨ q = 5 ∨ q = 6 ∨ q = 7 ∨ q = 8 ∨ q = 9 := by omega
    have d0 : ∀ o, dpP 0 o = 1 + 3 * (8 - o) := fun o => rfl
    have d1 : ∀ o, dpP 1 o = 2 + 3 * (8 - o) := fun o => rfl
    have d2 : ∀ o, dpP 2 o = 3 + 3 * (8 - o) := fun o => rfl
    have d3 : ∀ o, dpP 3 o = 4 + 3 * (8 - o) := fun o => rfl
    have d10 : ∀ o, dpP 10 o = 4 + 3 * (8 - o) := fun o => rfl
    have d4 : ∀ o, dpP 4 o = 5 + 3 * (8 - o) := fun o => rfl
    have d5 : ∀ o, dpP 5 o = 6 + 3 * (8 - o) := fun o => rfl
    have d6 : ∀ o, dpP 6 o = 2 + 3 * (8 - o) := fun o => rfl
    have d7 : ∀ o, dpP 7 o = 3 + 3 * (8 - o) := fun o => rfl
    have d8 : ∀ o, dpP 8 o = 5 + 3 * (8 - o) := fun o => rfl
    have d9 : ∀ o, dpP 9 o = 6 + 3 * (8 - o) := fun o => rfl
    rcases hq' with hq | hq | hq | hq | hq | hq | hq | hq | hq | hq
    · subst hq
      refine low (by omega) ?_
      rw [pz_0] at h
      by_cases z1 : tSb r n a 40 = true
      · rw [if_pos z1] at h
        have t1 := tS_n ha hr z1
        by_cases z2 : 8 ≤ op
        · rw [if_pos z2] at h; cases h
        · rw [if_neg z2] at h
          obtain ⟨a1, c1, c1', e1, h⟩ := bd_inr (av_inr h)
          obtain ⟨v, vb, ev⟩ := (ih 2 _ _ a1 c1 c1' (by omega) t1.2 (by omega) e1).1 (by omega)
          by_cases z3 : tSb r n a1 41 = true
          · rw [if_pos z3] at h
            have h := av_inr h
            cases h
            exact ⟨v, vb, ev.up (by rw [d2, d0]; omega)⟩
          · rw [if_neg z3] at h; cases h
      · rw [if_neg z1] at h
        by_cases z2 : tNb r n a = true
        · rw [if_pos z2] at h
          have h := av_inr h
          cases h
          have tv := (tk_r (r := r) (n := n) ha hr).2.2.2.2.2.1 (of_decide_eq_true z2)
          have tv : 0 ≤ tV r n a ∧ tV r n a ≤ 9999 := tv
          exact ⟨_, by unfold bd6; omega, ev_num tv (by rw [d0]; omega)⟩
        · rw [if_neg z2] at h
          by_cases z3 : ftP r n a ≠ 0
          · rw [if_pos z3] at h
            have h := av_inr h
            cases h
            have fr : -6 ≤ ftP r n a ∧ ftP r n a ≤ -1 := by have := ft_r (r := r) (n := n) (a := a); omega
            exact ⟨_, hF _ (by omega), ev_fct fr (by rw [d0]; omega)⟩
          · rw [if_neg z3] at h
            by_cases z4 : tWb r n a 27 = true ∨ tWb r n a 28 = true
            · rw [if_pos z4] at h
              have t0 : a < tN r n a ∧ tN r n a ≤ n := by
                rcases z4 with z4 | z4
                · exact tW_n ha hr z4
                · exact tW_n ha hr z4
              have h := av_inr h
              by_cases z5 : tSb r n (tN r n a) 40 = true
              · rw [if_pos z5] at h
                have t1 := tS_n t0.2 hr z5
                by_cases z6 : 8 ≤ op
                · rw [if_pos z6] at h; cases h
                · rw [if_neg z6] at h
                  obtain ⟨a1, c1, c1', e1, h⟩ := bd_inr (av_inr h)
                  have x1 := ln 2 _ a1 _ c1 c1' (by omega) t1.2 e1
                  obtain ⟨u, ub, eu⟩ := (ih 2 _ _ a1 c1 c1' (by omega) t1.2 (by omega) e1).1 (by omega)
                  by_cases z7 : tSb r n a1 44 = true
                  · rw [if_pos z7] at h
                    have t2 := tS_n x1 hr z7
                    obtain ⟨a2, c2, c2', e2, h⟩ := bd_inr (av_inr h)
                    obtain ⟨v, vb, ev⟩ := (ih 2 _ _ a2 c2 c2' (by omega) t2.2 (by omega) e2).1 (by omega)
                    by_cases z8 : tSb r n a2 41 = true
                    · rw [if_pos z8] at h
                      have h := av_inr h
                      generalize hX : (if tWb r n a 27 = true then (-13 : Int) else -14) = X at h
                      have hXr : -17 ≤ X ∧ X ≤ -8 := by rw [← hX]; split <;> omega
                      cases h
                      exact ⟨_, jn_b hXr ub vb, ev_bin hXr ub vb eu ev (by rw [d2, d0]; omega)⟩
                    · rw [if_neg z8] at h; cases h
                  · rw [if_neg z7] at h; cases h
              · rw [if_neg z5] at h; cases h
            · rw [if_neg z4] at h; cases h
    · subst hq
      refine low (by omega) ?_
      rw [pz_1] at h
      obtain ⟨a1, c1, c1', e1, h⟩ := bd_inr h
      obtain ⟨a2, c2, c2', e2, h⟩ := bd_inr h
      cases h
      obtain ⟨u, ub, eu⟩ := (ih 0 _ _ a1 c1 c1' (by omega) ha ho e1).1 (by omega)
      obtain ⟨w, wb, ew⟩ := (ih 6 _ _ a' c2 c2' (by omega) (ln 0 _ a1 _ c1 c1' (by omega) ha e1) ho e2).2.2.2.1 (Or.inl rfl) u ub
      exact ⟨w, wb, ev_seq eu ew (by rw [d0, d6, d1]; omega)⟩
    · subst hq
      refine low (by omega) ?_
      rw [pz_2] at h
      obtain ⟨a1, c1, c1', e1, h⟩ := bd_inr h
      obtain ⟨a2, c2, c2', e2, h⟩ := bd_inr h
      cases h
      obtain ⟨u, ub, eu⟩ := (ih 1 _ _ a1 c1 c1' (by omega) ha ho e1).1 (by omega)
      obtain ⟨w, wb, ew⟩ := (ih 7 _ _ a' c2 c2' (by omega) (ln 1 _ a1 _ c1 c1' (by omega) ha e1) ho e2).2.2.2.1 (Or.inr rfl) u ub
      exact ⟨w, wb, ev_seq eu ew (by rw [d1, d7, d2]; omega)⟩
    · -- a fact
      have fin : ∀ {v : Int} {k k' : List Int}, b01 v → ev1 F (dpP 3 op) k k' v v → c = k ++ (if q = 3 then [] else [-7]) → c' = k' → evQ F q op c c' := fun {v k k'} vb ev ec ec' => by
        rcases hq with hq | hq <;> subst hq
        · rw [if_pos rfl, List.append_nil] at ec
          subst ec; subst ec'
          exact tst (by omega) ⟨v, vb, ev⟩
        · rw [if_neg (by omega)] at ec
          subst ec; subst ec'
          exact ten ⟨v, vb, ev_cnot vb ev⟩
      rw [pz_3 hq] at h
      by_cases z1 : tWb r n a 20 = true
      · rw [if_pos z1] at h
        have t1 := tW_n ha hr z1
        obtain ⟨a1, c1, c1', e1, h⟩ := bd_inr (av_inr h)
        cases h
        rcases hq with hq | hq <;> subst hq
        · obtain ⟨v, vb, ev⟩ := (ih 10 _ _ a' c c1' (by omega) t1.2 ho e1).2.2.1 rfl
          refine tst (by omega) ⟨1 - v, b01_n vb, ev_not vb ev⟩
        · obtain ⟨v, vb, ev⟩ := (ih 3 _ _ a' c c1' (by omega) t1.2 ho e1).2.1 (by omega)
          refine ten ⟨1 - v, b01_n vb, ?_⟩
          have := ev_not vb ev
          rw [show 1 - (1 - v) = v by omega]; exact this
      · rw [if_neg z1] at h
        by_cases z2 : tSb r n a 91 = true
        · rw [if_pos z2] at h
          have t1 := tS_n ha hr z2
          by_cases z3 : 8 ≤ op
          · rw [if_pos z3] at h; cases h
          · rw [if_neg z3] at h
            obtain ⟨a1, c1, c1', e1, h⟩ := bd_inr (av_inr h)
            obtain ⟨v, vb, ev⟩ := (ih 5 _ _ a1 c1 c1' (by omega) t1.2 (by omega) e1).2.1 (by omega)
            by_cases z4 : tSb r n a1 93 = true
            · rw [if_pos z4] at h
              have h := av_inr h
              cases h
              exact fin vb (ev.up (by rw [d5, d3]; omega)) rfl rfl
            · rw [if_neg z4] at h; cases h
        · rw [if_neg z2] at h
          by_cases z3 : tWb r n a 21 = true
          · rw [if_pos z3] at h
            have h := av_inr h
            cases h
            exact fin (v := 1) (k := [1]) (Or.inr rfl) (ev_num ⟨by omega, by omega⟩ (by rw [d3]; omega)) rfl rfl
          · rw [if_neg z3] at h
            obtain ⟨a1, c1, c1', e1, h⟩ := bd_inr h
            obtain ⟨u, ub, eu⟩ := (ih 2 _ _ a1 c1 c1' (by omega) ha ho e1).1 (by omega)
            by_cases z4 : cmpP r n a1 ≠ 0
            · rw [if_pos z4] at h
              have t1 := cmp_n (ln 2 _ a1 _ c1 c1' (by omega) ha e1) hr z4
              obtain ⟨a2, c2, c2', e2, h⟩ := bd_inr (av_inr h)
              obtain ⟨v, vb, ev⟩ := (ih 2 _ _ a2 c2 c2' (by omega) t1.2 ho e2).1 (by omega)
              have cr : -17 ≤ cmpP r n a1 ∧ cmpP r n a1 ≤ -15 := by have := cmp_r (r := r) (n := n) (a := a1); omega
              have := ev_bin (D := dpP 3 op) (x := cmpP r n a1) ⟨by omega, by omega⟩ ub vb eu ev (by rw [d2, d3]; omega)
              cases h
              exact fin (jn_c cr) this (by simp) rfl
            · rw [if_neg z4] at h; cases h
    · subst hq
      refine tst (by omega) ?_
      rw [pz_4] at h
      obtain ⟨a1, c1, c1', e1, h⟩ := bd_inr h
      obtain ⟨a2, c2, c2', e2, h⟩ := bd_inr h
      cases h
      obtain ⟨u, ub, eu⟩ := (ih 3 _ _ a1 c1 c1' (by omega) ha ho e1).2.1 (by omega)
      obtain ⟨w, wb, ew⟩ := (ih 8 _ _ a' c2 c2' (by omega) (ln 3 _ a1 _ c1 c1' (by omega) ha e1) ho e2).2.2.2.2 (Or.inl rfl) u ub
      exact ⟨w, wb, ev_seq eu ew (by rw [d3, d8, d4]; omega)⟩
    · subst hq
      refine tst (by omega) ?_
      rw [pz_5] at h
      obtain ⟨a1, c1, c1', e1, h⟩ := bd_inr h
      obtain ⟨a2, c2, c2', e2, h⟩ := bd_inr h
      cases h
      obtain ⟨u, ub, eu⟩ := (ih 4 _ _ a1 c1 c1' (by omega) ha ho e1).2.1 (by omega)
      obtain ⟨w, wb, ew⟩ := (ih 9 _ _ a' c2 c2' (by omega) (ln 4 _ a1 _ c1 c1' (by omega) ha e1) ho e2).2.2.2.2 (Or.inr rfl) u ub
      exact ⟨w, wb, ev_seq eu ew (by rw [d4, d9, d5]; omega)⟩
    · subst hq
      refine lo6 (Or.inl rfl) (fun u ub => ?_)
      rw [pz_6] at h
      by_cases z : mulP r n a ≠ 0
      · rw [if_pos z] at h
        have t := mul_n ha hr z
        have mr := mul_r z
        obtain ⟨a1, c1, c1', e1, h⟩ := bd_inr (av_inr h)
        obtain ⟨a2, c2, c2', e2, h⟩ := bd_inr h
        cases h
        obtain ⟨v, vb, ev⟩ := (ih 0 _ _ a1 c1 c1' (by omega) t.2 ho e1).1 (by omega)
        obtain ⟨w, wb, ew⟩ := (ih 6 _ _ a' c2 c2' (by omega) (ln 0 _ a1 _ c1 c1' (by omega) t.2 e1) ho e2).2.2.2.1 (Or.inl rfl) _ (jn_b (x := mulP r n a) ⟨by omega, by omega⟩ ub vb)
        exact ⟨w, wb, ev_lop ⟨by omega, by omega⟩ ub vb (fun q => by omega) ev ew (by rw [d0, d6]; omega)⟩
      · rw [if_neg z] at h
        cases h
        exact ⟨u, ub, ev_nil⟩
    · subst hq
      refine lo6 (Or.inr rfl) (fun u ub => ?_)
      rw [pz_7] at h
      by_cases z : addP r n a ≠ 0
      · rw [if_pos z] at h
        have t := add_n ha hr z
        have mr := add_r z
        obtain ⟨a1, c1, c1', e1, h⟩ := bd_inr (av_inr h)
        obtain ⟨a2, c2, c2', e2, h⟩ := bd_inr h
        cases h
        obtain ⟨v, vb, ev⟩ := (ih 1 _ _ a1 c1 c1' (by omega) t.2 ho e1).1 (by omega)
        obtain ⟨w, wb, ew⟩ := (ih 7 _ _ a' c2 c2' (by omega) (ln 1 _ a1 _ c1 c1' (by omega) t.2 e1) ho e2).2.2.2.1 (Or.inr rfl) _ (jn_b (x := addP r n a) ⟨by omega, by omega⟩ ub vb)
        exact ⟨w, wb, ev_lop ⟨by omega, by omega⟩ ub vb (fun q => by omega) ev ew (by rw [d1, d7]; omega)⟩
      · rw [if_neg z] at h
        cases h
        exact ⟨u, ub, ev_nil⟩
    · subst hq
      refine lo8 (Or.inl rfl) (fun u ub => ?_)
      rw [pz_8] at h
      by_cases z : tWb r n a 19 = true
      · rw [if_pos z] at h
        have t := tW_n ha hr z
        obtain ⟨a1, c1, c1', e1, h⟩ := bd_inr (av_inr h)
        obtain ⟨a2, c2, c2', e2, h⟩ := bd_inr h
        cases h
        obtain ⟨v, vb, ev⟩ := (ih 3 _ _ a1 c1 c1' (by omega) t.2 ho e1).2.1 (by omega)
        obtain ⟨w, wb, ew⟩ := (ih 8 _ _ a' c2 c2' (by omega) (ln 3 _ a1 _ c1 c1' (by omega) t.2 e1) ho e2).2.2.2.2 (Or.inl rfl) _ (jn_a (x := -18) (Or.inl rfl) ub vb)
        exact ⟨w, wb, ev_lop ⟨by omega, by omega⟩ (b01_6 ub) (b01_6 vb) (fun _ => ⟨ub, vb⟩) ev ew (by rw [d3, d8]; omega)⟩
      · rw [if_neg z] at h
        cases h
        exact ⟨u, ub, ev_nil⟩
    · subst hq
      refine lo8 (Or.inr rfl) (fun u ub => ?_)
      rw [pz_9] at h
      by_cases z : tWb r n a 18 = true
      · rw [if_pos z] at h
        have t := tW_n ha hr z
        obtain ⟨a1, c1, c1', e1, h⟩ := bd_inr (av_inr h)
        obtain ⟨a2, c2, c2', e2, h⟩ := bd_inr h
        cases h
        obtain ⟨v, vb, ev⟩ := (ih 4 _ _ a1 c1 c1' (by omega) t.2 ho e1).2.1 (by omega)
        obtain ⟨w, wb, ew⟩ := (ih 9 _ _ a' c2 c2' (by omega) (ln 4 _ a1 _ c1 c1' (by omega) t.2 e1) ho e2).2.2.2.2 (Or.inr rfl) _ (jn_a (x := -19) (Or.inr rfl) ub vb)
        exact ⟨w, wb, ev_lop ⟨by omega, by omega⟩ (b01_6 ub) (b01_6 vb) (fun _ => ⟨ub, vb⟩) ev ew (by rw [d4, d9]; omega)⟩
      · rw [if_neg z] at h
        cases h
        exact ⟨u, ub, ev_nil⟩
end Eval
