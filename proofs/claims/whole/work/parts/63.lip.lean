/-! who opens a lip, counted by the class: distances, place by place -/
def difN (nt : Nat) : Nat → Nat → Nat → Nat
  | 0, _, _ => 0
  | j + 1, s, v => difN nt j s v + ze (s / nt ^ j % nt != v / nt ^ j % nt)
theorem dig_mod {nt i j x : Nat} (h : i < j) : x % nt ^ j / nt ^ i % nt = x / nt ^ i % nt := by
  have e : nt ^ j = nt ^ i * nt ^ (j - i) := by rw [← Nat.pow_add, show i + (j - i) = j by omega]
  rw [e, Nat.mod_mul_right_div_self]
  exact Nat.mod_mod_of_dvd _ (by rw [show j - i = (j - i - 1) + 1 by omega, Nat.pow_succ]; exact Nat.dvd_mul_left _ _)
theorem dif_mod {nt s u v : Nat} : ∀ j, u % nt ^ j = v % nt ^ j → difN nt j s u = difN nt j s v := by
  have key : ∀ J, u % nt ^ J = v % nt ^ J → ∀ j, j ≤ J → difN nt j s u = difN nt j s v := by
    intro J hJ j
    induction j with
    | zero => intro _; rfl
    | succ j ih =>
      intro hj
      rw [difN, difN, ih (by omega), ← dig_mod (x := u) (show j < J by omega), ← dig_mod (x := v) (show j < J by omega), hJ]
  intro j hj
  exact key j hj j (Nat.le_refl _)
/-- the least of a line, six at most -/
def lnM (m : Nat → Int) (fr st : Nat) : Nat → Int
  | 0 => 6
  | n + 1 => min (lnM m fr st n) (m (fr + n * st))
theorem lnM_le {m : Nat → Int} {fr st : Nat} {x : Int} : ∀ n, lnM m fr st n ≤ x ↔ 6 ≤ x ∨ ∃ i, i < n ∧ m (fr + i * st) ≤ x
  | 0 => by
    rw [lnM]
    constructor
    · intro h; exact Or.inl h
    · rintro (h | ⟨i, hi, -⟩)
      · exact h
      · omega
  | n + 1 => by
    rw [lnM]
    have ih := lnM_le (m := m) (fr := fr) (st := st) (x := x) n
    constructor
    · intro h
      by_cases q : lnM m fr st n ≤ x
      · rcases ih.mp q with h | ⟨i, hi, h⟩
        · exact Or.inl h
        · exact Or.inr ⟨i, by omega, h⟩
      · exact Or.inr ⟨n, by omega, by omega⟩
    · rintro (h | ⟨i, hi, h⟩)
      · have := ih.mpr (Or.inl h); omega
      · by_cases e : i = n
        · subst e; omega
        · have := ih.mpr (Or.inr ⟨i, by omega, h⟩); omega
theorem lnM_r {m : Nat → Int} {fr st : Nat} : ∀ n, (∀ i, i < n → 0 ≤ m (fr + i * st)) → 0 ≤ lnM m fr st n ∧ lnM m fr st n ≤ 6
  | 0, _ => by rw [lnM]; omega
  | n + 1, h => by
    have := lnM_r n (fun i hi => h i (by omega))
    have := h n (by omega)
    rw [lnM]; omega
theorem lnM_cg {m m' : Nat → Int} {fr st : Nat} : ∀ n, (∀ i, i < n → m' (fr + i * st) = m (fr + i * st)) → lnM m' fr st n = lnM m fr st n
  | 0, _ => rfl
  | n + 1, h => by rw [lnM, lnM, lnM_cg n (fun i hi => h i (by omega)), h n (by omega)]
/-- where a line begins -/
def bsL (nt st v : Nat) : Nat := v / (st * nt) * (st * nt) + v % st
def nmL (nt st : Nat) (m : Nat → Int) (v : Nat) : Int := min (m v) (lnM m (bsL nt st v) st nt + 1)
theorem bsL_pt {nt st v i : Nat} (hs : 0 < st) (hn : 0 < nt) (hi : i < nt) : (bsL nt st v + i * st) / st = v / (st * nt) * nt + i ∧ (bsL nt st v + i * st) % st = v % st ∧ (bsL nt st v + i * st) / (st * nt) = v / (st * nt) := by
  have e : bsL nt st v + i * st = v % st + st * (v / (st * nt) * nt + i) := by
    unfold bsL
    have : v / (st * nt) * (st * nt) = st * (v / (st * nt) * nt) := by rw [← Nat.mul_assoc, Nat.mul_comm _ st, Nat.mul_assoc]
    rw [this, Nat.mul_add, Nat.mul_comm i st]; omega
  have l := Nat.mod_lt v hs
  have d1 : (bsL nt st v + i * st) / st = v / (st * nt) * nt + i := by
    rw [e, Nat.add_mul_div_left _ _ hs, Nat.div_eq_of_lt l, Nat.zero_add]
  refine ⟨d1, by rw [e, Nat.add_mul_mod_self_left, Nat.mod_eq_of_lt l], ?_⟩
  rw [← Nat.div_div_eq_div_mul, d1, Nat.mul_comm _ nt, Nat.mul_add_div hn, Nat.div_eq_of_lt hi, Nat.add_zero]
theorem bsL_of {nt st v : Nat} (hs : 0 < st) (hn : 0 < nt) : v = bsL nt st v + (v / st % nt) * st := by
  unfold bsL
  have a1 := Nat.div_add_mod v st
  have a2 := Nat.div_add_mod (v / st) nt
  rw [Nat.div_div_eq_div_mul] at a2
  have : v / (st * nt) * (st * nt) = st * (nt * (v / (st * nt))) := by rw [Nat.mul_comm (v / (st * nt)), Nat.mul_assoc]
  rw [this]
  generalize v / (st * nt) = q at *
  have e2 : st * (v / st) = st * (nt * q) + (v / st % nt) * st := by
    conv => lhs; rw [← a2]
    rw [Nat.mul_add, Nat.mul_comm st (v / st % nt)]
  omega
theorem bsL_le {nt st v : Nat} (hs : 0 < st) (hn : 0 < nt) : bsL nt st v ≤ v := by
  have := bsL_of (v := v) hs hn
  omega
theorem pt_lt {nt j L u v : Nat} (hn : 0 < nt) (hj : j < L) (hu : u / nt ^ (j + 1) = v / nt ^ (j + 1)) (hv : v < nt ^ L) : u < nt ^ L := by
  have e : nt ^ L = nt ^ (j + 1) * nt ^ (L - (j + 1)) := by rw [← Nat.pow_add, show j + 1 + (L - (j + 1)) = L by omega]
  have p : 0 < nt ^ (j + 1) := Nat.pow_pos hn
  rw [e] at hv ⊢
  have h1 := (Nat.div_lt_iff_lt_mul p).mpr (by rw [Nat.mul_comm]; exact hv)
  rw [← hu] at h1
  have h2 := (Nat.div_lt_iff_lt_mul p).mp h1
  rw [Nat.mul_comm]; exact h2
/-- marks behind the lowest j places -/
def MI (sd : Nat → Prop) (nt L j : Nat) (m : Nat → Int) : Prop := ∀ v, v < nt ^ L → (0 ≤ m v ∧ m v ≤ 6) ∧ ∀ r : Int, r < 6 → (m v ≤ r ↔ ∃ s, sd s ∧ s / nt ^ j = v / nt ^ j ∧ ((difN nt j s v : Nat) : Int) ≤ r)
theorem MI_step {sd : Nat → Prop} {nt L j : Nat} {m : Nat → Int} (hn : 0 < nt) (hj : j < L) (H : MI sd nt L j m) : MI sd nt L (j + 1) (nmL nt (nt ^ j) m) := by
  intro v hv
  have hs : 0 < nt ^ j := Nat.pow_pos hn
  have eb : nt ^ j * nt = nt ^ (j + 1) := (Nat.pow_succ ..).symm
  have pt : ∀ i, i < nt → bsL nt (nt ^ j) v + i * nt ^ j < nt ^ L := by
    intro i hi
    have := (bsL_pt (v := v) hs hn hi).2.2
    rw [eb] at this
    exact pt_lt hn hj this hv
  have lr := lnM_r (m := m) (fr := bsL nt (nt ^ j) v) (st := nt ^ j) nt (fun i hi => (H _ (pt i hi)).1.1)
  have hv1 := (H v hv).1
  unfold nmL
  refine ⟨by omega, fun r hr => ?_⟩
  have e1 : min (m v) (lnM m (bsL nt (nt ^ j) v) (nt ^ j) nt + 1) ≤ r ↔ m v ≤ r ∨ lnM m (bsL nt (nt ^ j) v) (nt ^ j) nt ≤ r - 1 := by omega
  rw [e1, lnM_le]
  constructor
  · rintro (q | q | ⟨i, hi, q⟩)
    · obtain ⟨s, a1, a2, a3⟩ := ((H v hv).2 r hr).mp q
      refine ⟨s, a1, ?_, ?_⟩
      · rw [Nat.pow_succ, ← Nat.div_div_eq_div_mul, ← Nat.div_div_eq_div_mul, a2]
      · rw [difN, a2]; simp [ze]; exact a3
    · omega
    · obtain ⟨s, a1, a2, a3⟩ := ((H _ (pt i hi)).2 (r - 1) (by omega)).mp q
      obtain ⟨p1, p2, p3⟩ := bsL_pt (v := v) hs hn hi
      refine ⟨s, a1, ?_, ?_⟩
      · rw [Nat.pow_succ, ← Nat.div_div_eq_div_mul, a2, Nat.div_div_eq_div_mul, p3]
      · have := dif_mod (nt := nt) (s := s) j p2
        rw [this] at a3
        have z : ∀ b, ze b ≤ 1 := fun b => by cases b <;> simp [ze]
        have := z (s / nt ^ j % nt != v / nt ^ j % nt)
        rw [difN]; omega
  · rintro ⟨s, a1, a2, a3⟩
    rw [difN] at a3
    by_cases q : s / nt ^ j % nt = v / nt ^ j % nt
    · left
      refine ((H v hv).2 r hr).mpr ⟨s, a1, ?_, ?_⟩
      · have x1 := Nat.div_add_mod (s / nt ^ j) nt
        have x2 := Nat.div_add_mod (v / nt ^ j) nt
        rw [Nat.div_div_eq_div_mul, eb] at x1 x2
        rw [← x1, ← x2, a2, q]
      · omega
    · right; right
      have zz : ze (s / nt ^ j % nt != v / nt ^ j % nt) = 1 := by simp [ze, q]
      rw [zz] at a3
      have hi := Nat.mod_lt (s / nt ^ j) hn
      refine ⟨s / nt ^ j % nt, hi, ?_⟩
      obtain ⟨p1, p2, p3⟩ := bsL_pt (v := v) hs hn hi
      refine ((H _ (pt _ hi)).2 (r - 1) (by omega)).mpr ⟨s, a1, ?_, ?_⟩
      · rw [p1, eb, ← a2]
        have x1 := Nat.div_add_mod (s / nt ^ j) nt
        rw [Nat.div_div_eq_div_mul, eb, Nat.mul_comm] at x1
        exact x1.symm
      · rw [dif_mod (nt := nt) (s := s) j p2]; omega
theorem ze_ne (a c : Nat) : ze (a != c) = if a = c then 0 else 1 := by
  by_cases h : a = c
  · subst h; simp [ze]
  · simp [ze, h]
theorem dif_tp {nt L s v : Nat} (hL : 2 ≤ L ∧ L ≤ 5) : tp_df (dgN nt L s) (dgN nt L v) = difN nt L s v := by
  match L, hL with
  | 2, _ => simp [tp_df, dgN, difN, ze]
            omega
  | 3, _ => simp [tp_df, dgN, difN, ze]
            omega
  | 4, _ => simp [tp_df, dgN, difN, ze]
            omega
  | 5, _ => simp [tp_df, dgN, difN, ze]
            omega
