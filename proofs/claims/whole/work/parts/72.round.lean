/-! round, both sides -/
theorem least_ex {P : Nat → Prop} : ∀ n, P n → ∃ m, m ≤ n ∧ P m ∧ ∀ x, x < m → ¬ P x := by
  intro n
  induction n using Nat.strongRecOn with
  | _ n ih =>
    intro hn
    by_cases q : ∃ m, m < n ∧ P m
    · obtain ⟨m, h1, h2⟩ := q
      obtain ⟨y, y1, y2, y3⟩ := ih m h1 h2
      exact ⟨y, by omega, y2, y3⟩
    · exact ⟨n, Nat.le_refl _, hn, fun x hx hp => q ⟨x, hx, hp⟩⟩
/-- the first pair that is alike -/
def rdP (α : mm_Mem) (t i j : Nat) : Prop := i < j ∧ j < 1000 ∧ alA α t i j ∧ (∀ i' j', i' < j' → j' < j → ¬ alA α t i' j') ∧ ∀ i', i' < i → ¬ alA α t i' j
def isRound (α : mm_Mem) (t what v : Int) : Prop := if (0 ≤ t ∧ t < α 0 5) ∧ (what = 0 ∨ what = 1) then ((v = -1 ∧ ∀ i j, i < j → j < 1000 → ¬ alA α t.toNat i j) ∨ ∃ i j, rdP α t.toNat i j ∧ v = if what = 0 then (i : Int) else (j : Int) - i) else v = -1
theorem rdP_u {α : mm_Mem} {t i j i' j' : Nat} (h : rdP α t i j) (h' : rdP α t i' j') : i = i' ∧ j = j' := by
  obtain ⟨a, b, c, e, f⟩ := h
  obtain ⟨a', b', c', e', f'⟩ := h'
  have : j = j' := by
    by_cases q : j < j'
    · exact absurd c (e' i j a q)
    · by_cases q2 : j' < j
      · exact absurd c' (e i' j' a' q2)
      · omega
  subst this
  refine ⟨?_, rfl⟩
  by_cases q : i < i'
  · exact absurd c (f' i q)
  · by_cases q2 : i' < i
    · exact absurd c' (f i' q2)
    · omega
theorem isRound_u {α : mm_Mem} {t what v v' : Int} (h : isRound α t what v) (h' : isRound α t what v') : v = v' := by
  unfold isRound at h h'
  by_cases z : (0 ≤ t ∧ t < α 0 5) ∧ (what = 0 ∨ what = 1)
  · rw [if_pos z] at h h'
    rcases h with ⟨a, b⟩ | ⟨i, j, r, e⟩
    · rcases h' with ⟨a', b'⟩ | ⟨i', j', r', e'⟩
      · omega
      · exact absurd r'.2.2.1 (b i' j' r'.1 r'.2.1)
    · rcases h' with ⟨a', b'⟩ | ⟨i', j', r', e'⟩
      · exact absurd r.2.2.1 (b' i j r.1 r.2.1)
      · obtain ⟨e1, e2⟩ := rdP_u r r'
        rw [e, e', e1, e2]
  · rw [if_neg z] at h h'; omega
theorem al_s {α : mm_Mem} {t m n : Nat} (h : alA α t m n) : alA α t n m := ⟨h.1.symm, h.2.symm⟩
theorem al_t {α : mm_Mem} {t l m n : Nat} (h : alA α t l m) (h' : alA α t m n) : alA α t l n := ⟨h.1.trans h'.1, h.2.trans h'.2⟩
theorem al_up {k : Nat} {α : mm_Mem} {t m n : Nat} (w : WF k α) (t1 : (t : Int) < α 0 5) (h : alA α t m n) : ∀ s, m + s < 1000 → n + s < 1000 → alA α t (m + s) (n + s)
  | 0, _, _ => h
  | s + 1, a, b => (w.2.2.2.2.2.2.1 t t1).2 (m + s) (n + s) (by omega) (by omega) (al_up w t1 h s (by omega) (by omega))
theorem rdP_ex {α : mm_Mem} {t i j : Nat} (h1 : i < j) (h2 : j < 1000) (h : alA α t i j) : ∃ i j, rdP α t i j := by
  obtain ⟨j', a, ⟨i0, b1, b2⟩, c⟩ := least_ex (P := fun j => ∃ i, i < j ∧ alA α t i j) j ⟨i, h1, h⟩
  obtain ⟨i', a', b', c'⟩ := least_ex (P := fun i => alA α t i j') i0 b2
  exact ⟨i', j', by omega, by omega, b', fun x y q1 q2 q3 => c y q2 ⟨x, q1, q3⟩, c'⟩
/-- every whistle stands in the round, or is before it -/
theorem rd_in {k : Nat} {α : mm_Mem} {t i j : Nat} (w : WF k α) (t1 : (t : Int) < α 0 5) (r : rdP α t i j) : ∀ n, n < 1000 → ∃ m, m < j ∧ alA α t n m ∧ (n < j → m = n) ∧ (j ≤ n → i ≤ m ∧ ∃ q, n = m + q * (j - i)) := by
  intro n
  induction n using Nat.strongRecOn with
  | _ n ih =>
    intro hn
    by_cases q : n < j
    · exact ⟨n, q, ⟨rfl, rfl⟩, fun _ => rfl, fun z => by omega⟩
    · obtain ⟨a, b, c, -⟩ := r
      obtain ⟨m, m1, m2, m3, m4⟩ := ih (n - (j - i)) (by omega) (by omega)
      have s := al_up w t1 c (n - j) (by omega) (by omega)
      rw [show i + (n - j) = n - (j - i) by omega, show j + (n - j) = n by omega] at s
      refine ⟨m, m1, al_t (al_s s) m2, fun z => by omega, fun _ => ?_⟩
      by_cases z : n - (j - i) < j
      · rw [m3 z]; exact ⟨by omega, 1, by omega⟩
      · obtain ⟨u, x, hx⟩ := m4 (by omega)
        refine ⟨u, x + 1, ?_⟩
        rw [Nat.add_mul]; omega
theorem rd_back {k : Nat} {α : mm_Mem} {t i j x : Nat} (w : WF k α) (t1 : (t : Int) < α 0 5) (r : rdP α t i j) (x1 : 1 ≤ x) (x2 : x < 1000) (h : alA α t (999 - x) 999) (lo : ∀ y, 1 ≤ y → y < x → ¬ alA α t (999 - y) 999) : x = j - i := by
  obtain ⟨a, b, c, e, f⟩ := id r
  have s := al_up w t1 c (999 - j) (by omega) (by omega)
  rw [show i + (999 - j) = 999 - (j - i) by omega, show j + (999 - j) = 999 by omega] at s
  have le : x ≤ j - i := by
    by_cases q : j - i < x
    · exact absurd s (lo _ (by omega) q)
    · omega
  obtain ⟨m, m1, m2, m3, m4⟩ := rd_in w t1 r 999 (by omega)
  obtain ⟨m', p1, p2, p3, p4⟩ := rd_in w t1 r (999 - x) (by omega)
  have em : m = m' := by
    have al := al_t (al_s m2) (al_t (al_s h) p2)
    by_cases q : m < m'
    · exact absurd al (e m m' q p1)
    · by_cases q2 : m' < m
      · exact absurd (al_s al) (e m' m q2 m1)
      · omega
  subst em
  by_cases z : j ≤ 999
  · obtain ⟨u1, q, hq⟩ := m4 z
    by_cases z2 : j ≤ 999 - x
    · obtain ⟨-, q', hq'⟩ := p4 z2
      -- x = (q - q') * (j - i)
      have hh : x = (q - q') * (j - i) := by rw [Nat.sub_mul]; omega
      have : q - q' ≠ 0 := fun z => by rw [z] at hh; omega
      have : 1 * (j - i) ≤ (q - q') * (j - i) := Nat.mul_le_mul_right _ (by omega)
      omega
    · have := p3 (by omega)
      -- m = 999 - x and 999 = m + q * (j - i)
      have hh : x = q * (j - i) := by omega
      have : q ≠ 0 := fun z => by rw [z] at hh; omega
      have : 1 * (j - i) ≤ q * (j - i) := Nat.mul_le_mul_right _ (by omega)
      omega
  · omega
section Round
variable {E : mm_Env} {d k h b : Nat} {α τ : mm_Mem} {Q : mm_Q0}
theorem c_isAlike {t m n : Nat} {y z : Int} (w : WF k α) (H : RepC k h α τ) (t1 : (t : Int) < α 0 5) (m1 : m < 1000) (n1 : n < 1000) (hy : y = (m : Int)) (hz : z = (n : Int)) (k1 : ∀ v : Bool, (v = true → alA α t m n) → (v = false → ¬ alA α t m n) → Q (some (vB v)) τ) : M0 E d qX9_isAlike [vR 78, vI (t : Int), vI y, vI z] τ Q := by
  have tu : α 0 5 ≤ 3 := by have := w.2.1.1; omega
  have hL := w.tune t1
  subst hy hz
  have e1 := H.whi (t := (t : Int)) (n := (m : Int)) (by omega) t1 (by omega) (by omega)
  have e2 := H.whi (t := (t : Int)) (n := (n : Int)) (by omega) t1 (by omega) (by omega)
  rw [Int.toNat_natCast, Int.toNat_natCast] at e1 e2
  have tn := tp_num w hL (fv_wp w (t := t) (n := m) t1 m1) (fv_wp w (t := t) (n := n) t1 n1)
  rw [num_wp w t1 m1, num_wp w t1 n1] at tn
  refine mX9_isAlike ?_
  rw [Int.toNat_natCast, Int.toNat_natCast, Int.toNat_natCast, e1.1, e2.1, e1.2.2, e2.2.2]
  refine ⟨by omega, by omega, by omega, by omega, by omega, by omega, by omega, by omega, fun q => k1 false (fun e => by cases e) (fun _ a => q (by have := tn.mpr a.1; omega)), fun q => ⟨by omega, by omega, by omega, by omega, by omega, by omega, by omega, by omega, fun q2 => k1 false (fun e => by cases e) (fun _ a => q2 a.2), fun q2 => k1 true (fun _ => ⟨tn.mp (by omega), q2⟩) (fun e => by cases e)⟩⟩
theorem c_rlL {t : Nat} (w : WF k α) (H : RepC k h α τ) (t1 : (t : Int) < α 0 5) (k1 : ∀ v : Int, ((v = -1 ∧ ∀ y, 1 ≤ y → y < 1000 → ¬ alA α t (999 - y) 999) ∨ ∃ x : Nat, 1 ≤ x ∧ x < 1000 ∧ alA α t (999 - x) 999 ∧ v = (x : Int) ∧ ∀ y, 1 ≤ y → y < x → ¬ alA α t (999 - y) 999) → Q (some (vI v)) τ) : ∀ (c x : Nat), x + c = 1000 → 1 ≤ x → (∀ y, 1 ≤ y → y < x → ¬ alA α t (999 - y) 999) → V0 E (d + 1) qX9_roundLength 12 [some (vR 78), some (vI (t : Int)), some (vI (x : Int))] [] τ Q
  | 0, x, hx, h1, lo => bX9_roundLength_12 ⟨⟨by omega, by omega⟩, fun _ => k1 _ (Or.inl ⟨rfl, fun y a b => lo y a (by omega)⟩), fun q => by omega⟩
  | c + 1, x, hx, h1, lo => by
    refine bX9_roundLength_12 ⟨⟨by omega, by omega⟩, fun q => by omega, fun _ => c_isAlike (m := 999 - x) (n := 999) w H t1 (by omega) (by omega) (by omega) (by omega) (fun v v1 v2 => ⟨_, rfl, fun q => ?_, fun q => k1 _ (Or.inr ⟨x, h1, by omega, v1 q, rfl, lo⟩)⟩)⟩
    rw [show (x : Int) + 1 = ((x + 1 : Nat) : Int) by omega]
    refine c_rlL w H t1 k1 c (x + 1) (by omega) (by omega) (fun y a b => ?_)
    by_cases e : y = x
    · rw [e]; exact v2 q
    · exact lo y a (by omega)
theorem c_rsL {t i j : Nat} (w : WF k α) (H : RepC k h α τ) (t1 : (t : Int) < α 0 5) (r : rdP α t i j) (k1 : Q (some (vI (i : Int))) τ) : ∀ (c n : Nat), n + c = i → V0 E (d + 1) qX9_roundStart 12 [some (vR 78), some (vI (t : Int)), some (vI ((j : Int) - i)), some (vI (n : Int))] [] τ Q
  | 0, n, hn => by
    obtain ⟨a, b, c, e, f⟩ := id r
    have en : n = i := by omega
    subst en
    exact bX9_roundStart_12 ⟨⟨by omega, by omega⟩, fun q => by omega, fun _ => c_isAlike (m := n) (n := j) w H t1 (by omega) (by omega) (by omega) (by omega) (fun v v1 v2 => ⟨_, rfl, fun q => absurd c (v2 q), fun q => k1⟩)⟩
  | c + 1, n, hn => by
    obtain ⟨a, b, cc, e, f⟩ := id r
    refine bX9_roundStart_12 ⟨⟨by omega, by omega⟩, fun q => by omega, fun _ => c_isAlike (m := n) (n := n + (j - i)) w H t1 (by omega) (by omega) (by omega) (by omega) (fun v v1 v2 => ⟨_, rfl, fun q => ?_, fun q => absurd (v1 q) (e n (n + (j - i)) (by omega) (by omega))⟩)⟩
    rw [show (n : Int) + 1 = ((n + 1 : Nat) : Int) by omega]
    exact c_rsL w H t1 r k1 c (n + 1) (by omega)
theorem c_round {a0 a1 : Int} (w : WF k α) (H : RepC k h α τ) (h0 : inR a0) (h1 : inR a1) (k1 : ∀ v, isRound α a0 a1 v → Q (some (vI v)) τ) : M0 E (d + 2) qX10_round [vR 2, vI a0, vI a1] τ Q := by
  unfold isRound at k1
  have no : ¬ ((0 ≤ a0 ∧ a0 < α 0 5) ∧ (a1 = 0 ∨ a1 = 1)) → Q (some (vI (-1))) τ := fun z => by
    simp only [if_neg z] at k1; exact k1 _ rfl
  refine mX10_round (c_isTune w H h0 ⟨_, rfl, fun q => no (fun z => of_decide_eq_false q z.1), fun q => ⟨h1, fun q2 => no (fun z => by omega), fun q2 => ⟨fun q3 => ?_, fun q3 => no (fun z => by omega)⟩⟩⟩)
  have q := of_decide_eq_true q
  have tu : α 0 5 ≤ 3 := by have := w.2.1.1; omega
  simp only [if_pos (show (0 ≤ a0 ∧ a0 < α 0 5) ∧ (a1 = 0 ∨ a1 = 1) from ⟨q, by omega⟩)] at k1
  obtain ⟨t, rfl⟩ : ∃ t : Nat, a0 = (t : Int) := ⟨a0.toNat, by omega⟩
  rw [Int.toNat_natCast] at k1
  have t1 := q.2
  refine mX9_roundLength (c_isThere ⟨by omega, by omega⟩ ⟨by omega, by omega⟩ ⟨_, rfl, fun _ => ?_, fun z => absurd (of_decide_eq_false z) (by omega)⟩)
  refine c_rlL w H t1 (fun v hv => ⟨_, rfl, ?_⟩) 999 1 (by omega) (by omega) (fun y a b => by omega)
  rcases hv with ⟨e, nn⟩ | ⟨x, x1, x2, x3, x4, x5⟩
  · have nn' : ∀ i j, i < j → j < 1000 → ¬ alA α t i j := fun i j a b al => by
      have s := al_up w t1 al (999 - j) (by omega) (by omega)
      rw [show j + (999 - j) = 999 by omega, show i + (999 - j) = 999 - (j - i) by omega] at s
      exact nn (j - i) (by omega) (by omega) s
    subst e
    exact ⟨fun _ => k1 _ (Or.inl ⟨rfl, nn'⟩), fun _ => ⟨⟨by omega, by omega⟩, fun z => absurd rfl z, fun _ => k1 _ (Or.inl ⟨rfl, nn'⟩)⟩⟩
  · obtain ⟨i, j, r⟩ := rdP_ex (by omega) (by omega) x3
    have ex := rd_back w t1 r x1 x2 x3 x5
    obtain ⟨ra, rb, -⟩ := id r
    have ev : v = (j : Int) - i := by omega
    subst ev
    refine ⟨fun z => k1 _ (Or.inr ⟨i, j, r, by rw [if_neg (by omega)]⟩), fun z => ⟨⟨by omega, by omega⟩, fun _ => ?_, fun z2 => by omega⟩⟩
    refine mX9_roundStart (c_isThere ⟨by omega, by omega⟩ ⟨by omega, by omega⟩ ⟨_, rfl, fun _ => ?_, fun z => absurd (of_decide_eq_false z) (by omega)⟩)
    exact c_rsL w H t1 r ⟨_, rfl, k1 _ (Or.inr ⟨i, j, r, by rw [if_pos (by omega)]⟩)⟩ i 0 (by omega)
theorem m_round39 {t j : Nat} {what : Int} (w : WF k α) (H : RepM b α τ) (t1 : (t : Int) < α 0 5) (hw : inR what) (j1 : j < 1000) (lo : ∀ i' j', i' < j' → j' < j → ¬ alA α t i' j') (kN : (∀ i', i' < j → ¬ alA α t i' j) → V0 E (d + 2) qX11_round 28 [some (vR 140), none, some (vI what), some (vI (1000 * (t : Int))), some (vI ((j : Int) + 1)), none] [] τ Q) (k1 : ∀ i, rdP α t i j → Q (some (vI (if what = 0 then (i : Int) else (j : Int) - i))) τ) : ∀ (c i : Nat), i + c = j → (∀ i', i' < i → ¬ alA α t i' j) → V0 E (d + 2) qX11_round 39 [some (vR 140), none, some (vI what), some (vI (1000 * (t : Int))), some (vI (j : Int)), some (vI (i : Int))] [] τ Q
  | 0, i, hi, li => bX11_round_39 ⟨⟨by omega, by omega⟩, ⟨by omega, by omega⟩, fun _ => kN (fun i' h => li i' (by omega)), fun q => by omega⟩
  | c + 1, i, hi, li => by
    have tu : α 0 5 ≤ 3 := by have := w.2.1.1; omega
    have e1 := H.nbr (t := t) (n := i) (x := 1000 * (t : Int) + i) t1 (by omega) (by omega)
    have e2 := H.nbr (t := t) (n := j) (x := 1000 * (t : Int) + j) t1 (by omega) (by omega)
    have go : ¬ alA α t i j → V0 E (d + 2) qX11_round 39 [some (vR 140), none, some (vI what), some (vI (1000 * (t : Int))), some (vI (j : Int)), some (vI ((i : Int) + 1))] [] τ Q := fun na => by
      rw [show (i : Int) + 1 = ((i + 1 : Nat) : Int) by omega]
      refine m_round39 w H t1 hw j1 lo kN k1 c (i + 1) (by omega) (fun i' h' => ?_)
      by_cases e : i' = i
      · rw [e]; exact na
      · exact li i' (by omega)
    refine bX11_round_39 ?_
    rw [e1.1, e2.1, e1.2, e2.2]
    refine ⟨⟨by omega, by omega⟩, ⟨by omega, by omega⟩, fun q => by omega, fun _ => ⟨by omega, by omega, by omega, by omega, fun q => go (fun a => q a.1), fun q => ⟨by omega, by omega, by omega, by omega, fun q2 => go (fun a => q2 a.2), fun q2 => ?_⟩⟩⟩
    have k1 := k1 i ⟨by omega, j1, ⟨q, q2⟩, lo, li⟩
    exact ⟨hw, fun z => by rw [if_neg z] at k1; exact k1, fun z => by rw [if_pos z] at k1; exact k1⟩
theorem m_round28 {t : Nat} {what : Int} (w : WF k α) (H : RepM b α τ) (t1 : (t : Int) < α 0 5) (hw : inR what) (k1 : ∀ v : Int, ((v = -1 ∧ ∀ i j, i < j → j < 1000 → ¬ alA α t i j) ∨ ∃ i j, rdP α t i j ∧ v = if what = 0 then (i : Int) else (j : Int) - i) → Q (some (vI v)) τ) : ∀ (c j : Nat), j + c = 1000 → (∀ i' j', i' < j' → j' < j → ¬ alA α t i' j') → V0 E (d + 2) qX11_round 28 [some (vR 140), none, some (vI what), some (vI (1000 * (t : Int))), some (vI (j : Int)), none] [] τ Q
  | 0, j, hj, lo => bX11_round_28 ⟨⟨by omega, by omega⟩, fun _ => k1 _ (Or.inl ⟨rfl, fun a b q1 q2 => lo a b q1 (by omega)⟩), fun q => by omega⟩
  | c + 1, j, hj, lo => by
    refine bX11_round_28 ⟨⟨by omega, by omega⟩, fun q => by omega, fun _ => m_round39 w H t1 hw (by omega) lo (fun nn => ?_) (fun i r => k1 _ (Or.inr ⟨i, j, r, rfl⟩)) j 0 (by omega) (fun i' h' => by omega)⟩
    rw [show (j : Int) + 1 = ((j + 1 : Nat) : Int) by omega]
    refine m_round28 w H t1 hw k1 c (j + 1) (by omega) (fun a b q1 q2 => ?_)
    by_cases e : b = j
    · subst e; exact nn a q1
    · exact lo a b q1 (by omega)
theorem m_round {a0 a1 : Int} (w : WF k α) (H : RepM b α τ) (h0 : inR a0) (h1 : inR a1) (k1 : ∀ v, isRound α a0 a1 v → Q (some (vI v)) τ) : M0 E (d + 2) qX11_round [vR 140, vI a0, vI a1] τ Q := by
  unfold isRound at k1
  have no : ¬ ((0 ≤ a0 ∧ a0 < α 0 5) ∧ (a1 = 0 ∨ a1 = 1)) → Q (some (vI (-1))) τ := fun z => by
    simp only [if_neg z] at k1; exact k1 _ rfl
  have go : (0 ≤ a0 ∧ a0 < α 0 5) → (a1 = 0 ∨ a1 = 1) → V0 E (d + 2) qX11_round 28 [some (vR 140), none, some (vI a1), some (vI (1000 * a0)), some (vI 1), none] [] τ Q := fun q q2 => by
    simp only [if_pos (show (0 ≤ a0 ∧ a0 < α 0 5) ∧ (a1 = 0 ∨ a1 = 1) from ⟨q, q2⟩)] at k1
    obtain ⟨t, rfl⟩ : ∃ t : Nat, a0 = (t : Int) := ⟨a0.toNat, by omega⟩
    rw [Int.toNat_natCast] at k1
    exact m_round28 w H q.2 h1 k1 999 1 (by omega) (fun i' j' a b => by omega)
  exact mX11_round (m_isTune w H h0 ⟨_, rfl, fun q => no (fun z => of_decide_eq_false q z.1), fun q => ⟨h1, fun q4 => go (of_decide_eq_true q) (Or.inl q4), fun q4 => ⟨fun q5 => go (of_decide_eq_true q) (Or.inr q5), fun q5 => no (fun z => by omega)⟩⟩⟩)
end Round
