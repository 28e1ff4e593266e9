/-! the whistles by the rules that were told -/
def sgC (cd : List Int) (p q : Int) : List Int := (cd.drop p.toNat).take (q - p).toNat
def vSm (β : mm_Mem) (cd : List Int) (F : Nat → Int) (i : Nat) : Int := (evC F (sgC cd (β 40 i) (β 41 i)) []).headD 0
def vTs (β : mm_Mem) (cd : List Int) (F : Nat → Int) (i : Nat) : Int := (evC F (sgC cd (β 41 i) (β 42 i)) []).headD 0
/-- the first rule of a kind whose test holds -/
def chG (β : mm_Mem) (cd : List Int) (F : Nat → Int) (kd : Nat) : Nat → Nat → Option Int
  | 0, _ => none
  | c + 1, j => if vTs β cd F (6 * kd + j) ≠ 0 then some (vSm β cd F (6 * kd + j)) else chG β cd F kd c (j + 1)
def chP (β : mm_Mem) (cd : List Int) (F : Nat → Int) (kd : Nat) : Option Int := chG β cd F kd (β 0 (8 + kd)).toNat 0
def smP (f : Nat → Int) : Nat → Int
  | 0 => 0
  | k + 1 => smP f k + f k
def fcP (L : Nat) (f : Nat → Int) (kp old here : Int) : Nat → Int := fun i => if i = 0 then smP f L else if i = 1 then f 0 else if i = 2 then f (L - 1) else if i = 3 then old else if i = 4 then here else kp
def plP (β : mm_Mem) (cd : List Int) (f : Nat → Int) (kp : Int) : Int := match chP β cd (fcP (β 0 4).toNat f kp 0 0) 0 with
  | some v => v % β 0 4
  | none => 0
def ntP (β : mm_Mem) (cd : List Int) (f : Nat → Int) (kp : Int) : Int := match chP β cd (fcP (β 0 4).toNat f kp (f (plP β cd f kp).toNat) (plP β cd f kp)) 1 with
  | some v => v % β 0 3
  | none => (f (plP β cd f kp).toNat + 1) % β 0 3
def kpP (β : mm_Mem) (cd : List Int) (f : Nat → Int) (kp : Int) : Int := match chP β cd (fcP (β 0 4).toNat f kp 0 0) 2 with
  | some v => v % 100
  | none => kp
def nxP (β : mm_Mem) (cd : List Int) (s : (Nat → Int) × Int) : (Nat → Int) × Int := (fun i => if (i : Int) = plP β cd s.1 s.2 then ntP β cd s.1 s.2 else s.1 i, kpP β cd s.1 s.2)
def wsP (β : mm_Mem) (cd : List Int) (t : Nat) : Nat → (Nat → Int) × Int
  | 0 => (fun i => β 30 (5 * t + i), β 31 t)
  | n + 1 => nxP β cd (wsP β cd t n)
/-- notes of a tune and what is kept, in their ranges -/
def okW (β : mm_Mem) (s : (Nat → Int) × Int) : Prop := (∀ i : Nat, (i : Int) < β 0 4 → 0 ≤ s.1 i ∧ s.1 i < β 0 3) ∧ 0 ≤ s.2 ∧ s.2 ≤ 99
section Wst
variable {β : mm_Mem} {cd cd' : List Int} {F : Nat → Int}
theorem sg_eq {u c w : List Int} {p q : Int} (e : cd = u ++ c ++ w) (hp : p = (u.length : Int)) (hq : q = ((u ++ c).length : Int)) : sgC cd p q = c := by
  subst e; subst hp; subst hq
  unfold sgC
  rw [Int.toNat_natCast, List.append_assoc, List.drop_left, List.length_append]
  have : (((u.length + c.length : Nat) : Int) - (u.length : Int)).toNat = c.length := by omega
  rw [this, List.take_left]
/-- what is known of a rule -/
def ruV (β : mm_Mem) (cd cd' : List Int) (F : Nat → Int) (i : Nat) (u c t w u' c' t' w' : List Int) : Prop := cd = u ++ c ++ t ++ w ∧ cd' = u' ++ c' ++ t' ++ w' ∧ (β 40 i = (u.length : Int) ∧ β 41 i = ((u ++ c).length : Int) ∧ β 42 i = ((u ++ c ++ t).length : Int)) ∧ (β 43 i = (u'.length : Int) ∧ β 44 i = ((u' ++ c').length : Int) ∧ β 45 i = ((u' ++ c' ++ t').length : Int)) ∧ (okC F 64 c [] ∧ evC F c [] = [vSm β cd F i] ∧ okC F 64 t [] ∧ evC F t [] = [vTs β cd F i]) ∧ (okC F 1650 c' [] ∧ evC F c' [] = [vSm β cd F i] ∧ okC F 1650 t' [] ∧ evC F t' [] = [vTs β cd F i]) ∧ bd6 (vSm β cd F i) ∧ b01 (vTs β cd F i)
theorem ru_v {i : Nat} (hF : ∀ i, i < 6 → bd6 (F i)) (h : rlO β cd cd' i) : ∃ u c t w u' c' t' w', ruV β cd cd' F i u c t w u' c' t' w' := by
  obtain ⟨u, c, t, w, u', c', t', w', e, e', a1, a2, a3, a4, a5, a6, rv⟩ := h
  obtain ⟨⟨v, vb, ev⟩, x, xb, ex⟩ := rv F hF
  obtain ⟨k1, -, k3, -⟩ := ev 64 [] (by show 0 + 60 ≤ 64; omega)
  obtain ⟨-, k2, -, k4⟩ := ev 1650 [] (by show 0 + 60 ≤ 1650; omega)
  obtain ⟨m1, -, m3, -⟩ := ex 64 [] (by show 0 + 60 ≤ 64; omega)
  obtain ⟨-, m2, -, m4⟩ := ex 1650 [] (by show 0 + 60 ≤ 1650; omega)
  have s1 : sgC cd (β 40 i) (β 41 i) = c := sg_eq (u := u) (c := c) (w := t ++ w) (by rw [e]; simp) a1 a2
  have s2 : sgC cd (β 41 i) (β 42 i) = t := sg_eq (u := u ++ c) (c := t) (w := w) e a2 a3
  have hv : vSm β cd F i = v := by unfold vSm; rw [s1, k3]; rfl
  have hx : vTs β cd F i = x := by unfold vTs; rw [s2, m3]; rfl
  refine ⟨u, c, t, w, u', c', t', w', e, e', ⟨a1, a2, a3⟩, ⟨a4, a5, a6⟩, ?_, ?_, ?_, ?_⟩
  · rw [hv, hx]; exact ⟨k1, k3, m1, m3⟩
  · rw [hv, hx]; exact ⟨k2, k4, m2, m4⟩
  · rw [hv]; exact vb
  · rw [hx]; exact xb
theorem ch_b {kd : Nat} (hF : ∀ i, i < 6 → bd6 (F i)) (R : siR β cd cd') (hk : kd < 3) {v : Int} : ∀ (c j : Nat), ((j + c : Nat) : Int) ≤ β 0 (8 + kd) → chG β cd F kd c j = some v → bd6 v
  | 0, _, _, h => by cases h
  | c + 1, j, hj, h => by
    rw [chG] at h
    obtain ⟨u, x, t, w, u', c', t', w', -, -, -, -, -, -, b, -⟩ := ru_v hF (R kd j hk (by omega))
    split at h
    · cases h; exact b
    · exact ch_b hF R hk c (j + 1) (by rw [show j + 1 + c = j + (c + 1) by omega]; exact hj) h
theorem sm_r {f : Nat → Int} {m : Int} : ∀ k : Nat, (∀ i, i < k → 0 ≤ f i ∧ f i < m) → 0 ≤ smP f k ∧ smP f k ≤ m * k
  | 0, _ => by rw [smP]; simp
  | k + 1, h => by
    have i1 := sm_r k (fun i hi => h i (by omega))
    have i2 := h k (by omega)
    rw [smP]
    have : m * ((k + 1 : Nat) : Int) = m * (k : Int) + m := by rw [show ((k + 1 : Nat) : Int) = (k : Int) + 1 by omega, Int.mul_add, Int.mul_one]
    omega
theorem fc_b {s : (Nat → Int) × Int} {old here : Int} (H : siH β) (w : okW β s) (ho : 0 ≤ old ∧ old ≤ 6) (hh : 0 ≤ here ∧ here ≤ 6) : ∀ i, i < 6 → bd6 (fcP (β 0 4).toNat s.1 s.2 old here i) := by
  have h := H.1
  intro i _
  unfold fcP bd6
  have sm := sm_r (f := s.1) (m := β 0 3) (β 0 4).toNat (fun i hi => w.1 i (by omega))
  have w0 := w.1 0 (by omega)
  have wL := w.1 ((β 0 4).toNat - 1) (by omega)
  have sb : smP s.1 (β 0 4).toNat ≤ 36 := by
    have : β 0 3 * ((β 0 4).toNat : Int) ≤ 6 * 6 := Int.mul_le_mul (by omega) (by omega) (by omega) (by omega)
    omega
  have := w.2
  split
  · omega
  split
  · omega
  split
  · omega
  split
  · omega
  split
  · omega
  · omega
theorem pl_r {s : (Nat → Int) × Int} (H : siH β) : 0 ≤ plP β cd s.1 s.2 ∧ plP β cd s.1 s.2 < β 0 4 := by
  have h := H.1
  unfold plP
  split
  · rename_i v _
    exact ⟨Int.emod_nonneg v (by omega), Int.emod_lt_of_pos v (by omega)⟩
  · omega
theorem nt_r {s : (Nat → Int) × Int} (H : siH β) : 0 ≤ ntP β cd s.1 s.2 ∧ ntP β cd s.1 s.2 < β 0 3 := by
  have h := H.1
  unfold ntP
  split
  · rename_i v _
    exact ⟨Int.emod_nonneg v (by omega), Int.emod_lt_of_pos v (by omega)⟩
  · exact ⟨Int.emod_nonneg _ (by omega), Int.emod_lt_of_pos _ (by omega)⟩
theorem kp_r {s : (Nat → Int) × Int} (w : okW β s) : 0 ≤ kpP β cd s.1 s.2 ∧ kpP β cd s.1 s.2 ≤ 99 := by
  unfold kpP
  split
  · rename_i v _
    have := Int.emod_nonneg v (show (100 : Int) ≠ 0 by omega)
    have := Int.emod_lt_of_pos v (show (0 : Int) < 100 by omega)
    omega
  · exact w.2
theorem nx_ok {s : (Nat → Int) × Int} (H : siH β) (w : okW β s) : okW β (nxP β cd s) := by
  refine ⟨fun i hi => ?_, kp_r w⟩
  show 0 ≤ (if (i : Int) = plP β cd s.1 s.2 then ntP β cd s.1 s.2 else s.1 i) ∧ (if (i : Int) = plP β cd s.1 s.2 then ntP β cd s.1 s.2 else s.1 i) < β 0 3
  split
  · exact nt_r H
  · exact w.1 i hi
theorem ws_ok {t : Nat} (H : siH β) (T : siT β) (ht : (t : Int) < β 0 5) : ∀ n, okW β (wsP β cd t n)
  | 0 => by obtain ⟨a, b⟩ := T t ht; exact ⟨a, b⟩
  | n + 1 => nx_ok H (ws_ok H T ht n)
/-- the next one depends on the notes and on what is kept alone -/
def alW (β : mm_Mem) (s s' : (Nat → Int) × Int) : Prop := (∀ i : Nat, (i : Int) < β 0 4 → s.1 i = s'.1 i) ∧ s.2 = s'.2
theorem sm_cg {f g : Nat → Int} : ∀ k : Nat, (∀ i, i < k → f i = g i) → smP f k = smP g k
  | 0, _ => rfl
  | k + 1, h => by rw [smP, smP, sm_cg k (fun i hi => h i (by omega)), h k (by omega)]
theorem fc_cg {s s' : (Nat → Int) × Int} {old here : Int} (H : siH β) (a : alW β s s') : fcP (β 0 4).toNat s.1 s.2 old here = fcP (β 0 4).toNat s'.1 s'.2 old here := by
  have h := H.1
  funext i
  unfold fcP
  rw [sm_cg (β 0 4).toNat (fun i hi => a.1 i (by omega)), a.1 0 (by omega), a.1 ((β 0 4).toNat - 1) (by omega), a.2]
theorem nx_al {s s' : (Nat → Int) × Int} (H : siH β) (a : alW β s s') : alW β (nxP β cd s) (nxP β cd s') := by
  have h := H.1
  have e1 : plP β cd s.1 s.2 = plP β cd s'.1 s'.2 := by unfold plP; rw [fc_cg H a]
  have pr := pl_r (cd := cd) (s := s') H
  have eo : s.1 (plP β cd s'.1 s'.2).toNat = s'.1 (plP β cd s'.1 s'.2).toNat := a.1 _ (by omega)
  have e2 : ntP β cd s.1 s.2 = ntP β cd s'.1 s'.2 := by unfold ntP; rw [e1, eo, fc_cg H a]
  have e3 : kpP β cd s.1 s.2 = kpP β cd s'.1 s'.2 := by unfold kpP; rw [fc_cg H a, a.2]
  refine ⟨fun i hi => ?_, e3⟩
  show (if (i : Int) = plP β cd s.1 s.2 then ntP β cd s.1 s.2 else s.1 i) = (if (i : Int) = plP β cd s'.1 s'.2 then ntP β cd s'.1 s'.2 else s'.1 i)
  rw [e1, e2, a.1 i hi]
theorem ws_al {t m n : Nat} (H : siH β) (a : alW β (wsP β cd t m) (wsP β cd t n)) : ∀ k, alW β (wsP β cd t (m + k)) (wsP β cd t (n + k))
  | 0 => a
  | k + 1 => nx_al H (ws_al H a k)
end Wst
