/-! the house as it is read: β is laid out as α is (0, 2 to 20), with 30 told notes, 31 keep, 40 to 42 where a rule lies for the class, 43 to 45 for the reference -/
abbrev PzT : Type := Sum (Nat × Nat) (Nat × mm_Mem × List Int × List Int)
def nuP (r : Nat → Int) (n a : Nat) (lo hi : Int) (K : Nat → Int → PzT) : PzT := if tNb r n a = true then (if lo ≤ tV r n a ∧ tV r n a ≤ hi then K (tN r n a) (tV r n a) else .inl (4, tPl r n a)) else .inl (1, tPl r n a)
def wdP (r : Nat → Int) (n a i : Nat) (K : Nat → PzT) : PzT := if tWb r n a i = true then K (tN r n a) else .inl (1, tPl r n a)
def sgP (r : Nat → Int) (n a : Nat) (c : Int) (K : Nat → PzT) : PzT := if tSb r n a c = true then K (tN r n a) else .inl (1, tPl r n a)
def nmB (r : Nat → Int) (n a : Nat) : Bool := decide ((tk r n a).1 = 4 ∧ owI (nm5 (tk r n a).2.2.1) = -1)
def fnd (f : Nat → Int) (m v : Int) : Int := fsA (fun i => decide (f i = v)) m.toNat 0
def tkA (β : mm_Mem) (v : Int) : Bool := decide (fnd (β 2) (β 0 5) v ≠ -1 ∨ fnd (β 3) (β 0 6) v ≠ -1 ∨ fnd (β 4) (β 0 7) v ≠ -1)
def nnP (r : Nat → Int) (n a : Nat) (β : mm_Mem) (K : Nat → Int → PzT) : PzT := if nmB r n a = true then (if tkA β (tV r n a) = true then .inl (2, tPl r n a) else K (tN r n a) (tV r n a)) else .inl (1, tPl r n a)
def knP (r : Nat → Int) (n a : Nat) (f : Nat → Int) (m : Int) (K : Nat → Int → PzT) : PzT := if nmB r n a = true then (if fnd f m (tV r n a) = -1 then .inl (3, tPl r n a) else K (tN r n a) (fnd f m (tV r n a))) else .inl (1, tPl r n a)
def nsP (r : Nat → Int) (n : Nat) (hi : Int) (t : Nat) : Nat → Nat → Nat → mm_Mem → (Nat → mm_Mem → PzT) → PzT
  | 0, _, a, β, K => K a β
  | c + 1, i, a, β, K => nuP r n a 0 hi (fun a1 v => nsP r n hi t c (i + 1) a1 (wr β 30 (5 * t + i) v) K)
def bdQ (x : Sum (Nat × Nat) (Nat × List Int × List Int)) (K : Nat → List Int → List Int → PzT) : PzT := match x with
  | .inl z => .inl z
  | .inr (a, c, c') => K a c c'
def bdS (x : PzT) (K : Nat → mm_Mem → List Int → List Int → PzT) : PzT := match x with
  | .inl z => .inl z
  | .inr (a, β, c, c') => K a β c c'
theorem bq_l {z : Nat × Nat} {K : Nat → List Int → List Int → PzT} : bdQ (.inl z) K = .inl z := rfl
theorem bq_r {a : Nat} {c c' : List Int} {K : Nat → List Int → List Int → PzT} : bdQ (.inr (a, c, c')) K = K a c c' := rfl
theorem bs_l {z : Nat × Nat} {K : Nat → mm_Mem → List Int → List Int → PzT} : bdS (.inl z) K = .inl z := rfl
theorem bs_r {a : Nat} {β : mm_Mem} {c c' : List Int} {K : Nat → mm_Mem → List Int → List Int → PzT} : bdS (.inr (a, β, c, c')) K = K a β c c' := rfl
def tuE (β : mm_Mem) (t : Nat) (v : Int) : mm_Mem := wr (wr β 31 t v) 0 5 ((t : Int) + 1)
def tuP (r : Nat → Int) (n a : Nat) (β : mm_Mem) (cd cd' : List Int) : PzT := if 3 ≤ β 0 5 then .inl (5, tPl r n a) else nnP r n (tN r n a) β (fun a1 w => nsP r n (β 0 3 - 1) (β 0 5).toNat (β 0 4).toNat 0 a1 (wr β 2 (β 0 5).toNat w) (fun a2 β2 => wdP r n a2 3 (fun a3 => nuP r n a3 0 99 (fun a4 v => .inr (a4, tuE β2 (β 0 5).toNat v, cd, cd')))))
def ruE (β : mm_Mem) (kd : Nat) (l0 l1 l2 m0 m1 m2 : Nat) : mm_Mem := wr (wr (wr (wr (wr (wr (wr β 40 (6 * kd + (β 0 (8 + kd)).toNat) l0) 41 (6 * kd + (β 0 (8 + kd)).toNat) l1) 42 (6 * kd + (β 0 (8 + kd)).toNat) l2) 43 (6 * kd + (β 0 (8 + kd)).toNat) m0) 44 (6 * kd + (β 0 (8 + kd)).toNat) m1) 45 (6 * kd + (β 0 (8 + kd)).toNat) m2) 0 (8 + kd) (β 0 (8 + kd) + 1)
def ruM (kd : Nat) : Int := if kd = 2 then 4 else 6
def ruP (r : Nat → Int) (n kd a : Nat) (β : mm_Mem) (cd cd' : List Int) : PzT := if ruM kd ≤ β 0 (8 + kd) then .inl (5, tPl r n a) else bdQ (pz r n false 20000 2 (tN r n a) 0) (fun a2 c c' => wdP r n a2 17 (fun a3 => bdQ (pz r n false 20000 5 a3 0) (fun a4 u u' => .inr (a4, ruE β kd cd.length (cd ++ c).length (cd ++ c ++ u).length cd'.length (cd' ++ c').length (cd' ++ c' ++ u').length, cd ++ c ++ u, cd' ++ c' ++ u'))))
def kdI (r : Nat → Int) (n a : Nat) : Int := if tWb r n a 8 = true then 0 else if tWb r n a 9 = true then 1 else if tWb r n a 10 = true then 2 else if tWb r n a 11 = true then 3 else if tWb r n a 12 = true then 4 else -1
def doE (β : mm_Mem) (w kd one two : Int) : mm_Mem := wr (wr (wr (wr (wr β 3 (β 0 6).toNat w) 5 (β 0 6).toNat kd) 6 (β 0 6).toNat one) 7 (β 0 6).toNat two) 0 6 (β 0 6 + 1)
def doP (r : Nat → Int) (n a : Nat) (β : mm_Mem) (cd cd' : List Int) : PzT := if 4 ≤ β 0 6 then .inl (5, tPl r n a) else nnP r n (tN r n a) β (fun a1 w => if kdI r n a1 = -1 then .inl (1, tPl r n a1) else if kdI r n a1 = 0 then .inr (tN r n a1, doE β w 0 0 0, cd, cd') else nuP r n (tN r n a1) (if kdI r n a1 = 2 then 1 else 0) 40 (fun a3 one => if kdI r n a1 = 2 then .inr (a3, doE β w 2 one 0, cd, cd') else nuP r n a3 (if kdI r n a1 = 4 then 1 else 0) (if kdI r n a1 = 3 then 4 else 9) (fun a4 two => .inr (a4, doE β w (kdI r n a1) one two, cd, cd'))))
def peE (β : mm_Mem) (w dd tt l e : Int) : mm_Mem := wr (wr (wr (wr (wr (wr β 4 (β 0 7).toNat w) 8 (β 0 7).toNat dd) 9 (β 0 7).toNat tt) 10 (β 0 7).toNat l) 11 (β 0 7).toNat e) 0 7 (β 0 7 + 1)
def peP (r : Nat → Int) (n a : Nat) (β : mm_Mem) (cd cd' : List Int) : PzT := if 4 ≤ β 0 7 then .inl (5, tPl r n a) else nnP r n (tN r n a) β (fun a1 w => wdP r n a1 7 (fun a2 => knP r n a2 (β 3) (β 0 6) (fun a3 dd => wdP r n a3 2 (fun a4 => knP r n a4 (β 2) (β 0 5) (fun a5 tt => wdP r n a5 14 (fun a6 => nuP r n a6 0 100 (fun a7 l => wdP r n a7 15 (fun a8 => nuP r n a8 0 100 (fun a9 e => .inr (a9, peE β w dd tt l e, cd, cd'))))))))))
def woE (β : mm_Mem) (x y : Int) : mm_Mem := wr (wr β 0 11 x) 0 12 y
def woP (r : Nat → Int) (n a : Nat) (β : mm_Mem) (cd cd' : List Int) : PzT := nuP r n (tN r n a) 0 9999 (fun a1 x => nuP r n a1 0 9999 (fun a2 y => .inr (a2, woE β x y, cd, cd')))
def saP (r : Nat → Int) (n a : Nat) (β : mm_Mem) (cd cd' : List Int) : PzT := if tWb r n a 2 = true then tuP r n a β cd cd' else if tWb r n a 4 = true then ruP r n 0 a β cd cd' else if tWb r n a 5 = true then ruP r n 1 a β cd cd' else if tWb r n a 6 = true then ruP r n 2 a β cd cd' else if tWb r n a 7 = true then doP r n a β cd cd' else if tWb r n a 13 = true then peP r n a β cd cd' else if tWb r n a 16 = true then woP r n a β cd cd' else .inl (1, tPl r n a)
def stP (r : Nat → Int) (n a : Nat) (β : mm_Mem) (cd cd' : List Int) : PzT := bdS (saP r n a β cd cd') (fun a1 β1 c1 c1' => sgP r n a1 59 (fun a2 => .inr (a2, β1, c1, c1')))
def hoP (r : Nat → Int) (n : Nat) : Nat → Nat → Nat → mm_Mem → List Int → List Int → PzT
  | 0, _, _, _, _, _ => .inl (0, 0)
  | f + 1, m, a, β, cd, cd' => if (tk r n a).1 = 0 then .inr (m, β, cd, cd') else bdS (stP r n a β cd cd') (fun a1 β1 c1 c1' => hoP r n f (m + 1) a1 β1 c1 c1')
def be0 : mm_Mem := fun o k => if o = 0 then (if k = 11 ∨ k = 12 then 1 else 0) else if o = 16 ∨ o = 18 then -1 else 0
def heE (v w : Int) : mm_Mem := wr (wr be0 0 3 v) 0 4 w
def heP (r : Nat → Int) (n : Nat) : PzT := wdP r n 0 0 (fun a1 => nuP r n a1 2 6 (fun a2 v => wdP r n a2 1 (fun a3 => nuP r n a3 2 5 (fun a4 w => sgP r n a4 59 (fun a5 => .inr (a5, heE v w, [], []))))))
def hsP (r : Nat → Int) (n : Nat) : PzT := bdS (heP r n) (fun a β cd cd' => hoP r n (n + 1) 1 a β cd cd')
/-! what holds of it -/
def rvO (c c' t t' : List Int) : Prop := ∀ F : Nat → Int, (∀ i, i < 6 → bd6 (F i)) → (∃ v, bd6 v ∧ ev1 F 60 c c' v v) ∧ ∃ w, b01 w ∧ ev1 F 60 t t' w w
def rlO (β : mm_Mem) (cd cd' : List Int) (i : Nat) : Prop := ∃ u c t w u' c' t' w' : List Int, cd = u ++ c ++ t ++ w ∧ cd' = u' ++ c' ++ t' ++ w' ∧ β 40 i = (u.length : Int) ∧ β 41 i = ((u ++ c).length : Int) ∧ β 42 i = ((u ++ c ++ t).length : Int) ∧ β 43 i = (u'.length : Int) ∧ β 44 i = ((u' ++ c').length : Int) ∧ β 45 i = ((u' ++ c' ++ t').length : Int) ∧ rvO c c' t t'
def siH (β : mm_Mem) : Prop := (2 ≤ β 0 3 ∧ β 0 3 ≤ 6 ∧ 2 ≤ β 0 4 ∧ β 0 4 ≤ 5 ∧ 0 ≤ β 0 5 ∧ β 0 5 ≤ 3 ∧ 0 ≤ β 0 6 ∧ β 0 6 ≤ 4 ∧ 0 ≤ β 0 7 ∧ β 0 7 ≤ 4) ∧ (0 ≤ β 0 8 ∧ β 0 8 ≤ 6 ∧ 0 ≤ β 0 9 ∧ β 0 9 ≤ 6 ∧ 0 ≤ β 0 10 ∧ β 0 10 ≤ 4) ∧ 0 ≤ β 0 11 ∧ β 0 11 ≤ 9999 ∧ 0 ≤ β 0 12 ∧ β 0 12 ≤ 9999
def siP (β : mm_Mem) : Prop := ∀ p : Nat, (p : Int) < β 0 7 → 0 ≤ β 8 p ∧ β 8 p < β 0 6 ∧ 0 ≤ β 9 p ∧ β 9 p < β 0 5 ∧ 0 ≤ β 10 p ∧ β 10 p ≤ 100 ∧ 0 ≤ β 11 p ∧ β 11 p ≤ 100
def siC (β : mm_Mem) : Prop := ∀ i, β 12 i = 0 ∧ β 13 i = 0 ∧ β 14 i = 0 ∧ β 15 i = 0 ∧ β 16 i = -1 ∧ β 17 i = 0 ∧ β 18 i = -1 ∧ β 19 i = 0 ∧ β 20 i = 0
def siT (β : mm_Mem) : Prop := ∀ t : Nat, (t : Int) < β 0 5 → (∀ i : Nat, (i : Int) < β 0 4 → 0 ≤ β 30 (5 * t + i) ∧ β 30 (5 * t + i) < β 0 3) ∧ 0 ≤ β 31 t ∧ β 31 t ≤ 99
def siR (β : mm_Mem) (cd cd' : List Int) : Prop := ∀ k j : Nat, k < 3 → (j : Int) < β 0 (8 + k) → rlO β cd cd' (6 * k + j)
def SIn (n a : Nat) (β : mm_Mem) (cd cd' : List Int) : Prop := a ≤ n ∧ cd.length ≤ a ∧ cd'.length ≤ a ∧ siH β ∧ wfNm β ∧ wfD β ∧ siP β ∧ siC β ∧ siT β ∧ siR β cd cd'
/-- a fault is one, or the rest holds -/
def spP (n : Nat) (x : PzT) (G : Nat → mm_Mem → List Int → List Int → Prop) : Prop := match x with
  | .inl z => 1 ≤ z.1 ∧ z.1 ≤ 5 ∧ z.2 ≤ n
  | .inr (a, β, c, c') => G a β c c'
section Spec
variable {r : Nat → Int} {n : Nat} {G : Nat → mm_Mem → List Int → List Int → Prop}
theorem sp_f {k p : Nat} (hk : 1 ≤ k ∧ k ≤ 5) (hp : p ≤ n) : spP n (.inl (k, p)) G := ⟨hk.1, hk.2, hp⟩
theorem sp_nu {a : Nat} {lo hi : Int} {K : Nat → Int → PzT} (ha : a ≤ n) (hr : ∀ i, 0 ≤ r i ∧ r i ≤ 255) (h : tNb r n a = true → lo ≤ tV r n a → tV r n a ≤ hi → a < tN r n a → tN r n a ≤ n → spP n (K (tN r n a) (tV r n a)) G) : spP n (nuP r n a lo hi K) G := by
  unfold nuP
  have tp := tPl_n ha hr
  by_cases y : tNb r n a = true
  · rw [if_pos y]
    have t := tN_lt ha hr (by have := of_decide_eq_true y; omega)
    by_cases z : lo ≤ tV r n a ∧ tV r n a ≤ hi
    · rw [if_pos z]; exact h y z.1 z.2 t.1 t.2
    · rw [if_neg z]; exact sp_f (by omega) tp
  · rw [if_neg y]; exact sp_f (by omega) tp
theorem sp_wd {a i : Nat} {K : Nat → PzT} (ha : a ≤ n) (hr : ∀ i, 0 ≤ r i ∧ r i ≤ 255) (h : a < tN r n a → tN r n a ≤ n → spP n (K (tN r n a)) G) : spP n (wdP r n a i K) G := by
  unfold wdP
  by_cases y : tWb r n a i = true
  · rw [if_pos y]; have t := tW_n ha hr y; exact h t.1 t.2
  · rw [if_neg y]; exact sp_f (by omega) (tPl_n ha hr)
theorem sp_sg {a : Nat} {c : Int} {K : Nat → PzT} (ha : a ≤ n) (hr : ∀ i, 0 ≤ r i ∧ r i ≤ 255) (h : a < tN r n a → tN r n a ≤ n → spP n (K (tN r n a)) G) : spP n (sgP r n a c K) G := by
  unfold sgP
  by_cases y : tSb r n a c = true
  · rw [if_pos y]; have t := tS_n ha hr y; exact h t.1 t.2
  · rw [if_neg y]; exact sp_f (by omega) (tPl_n ha hr)
theorem nm_k {a : Nat} (ha : a ≤ n) (hr : ∀ i, 0 ≤ r i ∧ r i ≤ 255) (y : nmB r n a = true) : (tk r n a).1 = 4 ∧ nmW (tV r n a) ∧ a < tN r n a ∧ tN r n a ≤ n ∧ owI (nm5 (tV r n a)) = -1 := by
  have y := of_decide_eq_true y
  have t := tN_lt ha hr (by rw [y.1]; omega)
  exact ⟨y.1, (tk_r ha hr).2.2.2.2.2.2 y.1, t.1, t.2, y.2⟩
theorem sp_nn {a : Nat} {β : mm_Mem} {K : Nat → Int → PzT} (ha : a ≤ n) (hr : ∀ i, 0 ≤ r i ∧ r i ≤ 255) (h : nmW (tV r n a) → a < tN r n a → tN r n a ≤ n → spP n (K (tN r n a) (tV r n a)) G) : spP n (nnP r n a β K) G := by
  unfold nnP
  by_cases y : nmB r n a = true
  · rw [if_pos y]
    obtain ⟨-, t1, t2, t3, -⟩ := nm_k ha hr y
    by_cases z : tkA β (tV r n a) = true
    · rw [if_pos z]; exact sp_f (by omega) (tPl_n ha hr)
    · rw [if_neg z]; exact h t1 t2 t3
  · rw [if_neg y]; exact sp_f (by omega) (tPl_n ha hr)
theorem fnd_r {f : Nat → Int} {m v : Int} (h : fnd f m v ≠ -1) (hm : 0 ≤ m) : 0 ≤ fnd f m v ∧ fnd f m v < m := by
  have := fs_r (P := fun i => decide (f i = v)) m.toNat 0
  unfold fnd at h ⊢; omega
theorem sp_kn {a : Nat} {f : Nat → Int} {m : Int} {K : Nat → Int → PzT} (ha : a ≤ n) (hm : 0 ≤ m) (hr : ∀ i, 0 ≤ r i ∧ r i ≤ 255) (h : 0 ≤ fnd f m (tV r n a) → fnd f m (tV r n a) < m → a < tN r n a → tN r n a ≤ n → spP n (K (tN r n a) (fnd f m (tV r n a))) G) : spP n (knP r n a f m K) G := by
  unfold knP
  by_cases y : nmB r n a = true
  · rw [if_pos y]
    obtain ⟨-, t1, t2, t3, -⟩ := nm_k ha hr y
    by_cases z : fnd f m (tV r n a) = -1
    · rw [if_pos z]; exact sp_f (by omega) (tPl_n ha hr)
    · rw [if_neg z]; have := fnd_r z hm; exact h this.1 this.2 t2 t3
  · rw [if_neg y]; exact sp_f (by omega) (tPl_n ha hr)
theorem sp_ns {hi : Int} {t : Nat} {K : Nat → mm_Mem → PzT} (hr : ∀ i, 0 ≤ r i ∧ r i ≤ 255) : ∀ (c i a : Nat) (β : mm_Mem), a ≤ n → (∀ a2 β2, a ≤ a2 → a2 ≤ n → (∀ o, o ≠ 30 → β2 o = β o) → (∀ j, j < 5 * t + i ∨ 5 * t + i + c ≤ j → β2 30 j = β 30 j) → (∀ j, i ≤ j → j < i + c → 0 ≤ β2 30 (5 * t + j) ∧ β2 30 (5 * t + j) ≤ hi) → spP n (K a2 β2) G) → spP n (nsP r n hi t c i a β K) G
  | 0, i, a, β, ha, h => h a β (Nat.le_refl _) ha (fun _ _ => rfl) (fun _ _ => rfl) (fun j h1 h2 => by omega)
  | c + 1, i, a, β, ha, h => by
    refine sp_nu ha hr (fun _ l1 l2 t1 t2 => sp_ns hr c (i + 1) _ _ t2 (fun a2 β2 x1 x2 e1 e2 e3 => h a2 β2 (by omega) x2 (fun o ho => by rw [e1 o ho, wr_obj ho]) (fun j hj => by rw [e2 j (by omega), wr_row (by omega)]) (fun j h1 h2 => ?_)))
    by_cases q : j = i
    · subst q
      rw [e2 (5 * t + j) (Or.inl (by omega)), wr_same]; exact ⟨l1, l2⟩
    · exact e3 j (by omega) (by omega)
theorem wfNm.cg {β β' : mm_Mem} (h : wfNm β) (e0 : β' 0 5 = β 0 5 ∧ β' 0 6 = β 0 6 ∧ β' 0 7 = β 0 7) (e2 : β' 2 = β 2) (e3 : β' 3 = β 3) (e4 : β' 4 = β 4) : wfNm β' := by
  unfold wfNm; rw [e0.1, e0.2.1, e0.2.2, e2, e3, e4]; exact h
theorem rlO.cg {β β' : mm_Mem} {cd cd' : List Int} {i : Nat} (x x' : List Int) (h : rlO β cd cd' i) (e : ∀ o, 40 ≤ o → o ≤ 45 → β' o i = β o i) : rlO β' (cd ++ x) (cd' ++ x') i := by
  obtain ⟨u, c, t, w, u', c', t', w', h1, h2, h3⟩ := h
  refine ⟨u, c, t, w ++ x, u', c', t', w' ++ x', by rw [h1]; simp, by rw [h2]; simp, ?_⟩
  rw [e 40 (by omega) (by omega), e 41 (by omega) (by omega), e 42 (by omega) (by omega), e 43 (by omega) (by omega), e 44 (by omega) (by omega), e 45 (by omega) (by omega)]
  exact h3
theorem siR.cg {β β' : mm_Mem} {cd cd' : List Int} (h : siR β cd cd') (e0 : ∀ k, k < 3 → β' 0 (8 + k) = β 0 (8 + k)) (e : ∀ o, 40 ≤ o → o ≤ 45 → β' o = β o) : siR β' cd cd' := fun k j hk hj => by
  have := (h k j hk (by rw [← e0 k hk]; exact hj)).cg (β' := β') [] [] (fun o a b => by rw [e o a b])
  rw [List.append_nil, List.append_nil] at this; exact this
theorem si_tu {a : Nat} {β : mm_Mem} {cd cd' : List Int} (hr : ∀ i, 0 ≤ r i ∧ r i ≤ 255) (S : SIn n a β cd cd') (hw : tWb r n a 2 = true) : spP n (tuP r n a β cd cd') (fun a1 β1 c1 c1' => a < a1 ∧ SIn n a1 β1 c1 c1') := by
  obtain ⟨ha, hc, hc', sh, sn, sd, sp, sc, st, sr⟩ := S
  have t0 := tW_n ha hr hw
  obtain ⟨⟨b1, b2, b3, b4, b5, b6, b7, b8, b9, b10⟩, b11, b12⟩ := id sh
  unfold tuP
  by_cases q : 3 ≤ β 0 5
  · rw [if_pos q]; exact sp_f (by omega) (tPl_n ha hr)
  rw [if_neg q]
  refine sp_nn t0.2 hr (fun w1 t1 t2 => sp_ns hr _ _ _ _ t2 (fun a2 β2 x1 x2 e1 e2 e3 => sp_wd x2 hr (fun t3 t4 => sp_nu t4 hr (fun _ l1 l2 t5 t6 => ?_))))
  obtain ⟨t, et⟩ : ∃ t : Nat, β 0 5 = (t : Int) := ⟨(β 0 5).toNat, by omega⟩
  rw [et, Int.toNat_natCast] at e1 e2 e3 ⊢
  have f0 : β2 0 = β 0 := by rw [e1 0 (by omega), wr_obj (by omega)]
  have f : ∀ o, o ≠ 30 → o ≠ 2 → β2 o = β o := fun o h1 h2 => by rw [e1 o h1, wr_obj h2]
  have g : ∀ o, o ≠ 30 → o ≠ 2 → o ≠ 31 → o ≠ 0 → tuE β2 t (tV r n (tN r n a2)) o = β o := fun o h1 h2 h3 h4 => by unfold tuE; rw [wr_obj h4, wr_obj h3, f o h1 h2]
  have g0 : ∀ i, i ≠ 5 → tuE β2 t (tV r n (tN r n a2)) 0 i = β 0 i := fun i h => by unfold tuE; rw [wr_row h, wr_obj (by omega), f0]
  have g5 : tuE β2 t (tV r n (tN r n a2)) 0 5 = (t : Int) + 1 := by unfold tuE; exact wr_same
  have g2 : ∀ i, tuE β2 t (tV r n (tN r n a2)) 2 i = if i = t then tV r n (tN r n a) else β 2 i := fun i => by
    unfold tuE; rw [wr_obj (by omega), wr_obj (by omega), e1 2 (by omega)]
    by_cases h : i = t
    · subst h; rw [wr_same, if_pos rfl]
    · rw [wr_row h, if_neg h]
  have g30 : tuE β2 t (tV r n (tN r n a2)) 30 = β2 30 := by unfold tuE; rw [wr_obj (by omega), wr_obj (by omega)]
  have g31 : ∀ i, tuE β2 t (tV r n (tN r n a2)) 31 i = if i = t then tV r n (tN r n a2) else β 31 i := fun i => by
    unfold tuE; rw [wr_obj (by omega)]
    by_cases h : i = t
    · subst h; rw [wr_same, if_pos rfl]
    · rw [wr_row h, if_neg h, f 31 (by omega) (by omega)]
  refine ⟨by omega, t6, by omega, by omega, ?_, ⟨fun i hi => ?_, fun i hi => ?_, fun i hi => ?_⟩, fun d hd => ?_, fun p hp => ?_, fun i => ?_, fun i hi => ?_, sr.cg (fun k hk => g0 _ (by omega)) (fun o h1 h2 => g o (by omega) (by omega) (by omega) (by omega))⟩
  · unfold siH
    rw [g0 3 (by omega), g0 4 (by omega), g5, g0 6 (by omega), g0 7 (by omega), g0 8 (by omega), g0 9 (by omega), g0 10 (by omega), g0 11 (by omega), g0 12 (by omega)]
    exact ⟨⟨b1, b2, b3, b4, by omega, by omega, b7, b8, b9, b10⟩, b11, b12⟩
  · rw [g5] at hi
    rw [g2]
    by_cases h : i = t
    · rw [if_pos h]; exact w1
    · rw [if_neg h]; exact sn.1 i (by omega)
  · rw [g0 6 (by omega)] at hi; rw [g 3 (by omega) (by omega) (by omega) (by omega)]; exact sn.2.1 i hi
  · rw [g0 7 (by omega)] at hi; rw [g 4 (by omega) (by omega) (by omega) (by omega)]; exact sn.2.2 i hi
  · rw [g0 6 (by omega)] at hd
    rw [g 5 (by omega) (by omega) (by omega) (by omega), g 6 (by omega) (by omega) (by omega) (by omega), g 7 (by omega) (by omega) (by omega) (by omega)]; exact sd d hd
  · rw [g0 7 (by omega)] at hp
    rw [g 8 (by omega) (by omega) (by omega) (by omega), g 9 (by omega) (by omega) (by omega) (by omega), g 10 (by omega) (by omega) (by omega) (by omega), g 11 (by omega) (by omega) (by omega) (by omega), g0 6 (by omega), g5]
    obtain ⟨p1, p2, p3, p4, p5⟩ := sp p hp
    exact ⟨p1, p2, p3, by omega, p5⟩
  · rw [g 12 (by omega) (by omega) (by omega) (by omega), g 13 (by omega) (by omega) (by omega) (by omega), g 14 (by omega) (by omega) (by omega) (by omega), g 15 (by omega) (by omega) (by omega) (by omega), g 16 (by omega) (by omega) (by omega) (by omega), g 17 (by omega) (by omega) (by omega) (by omega), g 18 (by omega) (by omega) (by omega) (by omega), g 19 (by omega) (by omega) (by omega) (by omega), g 20 (by omega) (by omega) (by omega) (by omega)]
    exact sc i
  · rw [g5] at hi
    rw [g0 4 (by omega), g0 3 (by omega), g30, g31]
    by_cases h : i = t
    · subst h
      rw [if_pos rfl]
      refine ⟨fun j hj => ?_, l1, l2⟩
      have := e3 j (by omega) (by omega)
      omega
    · rw [if_neg h]
      obtain ⟨s1, s2, s3⟩ := st i (by omega)
      refine ⟨fun j hj => ?_, s2, s3⟩
      rw [e2 _ (Or.inl (by omega)), wr_obj (by omega)]; exact s1 j hj
theorem si_ru {a kd : Nat} {β : mm_Mem} {cd cd' : List Int} (hn : n ≤ 1600) (hr : ∀ i, 0 ≤ r i ∧ r i ≤ 255) (S : SIn n a β cd cd') (hk : kd < 3) (t0 : a < tN r n a ∧ tN r n a ≤ n) : spP n (ruP r n kd a β cd cd') (fun a1 β1 c1 c1' => a < a1 ∧ SIn n a1 β1 c1 c1') := by
  obtain ⟨ha, hc, hc', sh, sn, sd, sp, sc, st, sr⟩ := S
  obtain ⟨b1, ⟨b2, b3, b4, b5, b6, b7⟩, b12⟩ := id sh
  unfold ruP
  by_cases q : ruM kd ≤ β 0 (8 + kd)
  · rw [if_pos q]; exact sp_f (by omega) (tPl_n ha hr)
  rw [if_neg q]
  have k0 : 0 ≤ β 0 (8 + kd) ∧ β 0 (8 + kd) < 6 ∧ (kd = 2 → β 0 (8 + kd) < 4) := by
    have : kd = 0 ∨ kd = 1 ∨ kd = 2 := by omega
    rcases this with h | h | h <;> subst h <;> unfold ruM at q
    · rw [if_neg (by omega)] at q; exact ⟨b2, by omega, fun y => by omega⟩
    · rw [if_neg (by omega)] at q; exact ⟨b4, by omega, fun y => by omega⟩
    · rw [if_pos rfl] at q; exact ⟨b6, by omega, fun _ => by omega⟩
  have kq : ∀ (p b : Nat) (z : Nat × Nat), p ≤ 5 → b ≤ n → pz r n false 20000 p b 0 = .inl z → 1 ≤ z.1 ∧ z.1 ≤ 5 ∧ z.2 ≤ n := fun p b z h1 h2 h => by
    have := pz_k hr 20000 p b 0 z (by omega) h2 (by unfold guP; rw [if_pos h1]; omega) h
    unfold okZ at this; omega
  generalize e1 : pz r n false 20000 2 (tN r n a) 0 = X
  match X, e1 with
  | .inl z, e1 => exact kq 2 _ z (by omega) t0.2 e1
  | .inr (a2, c, c'), e1 =>
    obtain ⟨x1, x2, x3, x4, x5⟩ := pz_ln hr _ 2 _ _ a2 c c' (by omega) t0.2 e1
    rw [bq_r]
    refine sp_wd x1 hr (fun t1 t2 => ?_)
    generalize e2 : pz r n false 20000 5 (tN r n a2) 0 = Y
    match Y, e2 with
    | .inl z, e2 => exact kq 5 _ z (by omega) t2 e2
    | .inr (a4, u, u'), e2 =>
      obtain ⟨y1, y2, y3, y4, y5⟩ := pz_ln hr _ 5 _ _ a4 u u' (by omega) t2 e2
      rw [if_neg (by omega)] at x4 y4
      obtain ⟨j, ej⟩ : ∃ j : Nat, β 0 (8 + kd) = (j : Int) := ⟨(β 0 (8 + kd)).toNat, by omega⟩
      have rv : rvO c c' u u' := fun F hF => by
        obtain ⟨v, vb, ev⟩ := (pz_ev hF hr _ 2 _ _ a2 c c' (by omega) t0.2 (by omega) e1).1 (by omega)
        obtain ⟨w, wb, ew⟩ := (pz_ev hF hr _ 5 _ _ a4 u u' (by omega) t2 (by omega) e2).2.1 (by omega)
        exact ⟨⟨v, vb, ev.up (by decide)⟩, ⟨w, wb, ew.up (by decide)⟩⟩
      rw [bq_r]
      show a < a4 ∧ SIn n a4 (ruE β kd cd.length (cd ++ c).length (cd ++ c ++ u).length cd'.length (cd' ++ c').length (cd' ++ c' ++ u').length) (cd ++ c ++ u) (cd' ++ c' ++ u')
      have g : ∀ o, o ≠ 0 → o < 40 → ruE β kd cd.length (cd ++ c).length (cd ++ c ++ u).length cd'.length (cd' ++ c').length (cd' ++ c' ++ u').length o = β o := fun o h1 h2 => by
        unfold ruE; rw [wr_obj h1, wr_obj (by omega), wr_obj (by omega), wr_obj (by omega), wr_obj (by omega), wr_obj (by omega), wr_obj (by omega)]
      have g0 : ∀ i, i ≠ 8 + kd → ruE β kd cd.length (cd ++ c).length (cd ++ c ++ u).length cd'.length (cd' ++ c').length (cd' ++ c' ++ u').length 0 i = β 0 i := fun i h1 => by
        unfold ruE; rw [wr_row h1, wr_obj (by omega), wr_obj (by omega), wr_obj (by omega), wr_obj (by omega), wr_obj (by omega), wr_obj (by omega)]
      have g8 : ruE β kd cd.length (cd ++ c).length (cd ++ c ++ u).length cd'.length (cd' ++ c').length (cd' ++ c' ++ u').length 0 (8 + kd) = (j : Int) + 1 := by unfold ruE; rw [wr_same, ej]
      have gi : ∀ o i, i ≠ 6 * kd + j → 40 ≤ o → ruE β kd cd.length (cd ++ c).length (cd ++ c ++ u).length cd'.length (cd' ++ c').length (cd' ++ c' ++ u').length o i = β o i := fun o i h1 h2 => by
        unfold ruE
        rw [ej, Int.toNat_natCast, wr_obj (by omega)]
        simp [wr, h1]
      have gs : rlO (ruE β kd cd.length (cd ++ c).length (cd ++ c ++ u).length cd'.length (cd' ++ c').length (cd' ++ c' ++ u').length) (cd ++ c ++ u) (cd' ++ c' ++ u') (6 * kd + j) := by
        refine ⟨cd, c, u, [], cd', c', u', [], by simp, by simp, ?_, ?_, ?_, ?_, ?_, ?_, rv⟩ <;> (unfold ruE; rw [ej, Int.toNat_natCast, wr_obj (by omega)])
        · rw [wr_obj (by omega), wr_obj (by omega), wr_obj (by omega), wr_obj (by omega), wr_obj (by omega), wr_same]
        · rw [wr_obj (by omega), wr_obj (by omega), wr_obj (by omega), wr_obj (by omega), wr_same]
        · rw [wr_obj (by omega), wr_obj (by omega), wr_obj (by omega), wr_same]
        · rw [wr_obj (by omega), wr_obj (by omega), wr_same]
        · rw [wr_obj (by omega), wr_same]
        · rw [wr_same]
      have ap : ∀ {B : mm_Mem} {i : Nat}, rlO β cd cd' i → (∀ o, 40 ≤ o → o ≤ 45 → B o i = β o i) → rlO B (cd ++ c ++ u) (cd' ++ c' ++ u') i := fun h1 h2 => by
        have z := h1.cg (c ++ u) (c' ++ u') h2
        rw [← List.append_assoc, ← List.append_assoc] at z; exact z
      refine ⟨by omega, y1, ?_, ?_, ?_, sn.cg ⟨g0 5 (by omega), g0 6 (by omega), g0 7 (by omega)⟩ (g 2 (by omega) (by omega)) (g 3 (by omega) (by omega)) (g 4 (by omega) (by omega)), fun d hd => ?_, fun p hp => ?_, fun i => ?_, fun i hi => ?_, fun k i hk' hi => ?_⟩
      · rw [List.length_append, List.length_append]; omega
      · rw [List.length_append, List.length_append]; omega
      · unfold siH
        rw [g0 3 (by omega), g0 4 (by omega), g0 5 (by omega), g0 6 (by omega), g0 7 (by omega), g0 11 (by omega), g0 12 (by omega)]
        have e8 : ∀ k, k < 3 → ruE β kd cd.length (cd ++ c).length (cd ++ c ++ u).length cd'.length (cd' ++ c').length (cd' ++ c' ++ u').length 0 (8 + k) = if k = kd then (j : Int) + 1 else β 0 (8 + k) := fun k _ => by
          by_cases h : k = kd
          · subst h; rw [g8, if_pos rfl]
          · rw [g0 _ (by omega), if_neg h]
        have h8 := e8 0 (by omega)
        have h9 := e8 1 (by omega)
        have h10 := e8 2 (by omega)
        refine ⟨b1, ?_, b12⟩
        rw [show (8 : Nat) = 8 + 0 from rfl, show (9 : Nat) = 8 + 1 from rfl, show (10 : Nat) = 8 + 2 from rfl, h8, h9, h10]
        refine ⟨?_, ?_, ?_, ?_, ?_, ?_⟩ <;> split <;> omega
      · rw [g0 6 (by omega)] at hd
        rw [g 5 (by omega) (by omega), g 6 (by omega) (by omega), g 7 (by omega) (by omega)]; exact sd d hd
      · rw [g0 7 (by omega)] at hp
        rw [g 8 (by omega) (by omega), g 9 (by omega) (by omega), g 10 (by omega) (by omega), g 11 (by omega) (by omega), g0 6 (by omega), g0 5 (by omega)]; exact sp p hp
      · rw [g 12 (by omega) (by omega), g 13 (by omega) (by omega), g 14 (by omega) (by omega), g 15 (by omega) (by omega), g 16 (by omega) (by omega), g 17 (by omega) (by omega), g 18 (by omega) (by omega), g 19 (by omega) (by omega), g 20 (by omega) (by omega)]; exact sc i
      · rw [g0 5 (by omega)] at hi
        rw [g0 4 (by omega), g0 3 (by omega), g 30 (by omega) (by omega), g 31 (by omega) (by omega)]; exact st i hi
      · by_cases h : k = kd
        · subst h
          rw [g8] at hi
          by_cases h2 : i = j
          · subst h2; exact gs
          · exact ap (sr k i hk' (by omega)) (fun o h3 h4 => gi o _ (by omega) h3)
        · rw [g0 _ (by omega)] at hi
          have i6 : i < 6 := by
            have : k = 0 ∨ k = 1 ∨ k = 2 := by omega
            rcases this with h | h | h <;> subst h
            · have hi : (i : Int) < β 0 8 := hi; omega
            · have hi : (i : Int) < β 0 9 := hi; omega
            · have hi : (i : Int) < β 0 10 := hi; omega
          exact ap (sr k i hk' hi) (fun o h3 h4 => gi o _ (by omega) h3)
end Spec
