/-! the reference reads sums and tests: its small steps -/
def opS (x : Int) : Int := if x = -7 then 22 else 2 - x
def rkP (x : Int) : Int := if x = -19 then 1 else if x = -18 then 2 else if x = -7 then 3 else if x ≤ -15 then 4 else if x = -8 ∨ x = -9 then 5 else 6
/-- a step that is held back: an operation of two, or not -/
def isO (x : Int) : Prop := -19 ≤ x ∧ x ≤ -7
def cdM (x s v : Int) : Prop := (0 ≤ x ∧ s = 0 ∧ v = x) ∨ (x = 1 ∧ s = 9) ∨ (-6 ≤ x ∧ x ≤ -1 ∧ s = -x) ∨ (isO x ∧ s = opS x)
def CodeM (zz : Nat) (em : List Int) (τ : mm_Mem) : Prop := ∀ i, i < em.length → cdM (em.getD i 0) (τ 165 (zz + i)) (τ 166 (zz + i))
/-- what stands between token and code -/
def PM (r : Nat → Int) (n bi D : Nat) (K ph bg B : Int) (a : Nat) (od : Int) (τ : mm_Mem) : Prop := txM r n τ ∧ TokM r n a τ ∧ τ 140 8 = 0 ∧ wdM τ ∧ τ 140 39 = (bi : Int) ∧ τ 140 45 = (D : Int) + 1 ∧ τ 140 46 = (D : Int) ∧ τ 167 D = K ∧ τ 168 D = ph ∧ τ 169 D = bg ∧ τ 171 D = B ∧ τ 140 49 = od
/-- the operations held back, the last one first -/
def opsA (m0 : Nat) : List Int → mm_Mem → Prop
  | [], _ => True
  | x :: rp, τ => τ 172 (m0 + rp.length) = opS x ∧ opsA m0 rp τ
/-- what was read since there were m0 operations held back and zz codes: c, of which the last operations are held back -/
def PSt (bi : Nat) (ρ : Int) (m0 zz : Nat) (c : List Int) (τ : mm_Mem) : Prop := ∃ em rp : List Int, c = em ++ rp ∧ (∀ x, x ∈ rp → ρ ≤ rkP x ∧ isO x) ∧ τ 140 48 = ((m0 + rp.length : Nat) : Int) ∧ opsA m0 rp τ ∧ 1600 * (bi : Int) + τ 140 38 = ((zz + em.length : Nat) : Int) ∧ CodeM zz em τ
def frX (τ τ' : mm_Mem) : Prop := (∀ o, (o < 140 ∨ (140 < o ∧ o < 165) ∨ 172 < o) → τ' o = τ o) ∧ ∀ i, (i < 3 ∨ (9 < i ∧ i ≠ 38 ∧ i < 45) ∨ 49 < i) → τ' 140 i = τ 140 i
theorem frX.rf {τ : mm_Mem} : frX τ τ := ⟨fun _ _ => rfl, fun _ _ => rfl⟩
theorem frX.tr {a b c : mm_Mem} (h : frX a b) (h' : frX b c) : frX a c := ⟨fun o x => (h'.1 o x).trans (h.1 o x), fun i x => (h'.2 i x).trans (h.2 i x)⟩
theorem frA.x {a b : mm_Mem} (h : frA a b) : frX a b := ⟨fun o x => h.1 o (by omega), fun i x => h.2 i (by omega)⟩
theorem frX.w0 {a b : mm_Mem} {i : Nat} {v : Int} (h : frX a b) (hi : i = 38 ∨ (45 ≤ i ∧ i ≤ 49)) : frX a (wr b 140 i v) := ⟨fun o x => (wr_obj (by omega)).trans (h.1 o x), fun j x => (wr_row (by omega)).trans (h.2 j x)⟩
theorem frX.w1 {a b : mm_Mem} {o i : Nat} {v : Int} (h : frX a b) (ho : 165 ≤ o ∧ o ≤ 172) : frX a (wr b o i v) := ⟨fun o' x => (wr_obj (by omega)).trans (h.1 o' x), fun j x => by rw [wr_obj (by omega)]; exact h.2 j x⟩
/-- in frame D, with m0 operations held back and zz codes below -/
def frQ (D m0 zz : Nat) (τ τ' : mm_Mem) : Prop := frX τ τ' ∧ (∀ i, i < D → τ' 168 i = τ 168 i ∧ τ' 169 i = τ 169 i) ∧ (∀ i, i ≤ D → τ' 167 i = τ 167 i ∧ τ' 170 i = τ 170 i ∧ τ' 171 i = τ 171 i) ∧ (∀ i, i < m0 → τ' 172 i = τ 172 i) ∧ ∀ i, i < zz → τ' 165 i = τ 165 i ∧ τ' 166 i = τ 166 i
theorem frQ.rf {D m0 zz : Nat} {τ : mm_Mem} : frQ D m0 zz τ τ := ⟨frX.rf, fun _ _ => ⟨rfl, rfl⟩, fun _ _ => ⟨rfl, rfl, rfl⟩, fun _ _ => rfl, fun _ _ => ⟨rfl, rfl⟩⟩
theorem frQ.tr {D m0 zz m1 z1 : Nat} {a b c : mm_Mem} (hm : m0 ≤ m1) (hz : zz ≤ z1) (h : frQ D m0 zz a b) (h' : frQ D m1 z1 b c) : frQ D m0 zz a c := by
  obtain ⟨a1, a2, a3, a4, a5⟩ := h
  obtain ⟨b1, b2, b3, b4, b5⟩ := h'
  refine ⟨a1.tr b1, fun i hi => ?_, fun i hi => ?_, fun i hi => ?_, fun i hi => ?_⟩
  · rw [(b2 i hi).1, (b2 i hi).2]; exact a2 i hi
  · rw [(b3 i hi).1, (b3 i hi).2.1, (b3 i hi).2.2]; exact a3 i hi
  · rw [b4 i (by omega)]; exact a4 i hi
  · rw [(b5 i (by omega)).1, (b5 i (by omega)).2]; exact a5 i hi
theorem frA.q {D m0 zz : Nat} {a b : mm_Mem} (h : frA a b) : frQ D m0 zz a b := ⟨h.x, fun i _ => ⟨by rw [h.1 168 (by omega)], by rw [h.1 169 (by omega)]⟩, fun i _ => ⟨by rw [h.1 167 (by omega)], by rw [h.1 170 (by omega)], by rw [h.1 171 (by omega)]⟩, fun i _ => by rw [h.1 172 (by omega)], fun i _ => ⟨by rw [h.1 165 (by omega)], by rw [h.1 166 (by omega)]⟩⟩
section MPrim
variable {E : mm_Env} {d : Nat} {τ : mm_Mem} {Q : mm_Q0} {r : Nat → Int} {n bi D a m0 zz : Nat} {K ph bg B od : Int}
theorem rf_s {k : Nat} (hk : k ≤ 4) : (rfK k = 3 ↔ k = 2) ∧ (rfK k = 1 ↔ k = 4) ∧ (rfK k = 2 ↔ k = 3) ∧ (rfK k = 0 ↔ k = 0 ∨ k = 1) := by
  unfold rfK
  have : k = 0 ∨ k = 1 ∨ k = 2 ∨ k = 3 ∨ k = 4 := by omega
  rcases this with h | h | h | h | h <;> subst h <;> decide
theorem m_isSign {c : Int} (ha : a ≤ n) (hr : ∀ i, 0 ≤ r i ∧ r i ≤ 255) (hc : inR c) (T : TokM r n a τ) (k1 : Q (some (vB (tSb r n a c))) τ) : M0 E d qX11_isSign [vR 140, vI c] τ Q := by
  have tr := tk_r (r := r) (n := n) ha hr
  obtain ⟨t3, t4, t5, t6, t7⟩ := T
  unfold tSb at k1
  refine mX11_isSign ?_
  rw [t3]
  refine ⟨fun q => ?_, fun q => ⟨hc, ?_⟩⟩
  · rw [decide_eq_false (fun z => q ((rf_s tr.2.1).1.mpr z.1))] at k1; exact k1
  · have k2 := (rf_s tr.2.1).1.mp q
    rw [t6 (Or.inl k2)]
    refine ⟨fun q2 => ?_, fun q2 => ?_⟩
    · rw [decide_eq_false (fun z => q2 z.2)] at k1; exact k1
    · rw [decide_eq_true ⟨k2, q2⟩] at k1; exact k1
theorem nmW_r {v : Int} (h : nmW v) : 0 ≤ v ∧ v < 281474976710656 := by
  obtain ⟨n, f, ⟨⟨n1, n6⟩, hf⟩, rfl⟩ := h
  have a := pkN_lt (f := f) (m := 256) (by omega) n (fun i hi => by have := hf i hi; omega)
  have b : (256 : Nat) ^ n ≤ 256 ^ 6 := Nat.pow_le_pow_right (by omega) n6
  omega
theorem ow_inL : ∀ i, i < 29 → 0 ≤ owW.getD i 0 ∧ owW.getD i 0 < 281474976710656 := by decide +kernel
theorem m_isWord {i : Nat} {x : Int} (ha : a ≤ n) (hr : ∀ i, 0 ≤ r i ∧ r i ≤ 255) (hi : i < 29) (hx : x = owW.getD i 0) (W : wdM τ) (T : TokM r n a τ) (k1 : Q (some (vB (tWb r n a i))) τ) : M0 E d qX11_isWord [vR 140, vL x] τ Q := by
  have tr := tk_r (r := r) (n := n) ha hr
  obtain ⟨t3, t4, t5, t6, t7⟩ := T
  have ol := ow_inL i hi
  unfold tWb at k1
  refine mX11_isWord ?_
  rw [t3]
  refine ⟨fun q => ?_, fun q => ?_⟩
  · rw [decide_eq_false (fun z => q ((rf_s tr.2.1).2.1.mpr z.1))] at k1; exact k1
  · have k2 := (rf_s tr.2.1).2.1.mp q
    have wr7 := nmW_r (tr.2.2.2.2.2.2 k2)
    rw [(t7 k2).1, hx]
    refine ⟨⟨by omega, by omega⟩, ⟨by omega, by omega⟩, fun q2 => ?_, fun q2 => ?_⟩
    · rw [decide_eq_false (fun z => q2 z.2)] at k1; exact k1
    · rw [decide_eq_true ⟨k2, q2⟩] at k1; exact k1
theorem m_rank {x : Int} (hx : isO x) (k1 : Q (some (vI (rkP x))) τ) : M0 E d qX11_rank [vI (opS x)] τ Q := by
  obtain ⟨h1, h2⟩ := hx
  have : x = -19 ∨ x = -18 ∨ x = -17 ∨ x = -16 ∨ x = -15 ∨ x = -14 ∨ x = -13 ∨ x = -12 ∨ x = -11 ∨ x = -10 ∨ x = -9 ∨ x = -8 ∨ x = -7 := by omega
  refine mX11_rank ?_
  rcases this with h | h | h | h | h | h | h | h | h | h | h | h | h <;> subst h
  · exact ⟨by decide, fun q => absurd (by decide) q, fun _ => k1⟩
  · exact ⟨by decide, fun _ => ⟨fun q => absurd (by decide) q, fun _ => k1⟩, fun q => absurd q (by decide)⟩
  · exact ⟨by decide, fun _ => ⟨fun _ => ⟨fun _ => ⟨fun q => absurd q (by decide), fun _ => ⟨fun q => absurd q (by decide), fun _ => ⟨fun q => absurd (by decide) q, fun _ => k1⟩⟩⟩, fun q => absurd q (by decide)⟩, fun q => absurd q (by decide)⟩, fun q => absurd q (by decide)⟩
  · exact ⟨by decide, fun _ => ⟨fun _ => ⟨fun _ => ⟨fun q => absurd q (by decide), fun _ => ⟨fun _ => k1, fun q => absurd (by decide) q⟩⟩, fun q => absurd q (by decide)⟩, fun q => absurd q (by decide)⟩, fun q => absurd q (by decide)⟩
  · exact ⟨by decide, fun _ => ⟨fun _ => ⟨fun _ => ⟨fun _ => k1, fun q => absurd (by decide) q⟩, fun q => absurd q (by decide)⟩, fun q => absurd q (by decide)⟩, fun q => absurd q (by decide)⟩
  all_goals first
    | exact ⟨by decide, fun _ => ⟨fun _ => ⟨fun _ => ⟨fun q => absurd q (by decide), fun _ => ⟨fun q => absurd q (by decide), fun _ => ⟨fun _ => ⟨fun q => absurd q (by decide), fun _ => ⟨fun _ => k1, fun q => absurd q (by decide)⟩⟩, fun q => absurd q (by decide)⟩⟩⟩, fun q => absurd q (by decide)⟩, fun q => absurd q (by decide)⟩, fun q => absurd q (by decide)⟩
    | exact ⟨by decide, fun _ => ⟨fun _ => ⟨fun _ => ⟨fun q => absurd q (by decide), fun _ => ⟨fun q => absurd q (by decide), fun _ => ⟨fun _ => ⟨fun q => absurd q (by decide), fun _ => ⟨fun q => absurd (by decide) q, fun _ => k1⟩⟩, fun q => absurd q (by decide)⟩⟩⟩, fun q => absurd q (by decide)⟩, fun q => absurd q (by decide)⟩, fun q => absurd q (by decide)⟩
    | exact ⟨by decide, fun _ => ⟨fun _ => ⟨fun _ => ⟨fun q => absurd q (by decide), fun _ => ⟨fun q => absurd q (by decide), fun _ => ⟨fun _ => ⟨fun _ => k1, fun q => absurd (by decide) q⟩, fun q => absurd q (by decide)⟩⟩⟩, fun q => absurd q (by decide)⟩, fun q => absurd q (by decide)⟩, fun q => absurd q (by decide)⟩
    | exact ⟨by decide, fun _ => ⟨fun _ => ⟨fun q => absurd (by decide) q, fun _ => k1⟩, fun q => absurd q (by decide)⟩, fun q => absurd q (by decide)⟩
theorem m_isTest {x : Int} (hx : inR x) (k1 : Q (some (vB (decide (x = 1 ∨ x = 5)))) τ) : M0 E d qX11_isTest [vI x] τ Q := by
  refine mX11_isTest ⟨hx, fun q => ?_, fun q => ⟨fun q2 => ?_, fun q2 => ?_⟩⟩
  · rw [decide_eq_true (Or.inl q)] at k1; exact k1
  · rw [decide_eq_false (by omega)] at k1; exact k1
  · rw [decide_eq_true (Or.inr q2)] at k1; exact k1
theorem m_add {s v : Int} {z : Nat} (hb : bi < 2) (h39 : τ 140 39 = (bi : Int)) (h38 : 1600 * (bi : Int) + τ 140 38 = (z : Int)) (hz : z < 1600 * bi + 1600) (h0 : 0 ≤ τ 140 38) (hs : inR s) (hv : inR v) (k1 : Q none (wr (wr (wr τ 165 z s) 166 z v) 140 38 (τ 140 38 + 1))) : M0 E d qX11_add [vR 140, vI s, vI v] τ Q := by
  refine mX11_add ?_
  rw [h39, h38, Int.toNat_natCast]
  exact ⟨by omega, by omega, hs, by omega, by omega, hv, ⟨by omega, by omega⟩, k1⟩
theorem opsA.fr {rp : List Int} {τ' : mm_Mem} (e : ∀ i, m0 ≤ i → i < m0 + rp.length → τ' 172 i = τ 172 i) (h : opsA m0 rp τ) : opsA m0 rp τ' := by
  induction rp with
  | nil => exact trivial
  | cons x rp ih =>
    refine ⟨?_, ih (fun i h1 h2 => e i h1 (by rw [List.length_cons]; omega)) h.2⟩
    rw [e _ (by omega) (by rw [List.length_cons]; omega)]; exact h.1
theorem opsA.app {rp : List Int} {x : Int} (h : opsA (m0 + 1) rp τ) (hx : τ 172 m0 = opS x) : opsA m0 (rp ++ [x]) τ := by
  induction rp with
  | nil => exact ⟨hx, trivial⟩
  | cons y rp ih =>
    refine ⟨?_, ih h.2⟩
    show τ 172 (m0 + (rp ++ [x]).length) = opS y
    rw [List.length_append, show m0 + (rp.length + [x].length) = m0 + 1 + rp.length by show m0 + (rp.length + 1) = _; omega]
    exact h.1
theorem CodeM.fr {em : List Int} {τ' : mm_Mem} (h : CodeM zz em τ) (e : ∀ i, zz ≤ i → i < zz + em.length → τ' 165 i = τ 165 i ∧ τ' 166 i = τ 166 i) : CodeM zz em τ' := fun i hi => by
  rw [(e _ (by omega) (by omega)).1, (e _ (by omega) (by omega)).2]; exact h i hi
theorem CodeM.app {em em' : List Int} (h : CodeM zz em τ) (h' : CodeM (zz + em.length) em' τ) : CodeM zz (em ++ em') τ := fun i hi => by
  rw [List.length_append] at hi
  by_cases q : i < em.length
  · rw [List.getD_eq_getElem?_getD, List.getElem?_append_left q, ← List.getD_eq_getElem?_getD]; exact h i q
  · have := h' (i - em.length) (by omega)
    rw [show zz + em.length + (i - em.length) = zz + i by omega] at this
    rw [List.getD_eq_getElem?_getD, List.getElem?_append_right (by omega), ← List.getD_eq_getElem?_getD]; exact this
theorem CodeM.one {x : Int} (h : cdM x (τ 165 zz) (τ 166 zz)) : CodeM zz [x] τ := fun i hi => by
  have : i = 0 := by have : i < 1 := hi; omega
  subst this; exact h
def frJ (zz : Nat) (τ τ' : mm_Mem) : Prop := (∀ o, o ≠ 140 → o ≠ 165 → o ≠ 166 → τ' o = τ o) ∧ (∀ i, i ≠ 38 → i ≠ 48 → τ' 140 i = τ 140 i) ∧ ∀ i, i < zz → τ' 165 i = τ 165 i ∧ τ' 166 i = τ 166 i
theorem frJ.rf : frJ zz τ τ := ⟨fun _ _ _ _ => rfl, fun _ _ _ => rfl, fun _ _ => ⟨rfl, rfl⟩⟩
theorem frJ.q {τ' : mm_Mem} (h : frJ zz τ τ') : frQ D m0 zz τ τ' := ⟨⟨fun o x => h.1 o (by omega) (by omega) (by omega), fun i x => h.2.1 i (by omega) (by omega)⟩, fun i _ => ⟨by rw [h.1 168 (by omega) (by omega) (by omega)], by rw [h.1 169 (by omega) (by omega) (by omega)]⟩, fun i _ => ⟨by rw [h.1 167 (by omega) (by omega) (by omega)], by rw [h.1 170 (by omega) (by omega) (by omega)], by rw [h.1 171 (by omega) (by omega) (by omega)]⟩, fun i _ => by rw [h.1 172 (by omega) (by omega) (by omega)], h.2.2⟩
/-- what is below may stay -/
def belP (ρ : Int) (B : Int) (m0 : Nat) (τ : mm_Mem) : Prop := B = (m0 : Int) ∨ (0 < m0 ∧ ∃ x, isO x ∧ rkP x < ρ ∧ τ 172 (m0 - 1) = opS x)
theorem m_joinsL {ρ : Int} (hb : bi < 2) (hD : D < 20) (hρ : inR ρ) (hz0 : 1600 * bi ≤ zz) (hB : B ≤ (m0 : Int)) : ∀ (rp em : List Int) (τ : mm_Mem), zz + em.length + rp.length ≤ 1600 * bi + 1600 → m0 + rp.length ≤ 500 → τ 140 39 = (bi : Int) → τ 140 45 = (D : Int) + 1 → τ 171 D = B → belP ρ B m0 τ → (∀ x, x ∈ rp → ρ ≤ rkP x ∧ isO x) → τ 140 48 = ((m0 + rp.length : Nat) : Int) → opsA m0 rp τ → 1600 * (bi : Int) + τ 140 38 = ((zz + em.length : Nat) : Int) → CodeM zz em τ → (∀ τ', τ' 140 48 = (m0 : Int) → 1600 * (bi : Int) + τ' 140 38 = ((zz + (em ++ rp).length : Nat) : Int) → CodeM zz (em ++ rp) τ' → frJ zz τ τ' → Q none τ') → V0 E (d + 1) qX11_joins 0 [some (vR 140), some (vI ρ)] [] τ Q
  | [], em, τ, hl, hm, h39, h45, h171, bl, hx, h48, ho, h38, C, k1 => by
    rw [List.append_nil] at k1
    have fin := k1 τ (by rw [h48]; rfl) h38 C frJ.rf
    refine bX11_joins_0 ?_
    rw [h45, show (D : Int) + 1 - 1 = (D : Int) by omega, Int.toNat_natCast, h171, h48]
    refine ⟨by omega, by omega, fun _ => fin, fun q => ?_⟩
    rcases bl with bl | ⟨b0, x, xo, xr, xe⟩
    · exact absurd (show ((m0 + ([] : List Int).length : Nat) : Int) ≤ B by rw [bl]; exact Int.le_refl _) q
    · have e1 : (((m0 + ([] : List Int).length : Nat) : Int) - 1).toNat = m0 - 1 := by show (((m0 : Nat) : Int) - 1).toNat = m0 - 1; omega
      rw [e1, xe]
      have rr : 1 ≤ rkP x ∧ rkP x ≤ 6 := by unfold rkP; repeat (first | omega | split)
      exact ⟨by show 0 ≤ ((m0 : Nat) : Int) - 1; omega, by show ((m0 : Nat) : Int) - 1 < 500; have : m0 + 0 ≤ 500 := hm; omega, m_rank xo ⟨_, rfl, ⟨by omega, by omega⟩, hρ, fun _ => fin, fun y => by omega⟩⟩
  | x :: rp, em, τ, hl, hm, h39, h45, h171, bl, hx, h48, ho, h38, C, k1 => by
    have hl : zz + em.length + (rp.length + 1) ≤ 1600 * bi + 1600 := hl
    have hm : m0 + (rp.length + 1) ≤ 500 := hm
    have h48 : τ 140 48 = ((m0 + (rp.length + 1) : Nat) : Int) := h48
    obtain ⟨x1, x2⟩ := hx x List.mem_cons_self
    have rr : 1 ≤ rkP x ∧ rkP x ≤ 6 := by unfold rkP; repeat (first | omega | split)
    have ox : inR (opS x) := by unfold opS; split <;> exact ⟨by unfold isO at x2; omega, by unfold isO at x2; omega⟩
    refine bX11_joins_0 ?_
    rw [h45, show (D : Int) + 1 - 1 = (D : Int) by omega, Int.toNat_natCast, h171, h48, show (((m0 + (rp.length + 1) : Nat) : Int) - 1).toNat = m0 + rp.length by omega, ho.1]
    refine ⟨by omega, by omega, fun q => by omega, fun _ => ⟨by omega, by omega, m_rank x2 ⟨_, rfl, ⟨by omega, by omega⟩, hρ, fun y => by omega, fun _ => ?_⟩⟩⟩
    rw [h48, show (((m0 + (rp.length + 1) : Nat) : Int) - 1).toNat = m0 + rp.length by omega, ho.1]
    refine ⟨⟨by omega, by omega⟩, by omega, by omega, ?_⟩
    have w38 : wr τ 140 48 (((m0 + (rp.length + 1) : Nat) : Int) - 1) 140 38 = τ 140 38 := wr_row (by omega)
    refine m_add (z := zz + em.length) hb (by rw [wr_row (by omega)]; exact h39) (by rw [w38]; exact h38) (by omega) (by rw [w38]; omega) ox ⟨by omega, by omega⟩ ⟨rfl, ?_⟩
    rw [w38]
    have F : frJ zz τ (wr (wr (wr (wr τ 140 48 (((m0 + (rp.length + 1) : Nat) : Int) - 1)) 165 (zz + em.length) (opS x)) 166 (zz + em.length) 0) 140 38 (τ 140 38 + 1)) := by
      refine ⟨fun o a b c => by rw [wr_obj a, wr_obj c, wr_obj b, wr_obj a], fun i a b => by rw [wr_row a, wr_obj (by omega), wr_obj (by omega), wr_row b], fun i hi => ⟨?_, ?_⟩⟩
      · rw [wr_obj (by omega), wr_obj (by omega), wr_row (by omega), wr_obj (by omega)]
      · rw [wr_obj (by omega), wr_row (by omega), wr_obj (by omega), wr_obj (by omega)]
    have n5 : wr (wr (wr (wr τ 140 48 (((m0 + (rp.length + 1) : Nat) : Int) - 1)) 165 (zz + em.length) (opS x)) 166 (zz + em.length) 0) 140 38 (τ 140 38 + 1) 165 = wr τ 165 (zz + em.length) (opS x) 165 := by
      rw [wr_obj (by omega), wr_obj (by omega)]
      funext i
      by_cases q : i = zz + em.length
      · subst q; rw [wr_same, wr_same]
      · rw [wr_row q, wr_row q, wr_obj (by omega)]
    have n6 : ∀ i, i ≠ zz + em.length → wr (wr (wr (wr τ 140 48 (((m0 + (rp.length + 1) : Nat) : Int) - 1)) 165 (zz + em.length) (opS x)) 166 (zz + em.length) 0) 140 38 (τ 140 38 + 1) 166 i = τ 166 i := fun i hi => by
      rw [wr_obj (by omega), wr_row hi, wr_obj (by omega), wr_obj (by omega)]
    have n48 : wr (wr (wr (wr τ 140 48 (((m0 + (rp.length + 1) : Nat) : Int) - 1)) 165 (zz + em.length) (opS x)) 166 (zz + em.length) 0) 140 38 (τ 140 38 + 1) 140 48 = ((m0 + rp.length : Nat) : Int) := by
      rw [wr_row (by omega), wr_obj (by omega), wr_obj (by omega), wr_same]; omega
    have n38 : wr (wr (wr (wr τ 140 48 (((m0 + (rp.length + 1) : Nat) : Int) - 1)) 165 (zz + em.length) (opS x)) 166 (zz + em.length) 0) 140 38 (τ 140 38 + 1) 140 38 = τ 140 38 + 1 := wr_same
    generalize wr (wr (wr (wr τ 140 48 (((m0 + (rp.length + 1) : Nat) : Int) - 1)) 165 (zz + em.length) (opS x)) 166 (zz + em.length) 0) 140 38 (τ 140 38 + 1) = σ at F n5 n6 n48 n38
    have e172 : σ 172 = τ 172 := F.1 172 (by omega) (by omega) (by omega)
    have lc : (em ++ [x]).length = em.length + 1 := by rw [List.length_append]; rfl
    refine m_joinsL hb hD hρ hz0 hB rp (em ++ [x]) σ (by rw [lc]; omega) (by omega) (by rw [F.2.1 39 (by omega) (by omega)]; exact h39) (by rw [F.2.1 45 (by omega) (by omega)]; exact h45) (by rw [F.1 171 (by omega) (by omega) (by omega)]; exact h171) ?_ (fun y hy => hx y (List.mem_cons_of_mem _ hy)) n48 (ho.2.fr (fun i _ _ => by rw [e172])) (by rw [n38, lc]; omega) ?_ (fun τ' t1 t2 t3 t4 => k1 τ' t1 ?_ ?_ ?_)
    · rcases bl with bl | ⟨b0, y, yo, yr, ye⟩
      · exact Or.inl bl
      · exact Or.inr ⟨b0, y, yo, yr, by rw [e172]; exact ye⟩
    · refine (C.fr (fun i h1 h2 => ⟨?_, ?_⟩)).app (CodeM.one ?_)
      · rw [n5, wr_row (by omega)]
      · rw [n6 i (by omega)]
      · rw [n5, wr_same]; exact Or.inr (Or.inr (Or.inr ⟨x2, rfl⟩))
    · rw [List.append_assoc] at t2; exact t2
    · rw [List.append_assoc] at t3; exact t3
    · exact ⟨fun o a b c => (t4.1 o a b c).trans (F.1 o a b c), fun i a b => (t4.2.1 i a b).trans (F.2.1 i a b), fun i hi => ⟨(t4.2.2 i hi).1.trans (F.2.2 i hi).1, (t4.2.2 i hi).2.trans (F.2.2 i hi).2⟩⟩
theorem m_joins {ρ : Int} {c : List Int} (hb : bi < 2) (hD : D < 20) (hρ : inR ρ) (hz0 : 1600 * bi ≤ zz) (hB : B ≤ (m0 : Int)) (hl : zz + c.length ≤ 1600 * bi + 1600) (hm : m0 + c.length ≤ 500 ∨ τ 140 48 ≤ 500) (h39 : τ 140 39 = (bi : Int)) (h45 : τ 140 45 = (D : Int) + 1) (h171 : τ 171 D = B) (bl : belP ρ B m0 τ) (P : PSt bi ρ m0 zz c τ) (k1 : ∀ τ', τ' 140 48 = (m0 : Int) → 1600 * (bi : Int) + τ' 140 38 = ((zz + c.length : Nat) : Int) → CodeM zz c τ' → frJ zz τ τ' → Q none τ') : M0 E (d + 1) qX11_joins [vR 140, vI ρ] τ Q := by
  obtain ⟨em, rp, ec, hx, h48, ho, h38, C⟩ := P
  subst ec
  rw [List.length_append] at hl hm
  exact M0_of rfl (Nat.le_of_ble_eq_true rfl) [some (vR 140), some (vI ρ)] rfl (m_joinsL hb hD hρ hz0 hB rp em τ (by omega) (by omega) h39 h45 h171 bl hx h48 ho h38 C k1)
end MPrim
