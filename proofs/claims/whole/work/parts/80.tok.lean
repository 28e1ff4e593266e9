/-! the text as words, numbers and signs -/
def isLt (c : Int) : Bool := decide (97 ≤ c ∧ c ≤ 122)
def isDg (c : Int) : Bool := decide (48 ≤ c ∧ c ≤ 57)
def isAN (c : Int) : Bool := isLt c || isDg c
def skB (r : Nat → Int) : Nat → Nat → Nat
  | 0, a => a
  | c + 1, a => if r a = 32 ∨ r a = 10 then skB r c (a + 1) else a
def rnB (p : Int → Bool) (r : Nat → Int) : Nat → Nat → Nat
  | 0, a => a
  | c + 1, a => if p (r a) = true then rnB p r c (a + 1) else a
def byF (r : Nat → Int) (a : Nat) : Nat → Nat := fun i => (r (a + i)).toNat
def dvN (r : Nat → Int) (a : Nat) : Nat → Int
  | 0 => 0
  | i + 1 => 10 * dvN r a i + (r (a + i) - 48)
/-- what stands at a place that is no blank: kind, place, value, end -/
def tk1 (r : Nat → Int) (n p : Nat) : Nat × Nat × Int × Nat :=
  if n ≤ p then (0, p, 0, p)
  else if isAN (r p) = false then (2, p, r p, p + 1)
  else if 0 < p ∧ isAN (r (p - 1)) = true then (1, p, 0, p)
  else if isLt (r p) = true then (if p + 6 < rnB isLt r (n - p) p then (1, p + 6, 0, p) else (4, p, (pkN 256 (byF r p) (rnB isLt r (n - p) p - p) : Nat), rnB isLt r (n - p) p))
  else (if p + 4 < rnB isDg r (n - p) p then (1, p + 4, 0, p) else (3, p, dvN r p (rnB isDg r (n - p) p - p), rnB isDg r (n - p) p))
def tk (r : Nat → Int) (n a : Nat) : Nat × Nat × Int × Nat := tk1 r n (skB r (n - a) a)
def tkE (r : Nat → Int) (n : Nat) : Nat → Nat
  | 0 => 0
  | i + 1 => (tk r n (tkE r n i)).2.2.2
theorem skB_r (r : Nat → Int) : ∀ c a, a ≤ skB r c a ∧ skB r c a ≤ a + c
  | 0, a => ⟨Nat.le_refl _, Nat.le_refl _⟩
  | c + 1, a => by
    rw [skB]
    have := skB_r r c (a + 1)
    split <;> omega
theorem rnB_r (p : Int → Bool) (r : Nat → Int) : ∀ c a, a ≤ rnB p r c a ∧ rnB p r c a ≤ a + c
  | 0, a => ⟨Nat.le_refl _, Nat.le_refl _⟩
  | c + 1, a => by
    rw [rnB]
    have := rnB_r p r c (a + 1)
    split <;> omega
theorem rnB_in (p : Int → Bool) (r : Nat → Int) : ∀ c a i, a ≤ i → i < rnB p r c a → p (r i) = true
  | 0, a, i, h1, h2 => by rw [rnB] at h2; omega
  | c + 1, a, i, h1, h2 => by
    rw [rnB] at h2
    by_cases q : p (r a) = true
    · rw [if_pos q] at h2
      by_cases e : i = a
      · rw [e]; exact q
      · exact rnB_in p r c (a + 1) i (by omega) h2
    · rw [if_neg q] at h2; omega
theorem rnB_pos {p : Int → Bool} {r : Nat → Int} {c a : Nat} (hc : 0 < c) (h : p (r a) = true) : a < rnB p r c a := by
  obtain ⟨c', rfl⟩ : ∃ c', c = c' + 1 := ⟨c - 1, by omega⟩
  rw [rnB, if_pos h]
  have := (rnB_r p r c' (a + 1)).1
  omega
theorem isLt_t {c : Int} : isLt c = true ↔ 97 ≤ c ∧ c ≤ 122 := by unfold isLt; exact decide_eq_true_iff
theorem isDg_t {c : Int} : isDg c = true ↔ 48 ≤ c ∧ c ≤ 57 := by unfold isDg; exact decide_eq_true_iff
theorem isAN_t {c : Int} : isAN c = true ↔ isLt c = true ∨ isDg c = true := by unfold isAN; exact Bool.or_eq_true_iff
/-- what is known of a token -/
theorem tk1_r {r : Nat → Int} {n p : Nat} (hp : p ≤ n) (hr : ∀ i, 0 ≤ r i ∧ r i ≤ 255) : (p ≤ (tk1 r n p).2.1 ∧ (tk1 r n p).2.1 ≤ n) ∧ (tk1 r n p).1 ≤ 4 ∧ ((tk1 r n p).1 = 0 → p = n ∧ (tk1 r n p).2.1 = n) ∧ (2 ≤ (tk1 r n p).1 → (tk1 r n p).2.1 = p ∧ p < (tk1 r n p).2.2.2 ∧ (tk1 r n p).2.2.2 ≤ n) ∧ ((tk1 r n p).1 = 2 → 0 ≤ (tk1 r n p).2.2.1 ∧ (tk1 r n p).2.2.1 ≤ 255) ∧ ((tk1 r n p).1 = 3 → 0 ≤ (tk1 r n p).2.2.1 ∧ (tk1 r n p).2.2.1 ≤ 9999) ∧ ((tk1 r n p).1 = 4 → nmW (tk1 r n p).2.2.1) := by
  unfold tk1
  by_cases q1 : n ≤ p
  · rw [if_pos q1]; simp; omega
  rw [if_neg q1]
  by_cases q2 : isAN (r p) = false
  · rw [if_pos q2]; have := hr p; simp; omega
  rw [if_neg q2]
  by_cases q3 : 0 < p ∧ isAN (r (p - 1)) = true
  · rw [if_pos q3]; simp; omega
  rw [if_neg q3]
  have an : isAN (r p) = true := by simpa using q2
  by_cases q4 : isLt (r p) = true
  · rw [if_pos q4]
    have b := rnB_r isLt r (n - p) p
    have b0 := rnB_pos (p := isLt) (r := r) (c := n - p) (a := p) (by omega) q4
    have bi := rnB_in isLt r (n - p) p
    generalize rnB isLt r (n - p) p = e at b b0 bi
    by_cases q5 : p + 6 < e
    · rw [if_pos q5]; simp; omega
    · rw [if_neg q5]
      refine ⟨⟨Nat.le_refl _, by show p ≤ n; omega⟩, Nat.le_refl _, fun h => ?_, fun _ => ⟨rfl, b0, by show e ≤ n; omega⟩, fun h => ?_, fun h => ?_, fun _ => ?_⟩
      · exact absurd h (by show ¬ (4 : Nat) = 0; omega)
      · exact absurd h (by show ¬ (4 : Nat) = 2; omega)
      · exact absurd h (by show ¬ (4 : Nat) = 3; omega)
      · refine ⟨e - p, byF r p, ⟨⟨by omega, by omega⟩, fun i hi => ?_⟩, rfl⟩
        have := isLt_t.mp (bi (p + i) (by omega) (by omega))
        unfold byF; omega
  · rw [if_neg q4]
    have dg : isDg (r p) = true := by
      rcases isAN_t.mp an with h | h
      · exact absurd h q4
      · exact h
    have b := rnB_r isDg r (n - p) p
    have b0 := rnB_pos (p := isDg) (r := r) (c := n - p) (a := p) (by omega) dg
    have bi := rnB_in isDg r (n - p) p
    generalize rnB isDg r (n - p) p = e at b b0 bi
    by_cases q5 : p + 4 < e
    · rw [if_pos q5]; simp; omega
    · rw [if_neg q5]
      refine ⟨⟨Nat.le_refl _, by show p ≤ n; omega⟩, by show (3 : Nat) ≤ 4; omega, fun h => ?_, fun _ => ⟨rfl, b0, by show e ≤ n; omega⟩, fun h => ?_, fun _ => ?_, fun h => ?_⟩
      · exact absurd h (by show ¬ (3 : Nat) = 0; omega)
      · exact absurd h (by show ¬ (3 : Nat) = 2; omega)
      · show 0 ≤ dvN r p (e - p) ∧ dvN r p (e - p) ≤ 9999
        have st : ∀ k, k ≤ e - p → 0 ≤ dvN r p k ∧ dvN r p k + 1 ≤ 10 ^ k := by
          intro k
          induction k with
          | zero => intro _; exact ⟨Int.le_refl _, by show (0 : Int) + 1 ≤ 1; omega⟩
          | succ k ih =>
            intro hk
            have i1 := ih (by omega)
            have := isDg_t.mp (bi (p + k) (by omega) (by omega))
            rw [dvN, Int.pow_succ]
            generalize (10 : Int) ^ k = z at i1
            omega
        have s1 := st (e - p) (Nat.le_refl _)
        have : (10 : Int) ^ (e - p) ≤ 10 ^ 4 := by
          have h1 : (10 : Nat) ^ (e - p) ≤ 10 ^ 4 := Nat.pow_le_pow_right (by omega) (by omega)
          have h2 : ((10 ^ (e - p) : Nat) : Int) ≤ ((10 ^ 4 : Nat) : Int) := Int.ofNat_le.mpr h1
          rw [Int.natCast_pow, Int.natCast_pow] at h2
          exact h2
        generalize (10 : Int) ^ (e - p) = z at s1 this
        omega
      · exact absurd h (by show ¬ (3 : Nat) = 4; omega)
theorem tk_r {r : Nat → Int} {n a : Nat} (ha : a ≤ n) (hr : ∀ i, 0 ≤ r i ∧ r i ≤ 255) : (a ≤ (tk r n a).2.1 ∧ (tk r n a).2.1 ≤ n) ∧ (tk r n a).1 ≤ 4 ∧ ((tk r n a).1 = 0 → (tk r n a).2.1 = n) ∧ (2 ≤ (tk r n a).1 → (tk r n a).2.1 < (tk r n a).2.2.2 ∧ (tk r n a).2.2.2 ≤ n) ∧ ((tk r n a).1 = 2 → 0 ≤ (tk r n a).2.2.1 ∧ (tk r n a).2.2.1 ≤ 255) ∧ ((tk r n a).1 = 3 → 0 ≤ (tk r n a).2.2.1 ∧ (tk r n a).2.2.1 ≤ 9999) ∧ ((tk r n a).1 = 4 → nmW (tk r n a).2.2.1) := by
  have s := skB_r r (n - a) a
  obtain ⟨h1, h2, h3, h4, h5, h6, h7⟩ := tk1_r (r := r) (n := n) (p := skB r (n - a) a) (by omega) hr
  exact ⟨⟨by unfold tk; omega, by unfold tk; omega⟩, h2, fun q => (h3 q).2, fun q => ⟨by have := h4 q; unfold tk; omega, (h4 q).2.2⟩, h5, h6, h7⟩
/-- the own words, eight bits a letter -/
def owW : List Int := [474316301683, 1819242087, 1953853029, 1801807216, 482854658917, 1852798053, 1801810036, 1685024626, 126943972909940, 131294707347319, 1885432178, 7104880, 491328333172, 123581014175598, 465726301555, 1701999219, 512970880104, 2003330414, 28530, 6385252, 7237492, 6384748, 7566701, 439855772532, 1818325876, 7302244, 1751478885, 7170414, 7168376]
def owI (v : Int) : Int := fsA (fun i => decide (owL.getD i 0 = v)) 29 0
theorem ow_nm5 : ∀ i, i < 29 → nm5 (owW.getD i 0) = owL.getD i 0 := by decide +kernel
theorem ow_own : ∀ i, i < 29 → owI (owL.getD i 0) = (i : Int) := by decide +kernel
/-- one name's eight bits from its five -/
theorem nm5_inj {v v' : Int} (h : nmW v) (h' : nmW v') (e : nm5 v = nm5 v') : v = v' := by
  obtain ⟨n, f, hf, rfl⟩ := h
  obtain ⟨n', f', hf', rfl⟩ := h'
  rw [nm5_pk hf, nm5_pk hf'] at e
  have e1 : n5 f n = n5 f' n' := by omega
  have r1 := n5_r hf
  have r1' := n5_r hf'
  have z1 := pkN_nz (f := fun i => f i - 96) (m := 32) (by omega) (n := n) (c := n - 1) (by have := hf.1; omega) (by have := hf.2 0 (by have := hf.1; omega); show 1 ≤ f 0 - 96; omega) r1.2.1
  have z1' := pkN_nz (f := fun i => f' i - 96) (m := 32) (by omega) (n := n') (c := n' - 1) (by have := hf'.1; omega) (by have := hf'.2 0 (by have := hf'.1; omega); show 1 ≤ f' 0 - 96; omega) r1'.2.1
  have en : n = n' := by
    have a1 := hf.1
    have a2 := hf'.1
    by_cases q : n < n'
    · have p := pkN_0 (f := fun i => f i - 96) (m := 32) (by omega) (n := n) (c := n' - 1) (by omega) r1.2.1
      have : pkN 32 (fun i => f i - 96) n = pkN 32 (fun i => f' i - 96) n' := e1
      rw [← this, p] at z1'; omega
    · by_cases q2 : n' < n
      · have p := pkN_0 (f := fun i => f' i - 96) (m := 32) (by omega) (n := n') (c := n - 1) (by omega) r1'.2.1
        have : pkN 32 (fun i => f i - 96) n = pkN 32 (fun i => f' i - 96) n' := e1
        rw [this, p] at z1; omega
      · omega
  subst en
  have ei : ∀ i, i < n → f i = f' i := by
    intro i hi
    have a := pkN_at (f := fun i => f i - 96) (m := 32) (by omega) (n := n) (i := i) hi r1.2.1
    have a' := pkN_at (f := fun i => f' i - 96) (m := 32) (by omega) (n := n) (i := i) hi r1'.2.1
    have : pkN 32 (fun i => f i - 96) n = pkN 32 (fun i => f' i - 96) n := e1
    rw [this, a'] at a
    have b := hf.2 i hi
    have b' := hf'.2 i hi
    have a : f' i - 96 = f i - 96 := a
    omega
  have cg : ∀ k, k ≤ n → pkN 256 f k = pkN 256 f' k := by
    intro k
    induction k with
    | zero => intro _; rfl
    | succ k ih => intro hk; rw [pkN, pkN, ih (by omega), ei k (by omega)]
  rw [cg n (Nat.le_refl _)]
def nmCk (w : Int) : Bool := decide ((1 ≤ nmLn w ∧ nmLn w ≤ 6) ∧ (∀ i, i < nmLn w → 97 ≤ (w / 256 ^ (nmLn w - 1 - i) % 256).toNat ∧ (w / 256 ^ (nmLn w - 1 - i) % 256).toNat ≤ 122) ∧ w = (pkN 256 (fun i => (w / 256 ^ (nmLn w - 1 - i) % 256).toNat) (nmLn w) : Nat))
theorem nmCk_t {w : Int} (h : nmCk w = true) : nmW w := by
  obtain ⟨a, b, c⟩ := of_decide_eq_true h
  exact ⟨_, _, ⟨a, b⟩, c⟩
theorem ow_ck : ∀ i, i < 29 → nmCk (owW.getD i 0) = true := by decide +kernel
theorem ow_w {v : Int} (h : nmW v) {i : Nat} (hi : i < 29) : owI (nm5 v) = (i : Int) ↔ v = owW.getD i 0 := by
  constructor
  · intro e
    apply nm5_inj h (nmCk_t (ow_ck i hi))
    rw [ow_nm5 i hi]
    have fsok : ∀ (P : Nat → Bool) (c n : Nat) (i : Nat), fsA P c n = (i : Int) → P i = true := by
      intro P c
      induction c with
      | zero => intro n i q; rw [fsA] at q; omega
      | succ c ih =>
        intro n i q
        rw [fsA] at q
        by_cases z : P n = true
        · rw [if_pos z] at q
          have : n = i := by omega
          rw [← this]; exact z
        · rw [if_neg z] at q; exact ih _ _ q
    exact (of_decide_eq_true (fsok _ _ _ _ e)).symm
  · intro e
    rw [e, ow_nm5 i hi]; exact ow_own i hi
theorem ow_r (v : Int) : owI v = -1 ∨ (0 ≤ owI v ∧ owI v < 29) := by
  have := fs_r (P := fun i => decide (owL.getD i 0 = v)) 29 0
  unfold owI; omega
theorem ow_no {v : Int} (h : nmW v) : owI (nm5 v) = -1 ↔ ∀ i, i < 29 → v ≠ owW.getD i 0 := by
  constructor
  · intro e i hi q
    have := (ow_w h hi).mpr q
    omega
  · intro e
    rcases ow_r (nm5 v) with q | q
    · exact q
    · have := (ow_w h (i := (owI (nm5 v)).toNat) (by omega)).mp (by omega)
      exact absurd this (e _ (by omega))
def ckd (T : Nat × Nat × Int × Nat) : Int := if T.1 = 4 then (if owI (nm5 T.2.2.1) = -1 then 5 else 4) else (T.1 : Int)
def cvl (T : Nat × Nat × Int × Nat) : Int := if T.1 = 4 then (if owI (nm5 T.2.2.1) = -1 then nm5 T.2.2.1 else owI (nm5 T.2.2.1)) else T.2.2.1
