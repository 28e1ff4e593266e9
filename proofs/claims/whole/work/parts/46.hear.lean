/-! a door hears: the class -/
/-- the first whistle of from .. to, within what there is, at which P holds -/
def skA (P : Nat → Bool) (fr to : Int) : Int := fsA P ((min to 999) + 1 - max fr 0).toNat (max fr 0).toNat
theorem fsA_range (P : Nat → Bool) : ∀ (c n : Nat), fsA P c n = -1 ∨ ((n : Int) ≤ fsA P c n ∧ fsA P c n < n + c)
  | 0, n => Or.inl rfl
  | c + 1, n => by
    rw [fsA]
    split
    · right; omega
    · rcases fsA_range P c (n + 1) with h | h
      · exact Or.inl h
      · right; omega
theorem skA_range (P : Nat → Bool) (fr to : Int) : skA P fr to = -1 ∨ (0 ≤ skA P fr to ∧ fr ≤ skA P fr to ∧ skA P fr to ≤ to ∧ skA P fr to ≤ 999) := by
  unfold skA
  rcases fsA_range P ((min to 999) + 1 - max fr 0).toNat (max fr 0).toNat with h | h
  · exact Or.inl h
  · right; omega
/-- a whistle is heard, but for so many notes -/
def PuA (α : mm_Mem) (t : Nat) (f : Nat → Nat) (u : Int) : Nat → Bool := fun n => decide ((tp_df (wpA α t n) f : Int) ≤ u)
theorem tp_df_le (f g : Nat → Nat) : tp_df f g ≤ 5 := by
  have h : ∀ b, ze b ≤ 1 := fun b => by cases b <;> simp [ze]
  unfold tp_df
  have h0 := h (f 0 != g 0); have h1 := h (f 1 != g 1); have h2 := h (f 2 != g 2); have h3 := h (f 3 != g 3); have h4 := h (f 4 != g 4)
  omega
theorem tp_df_0 {f g : Nat → Nat} (hf : tp_ok f) (hg : tp_ok g) : tp_df f g = 0 ↔ tp f = tp g := by
  constructor
  · intro h
    unfold tp_df at h
    have z : ∀ a b : Nat, ze (a != b) = 0 → a = b := fun a b q => by
      unfold ze at q
      by_cases e : a = b
      · exact e
      · simp [e] at q
    apply tp_congr
    intro i hi
    match i, hi with
    | 0, _ => exact z _ _ (by omega)
    | 1, _ => exact z _ _ (by omega)
    | 2, _ => exact z _ _ (by omega)
    | 3, _ => exact z _ _ (by omega)
    | 4, _ => exact z _ _ (by omega)
  · intro h
    have q := tp_inj hf hg h
    unfold tp_df
    rw [q 0 (by decide), q 1 (by decide), q 2 (by decide), q 3 (by decide), q 4 (by decide)]
    simp [ze]
theorem bc_ch : ∀ e0, e0 < 2 → ∀ e1, e1 < 2 → ∀ e2, e2 < 2 → ∀ e3, e3 < 2 → ∀ e4, e4 < 2 → (fun a0 : Int => mm_and (((mm_and (((mm_and (a0 - (mm_and (mm_ushr a0 1) 1431655765)) 858993459) + (mm_and (mm_ushr (a0 - (mm_and (mm_ushr a0 1) 1431655765)) 2) 858993459)) + (mm_ushr ((mm_and (a0 - (mm_and (mm_ushr a0 1) 1431655765)) 858993459) + (mm_and (mm_ushr (a0 - (mm_and (mm_ushr a0 1) 1431655765)) 2) 858993459)) 4)) 252645135) + (mm_ushr (mm_and (((mm_and (a0 - (mm_and (mm_ushr a0 1) 1431655765)) 858993459) + (mm_and (mm_ushr (a0 - (mm_and (mm_ushr a0 1) 1431655765)) 2) 858993459)) + (mm_ushr ((mm_and (a0 - (mm_and (mm_ushr a0 1) 1431655765)) 858993459) + (mm_and (mm_ushr (a0 - (mm_and (mm_ushr a0 1) 1431655765)) 2) 858993459)) 4)) 252645135) 8)) + (mm_ushr ((mm_and (((mm_and (a0 - (mm_and (mm_ushr a0 1) 1431655765)) 858993459) + (mm_and (mm_ushr (a0 - (mm_and (mm_ushr a0 1) 1431655765)) 2) 858993459)) + (mm_ushr ((mm_and (a0 - (mm_and (mm_ushr a0 1) 1431655765)) 858993459) + (mm_and (mm_ushr (a0 - (mm_and (mm_ushr a0 1) 1431655765)) 2) 858993459)) 4)) 252645135) + (mm_ushr (mm_and (((mm_and (a0 - (mm_and (mm_ushr a0 1) 1431655765)) 858993459) + (mm_and (mm_ushr (a0 - (mm_and (mm_ushr a0 1) 1431655765)) 2) 858993459)) + (mm_ushr ((mm_and (a0 - (mm_and (mm_ushr a0 1) 1431655765)) 858993459) + (mm_and (mm_ushr (a0 - (mm_and (mm_ushr a0 1) 1431655765)) 2) 858993459)) 4)) 252645135) 8)) 16)) 63) ((e0 + 8 * (e1 + 8 * (e2 + 8 * (e3 + 8 * e4))) : Nat) : Int) = ((e0 + e1 + e2 + e3 + e4 : Nat) : Int) := by decide +kernel
section Hear
variable {E : mm_Env} {d k h b : Nat} {α τ : mm_Mem} {Q : mm_Q0}
theorem c_bitCount {e0 e1 e2 e3 e4 : Nat} (h0 : e0 < 2) (h1 : e1 < 2) (h2 : e2 < 2) (h3 : e3 < 2) (h4 : e4 < 2) (k1 : Q (some (vI ((e0 + e1 + e2 + e3 + e4 : Nat) : Int))) τ) : M0 E d qJ6_bitCount_0f7a4 [vI ((e0 + 8 * (e1 + 8 * (e2 + 8 * (e3 + 8 * e4))) : Nat) : Int)] τ Q := by
  refine mJ6_bitCount_0f7a4 ?_
  have e := bc_ch e0 h0 e1 h1 e2 h2 e3 h3 e4 h4
  dsimp only at e
  rw [e]
  exact k1
theorem ze_lt (b : Bool) : ze b < 2 := by cases b <;> simp [ze]
theorem c_unlikeNotes {f g : Nat → Nat} (hf : tp_ok f) (hg : tp_ok g) (k1 : Q (some (vI (tp_df f g : Nat))) τ) : M0 E (d + 1) qX9_unlikeNotes [vI (tp f : Nat), vI (tp g : Nat)] τ Q := by
  refine mX9_unlikeNotes ?_
  rw [tp_unl hf hg]
  exact c_bitCount (ze_lt _) (ze_lt _) (ze_lt _) (ze_lt _) (ze_lt _) ⟨_, rfl, k1⟩
theorem c_min {x y : Int} (hx : inR x) (hy : inR y) (k1 : Q (some (vI (min x y))) τ) : M0 E d qJ9_min_7cf53 [vI x, vI y] τ Q := by
  refine mJ9_min_7cf53 ⟨hx, hy, fun q => ?_, fun q => ?_⟩
  · rw [show min x y = y by omega] at k1; exact k1
  · rw [show min x y = x by omega] at k1; exact k1
theorem c_max {x y : Int} (hx : inR x) (hy : inR y) (k1 : Q (some (vI (max x y))) τ) : M0 E d qJ9_max_7cf53 [vI x, vI y] τ Q := by
  refine mJ9_max_7cf53 ⟨hx, hy, fun q => ?_, fun q => ?_⟩
  · rw [show max x y = y by omega] at k1; exact k1
  · rw [show max x y = x by omega] at k1; exact k1
theorem gW.at (G : gW α τ) {t n : Int} (t0 : 0 ≤ t) (t1 : t < α 0 5) (n0 : 0 ≤ n) (n1 : n < 1000) : τ (79 + 1 + t.toNat) n.toNat = (tp (wpA α t.toNat n.toNat) : Nat) ∧ τ (83 + 1 + t.toNat) n.toNat = α 23 (1000 * t.toNat + n.toNat) ∧ τ (87 + 1 + t.toNat) n.toNat = α 22 (1000 * t.toNat + n.toNat) := G.2 t.toNat n.toNat (by omega) (by omega)
theorem c_seekL {t u : Int} {f : Nat → Nat} {la : Int} (w : WF k α) (G : gW α τ) (t0 : 0 ≤ t) (t1 : t < α 0 5) (hf : tp_ok f) (hu : inR u) (hl : la ≤ 999) (hl2 : inR la) : ∀ (c n : Nat), (la + 1 - n).toNat = c → n ≤ 2000 → Q (some (vI (fsA (PuA α t.toNat f u) c n))) τ → V0 E (d + 2) qX9_seek 26 [some (vR 78), some (vI t), none, none, some (vI (tp f : Nat)), some (vI u), some (vI la), some (vI (n : Int))] [] τ Q
  | 0, n, hn, hn2, k1 => bX9_seek_26 ⟨⟨by omega, by omega⟩, hl2, fun _ => k1, fun q => by omega⟩
  | c + 1, n, hn, hn2, k1 => by
    have hw := w.le
    have g := (G.at (n := (n : Int)) t0 t1 (by omega) (by omega)).1
    have ok := wpA_ok w (t := t.toNat) (n := (n : Int).toNat) (by omega) (by omega)
    have l5 := tp_df_le (wpA α t.toNat (n : Int).toNat) f
    refine bX9_seek_26 ⟨⟨by omega, by omega⟩, hl2, fun q => by omega, fun q => ⟨by omega, by omega, by omega, by omega, ?_⟩⟩
    rw [g]
    refine c_unlikeNotes ok hf ⟨_, rfl, ⟨by omega, by omega⟩, hu, fun q2 => ?_, fun q2 => ?_⟩
    · rw [Int.toNat_natCast] at q2
      have e : ((n : Int) + 1) = ((n + 1 : Nat) : Int) := by omega
      rw [e]
      refine c_seekL w G t0 t1 hf hu hl hl2 c (n + 1) (by omega) (by omega) ?_
      rw [fsA, if_neg (by unfold PuA; simp; omega)] at k1; exact k1
    · rw [Int.toNat_natCast] at q2
      rw [fsA, if_pos (by unfold PuA; simp; omega)] at k1; exact k1
theorem c_seek {t fr to u : Int} {f : Nat → Nat} (w : WF k α) (G : gW α τ) (t0 : 0 ≤ t) (t1 : t < α 0 5) (hf : tp_ok f) (h1 : inR fr) (h2 : inR to) (hu : inR u) (hfr : fr ≤ 2000) (k1 : Q (some (vI (skA (PuA α t.toNat f u) fr to))) τ) : M0 E (d + 3) qX9_seek [vR 78, vI t, vI fr, vI to, vI (tp f : Nat), vI u] τ Q := by
  have hw := w.le
  refine mX9_seek (c_isThere ⟨by omega, by omega⟩ ⟨by decide, by decide⟩ ⟨_, rfl, fun _ => c_min h2 ⟨by decide, by decide⟩ ⟨_, rfl, c_max h1 ⟨by decide, by decide⟩ ⟨_, rfl, ?_⟩⟩, fun q => absurd (of_decide_eq_false q) (by omega)⟩)
  unfold skA at k1
  have l := c_seekL (d := d + 1) (E := E) (la := min to 999) w G t0 t1 hf hu (by omega) ⟨by omega, by omega⟩ ((min to 999) + 1 - max fr 0).toNat (max fr 0).toNat (by omega) (by omega) k1
  rw [show (((max fr 0).toNat : Nat) : Int) = max fr 0 by omega] at l
  exact l
/-- a function with one new value -/
def u1 (g : Nat → Int) (t : Nat) (v : Int) : Nat → Int := fun i => if i = t then v else g i
theorem u1_s {g : Nat → Int} {t : Nat} {v : Int} : u1 g t v t = v := if_pos rfl
theorem u1_n {g : Nat → Int} {t i : Nat} {v : Int} (h : i ≠ t) : u1 g t v i = g i := if_neg h
/-- a door's own cells -/
def dS (τ : mm_Mem) (o : Nat) (kind one two : Int) (e0 e1 e2 : Bool) (c hf tr : Nat → Int) : Prop := (KD o = some (.inr 0) ∧ τ o 1 = kind ∧ τ o 2 = one ∧ τ o 3 = two ∧ τ o 4 = bI e0 + 2 * bI e1 + 4 * bI e2) ∧ ∀ t, t < 3 → τ (o + 1) t = c t ∧ τ (o + 2) t = hf t ∧ τ (o + 3) t = tr t
def dB (kind one two : Int) (c hf tr : Nat → Int) : Prop := (0 ≤ kind ∧ kind ≤ 4 ∧ 0 ≤ one ∧ one ≤ 40 ∧ 0 ≤ two ∧ two ≤ 9) ∧ ∀ t, t < 3 → 0 ≤ c t ∧ c t ≤ 1000 ∧ -1 ≤ hf t ∧ hf t ≤ 999 ∧ 0 ≤ tr t ∧ tr t ≤ 255
def rchA (kind one two tr : Int) : Int := if kind = 1 ∨ kind = 3 then one else if kind = 4 then (if tr < two then one else 40) else 0
/-- the whistle that opens, the one behind a half, or -1 -/
def by1A (α : mm_Mem) (f : Nat → Nat) (kind by0 hf : Int) (t : Nat) : Int := if by0 = -1 ∧ kind = 2 ∧ hf ≠ -1 then skA (PuA α t f 0) (hf + 1) (hf + 1) else by0
def opF (α : mm_Mem) (f : Nat → Nat) (kind two c : Int) (t : Nat) (by1 : Int) : Int := if by1 ≠ -1 then by1 + 1 else if kind = 1 ∧ skA (PuA α t f 0) (c - two) (c - 1) ≠ -1 then c else -1
/-- the count behind opening, or -1 -/
def opA (α : mm_Mem) (f : Nat → Nat) (kind one two : Int) (c hf tr : Int) (t : Nat) : Int :=
  opF α f kind two c t (by1A α f kind (skA (PuA α t f (if kind = 3 then two else 0)) c (c + rchA kind one two tr)) hf t)
theorem c_reach {o t : Nat} {kind one two : Int} {e0 e1 e2 : Bool} {c hf tr : Nat → Int} (D : dS τ o kind one two e0 e1 e2 c hf tr) (ht : t < 3) (k1 : Q (some (vI (rchA kind one two (tr t)))) τ) : M0 E d qX0_reach [vR o, vI (t : Int)] τ Q := by
  obtain ⟨⟨kd, d1, d2, d3, d4⟩, dt⟩ := D
  have g := (dt t ht).2.2
  unfold rchA at k1
  refine mX0_reach kd ?_
  rw [d1, d2, d3, Int.toNat_natCast, g]
  refine ⟨fun q => ?_, fun q => ?_, fun q => ?_, fun q => ?_, fun q => ⟨by omega, by omega, fun q2 => ?_, fun q2 => ?_⟩⟩
  · rw [if_neg (by omega), if_neg (by omega)] at k1; exact k1
  · rw [if_pos (Or.inl q)] at k1; exact k1
  · rw [if_neg (by omega), if_neg (by omega)] at k1; exact k1
  · rw [if_pos (Or.inr q)] at k1; exact k1
  · rw [if_neg (by omega), if_pos q, if_neg (by omega)] at k1; exact k1
  · rw [if_neg (by omega), if_pos q, if_pos (by omega)] at k1; exact k1
theorem rchA_r {kind one two tr : Int} (h1 : 0 ≤ one ∧ one ≤ 40) : 0 ≤ rchA kind one two tr ∧ rchA kind one two tr ≤ 40 := by
  unfold rchA
  split
  · exact h1
  · split
    · split
      · exact h1
      · omega
    · omega
theorem c_countIf91 {o t : Nat} {f : Nat → Nat} {kind one two x4 x5 : Int} {e0 e1 e2 : Bool} {c hf tr : Nat → Int} (w : WF k α) (G : gW α τ) (D : dS τ o kind one two e0 e1 e2 c hf tr) (B : dB kind one two c hf tr) (hof : tp_ok f) (ht : t < 3) (t1 : (t : Int) < α 0 5) (h4 : x4 = c t) (h5 : inR x5) (k1 : Q (some (vI (opF α f kind two (c t) t x5))) τ) : V0 E (d + 4) qX0_countIfOpened 91 [some (vR o), some (vR 78), some (vI (t : Int)), some (vI (tp f : Nat)), some (vI x4), some (vI x5), none] [] τ Q := by
  obtain ⟨⟨kd, d1, d2, d3, d4⟩, dt⟩ := D
  have bt := B.2 t ht
  have b1 := B.1
  subst h4
  unfold opF at k1
  refine bX0_countIfOpened_91 kd ⟨h5, fun q => ?_, fun q => ?_⟩
  · rw [if_neg (by omega)] at k1
    rw [d1, d3]
    refine ⟨fun q2 => ?_, fun q2 => ?_⟩
    · rw [if_neg (fun z => q2 z.1)] at k1; exact k1
    · refine c_seek w G (by omega) t1 hof ⟨by omega, by omega⟩ ⟨by omega, by omega⟩ ⟨by decide, by decide⟩ (by omega) ⟨_, rfl, ?_, fun q3 => ?_, fun q3 => ?_⟩
      · have := skA_range (PuA α (t : Int).toNat f 0) (c t - two) (c t - 1); exact ⟨by omega, by omega⟩
      · rw [Int.toNat_natCast] at q3
        rw [if_neg (fun z => z.2 q3)] at k1; exact k1
      · rw [Int.toNat_natCast] at q3
        rw [if_pos ⟨q2, q3⟩] at k1; exact k1
  · rw [if_pos q] at k1; exact k1
theorem c_countIf37 {o t : Nat} {f : Nat → Nat} {kind one two y0 y2 : Int} {e0 e1 e2 : Bool} {c hf tr : Nat → Int} (w : WF k α) (G : gW α τ) (D : dS τ o kind one two e0 e1 e2 c hf tr) (B : dB kind one two c hf tr) (hof : tp_ok f) (ht : t < 3) (t1 : (t : Int) < α 0 5) (hy0 : y0 = if kind = 3 then two else 0) (hy2 : y2 = c t + rchA kind one two (tr t)) (k1 : Q (some (vI (opA α f kind one two (c t) (hf t) (tr t) t))) τ) : V0 E (d + 4) qX0_countIfOpened 37 [some (vR o), some (vR 78), some (vI (t : Int)), some (vI (tp f : Nat)), some (vI (c t)), none, none] [vI y0, vI (tp f : Nat), vI y2, vI (c t), vI (t : Int), vR 78] τ Q := by
  have D0 := D
  obtain ⟨⟨kd, d1, d2, d3, d4⟩, dt⟩ := D
  obtain ⟨dt1, dt2, dt3⟩ := dt t ht
  have bt := B.2 t ht
  have b1 := B.1
  have rr := rchA_r (kind := kind) (two := two) (tr := tr t) (one := one) (by omega)
  have hy0r : 0 ≤ y0 ∧ y0 ≤ 9 := by subst hy0; split <;> omega
  unfold opA at k1
  rw [← hy0, ← hy2] at k1
  have rg := skA_range (PuA α t f y0) (c t) y2
  refine bX0_countIfOpened_37 kd (c_seek w G (by omega) t1 hof ⟨by omega, by omega⟩ ⟨by omega, by omega⟩ ⟨by omega, by omega⟩ (by omega) ⟨_, rfl, ?_, fun q => ?_, fun q => ?_⟩)
  · rw [Int.toNat_natCast]; exact ⟨by omega, by omega⟩
  · rw [Int.toNat_natCast] at q ⊢
    refine c_countIf91 w G D0 B hof ht t1 rfl ⟨by omega, by omega⟩ ?_
    have e : by1A α f kind (skA (PuA α t f y0) (c t) y2) (hf t) t = skA (PuA α t f y0) (c t) y2 := if_neg (fun z => q z.1)
    rw [e] at k1
    exact k1
  · rw [Int.toNat_natCast] at q ⊢
    rw [d1, dt2]
    refine ⟨fun q2 => ?_, fun q2 => ⟨by omega, by omega, fun q3 => ?_, fun q3 => ⟨by omega, by omega, by omega, by omega, ?_⟩⟩⟩
    · have e : by1A α f kind (skA (PuA α t f y0) (c t) y2) (hf t) t = skA (PuA α t f y0) (c t) y2 := if_neg (fun z => q2 z.2.1)
      rw [e] at k1
      exact c_countIf91 w G D0 B hof ht t1 rfl ⟨by omega, by omega⟩ k1
    · have e : by1A α f kind (skA (PuA α t f y0) (c t) y2) (hf t) t = skA (PuA α t f y0) (c t) y2 := if_neg (fun z => z.2.2 q3)
      rw [e] at k1
      exact c_countIf91 w G D0 B hof ht t1 rfl ⟨by omega, by omega⟩ k1
    · have e : by1A α f kind (skA (PuA α t f y0) (c t) y2) (hf t) t = skA (PuA α t f 0) (hf t + 1) (hf t + 1) := if_pos ⟨q, q2, q3⟩
      rw [e] at k1
      have rg2 := skA_range (PuA α t f 0) (hf t + 1) (hf t + 1)
      refine c_seek w G (by omega) t1 hof ⟨by omega, by omega⟩ ⟨by omega, by omega⟩ ⟨by decide, by decide⟩ (by omega) ⟨_, rfl, ?_⟩
      rw [Int.toNat_natCast]
      exact c_countIf91 w G D0 B hof ht t1 rfl ⟨by omega, by omega⟩ k1
theorem c_countIfOpened {o t : Nat} {f : Nat → Nat} {kind one two : Int} {e0 e1 e2 : Bool} {c hf tr : Nat → Int} (w : WF k α) (G : gW α τ) (D : dS τ o kind one two e0 e1 e2 c hf tr) (B : dB kind one two c hf tr) (hof : tp_ok f) (ht : t < 3) (t1 : (t : Int) < α 0 5) (k1 : Q (some (vI (opA α f kind one two (c t) (hf t) (tr t) t))) τ) : M0 E (d + 4) qX0_countIfOpened [vR o, vR 78, vI (t : Int), vI (tp f : Nat)] τ Q := by
  have D0 := D
  obtain ⟨⟨kd, d1, d2, d3, d4⟩, dt⟩ := D
  obtain ⟨dt1, dt2, dt3⟩ := dt t ht
  refine mX0_countIfOpened kd ⟨by omega, by omega, c_reach D0 ht ⟨_, rfl, ?_⟩⟩
  rw [Int.toNat_natCast, dt1, d1, d3]
  exact ⟨fun q => c_countIf37 w G D0 B hof ht t1 (by rw [if_neg q]) rfl k1, fun q => c_countIf37 w G D0 B hof ht t1 (by rw [if_pos q]) rfl k1⟩
/-- what a try in vain leaves -/
def msT (tr : Int) : Int := min (tr + 1) 255
def msH (α : mm_Mem) (f : Nat → Nat) (kind one : Int) (c hf : Int) (t : Nat) : Int := if kind = 2 then skA (PuA α t f 0) (c + 1) (c + one) else hf
theorem gW.keep {τ' : mm_Mem} (G : gW α τ) (e : ∀ x, 78 ≤ x → x < 91 → τ' x = τ x) (w : WF k α) : gW α τ' := G.cg w.le.1 (fun _ _ _ => rfl) (fun _ _ _ => rfl) e
theorem kdD_out {o : Nat} (kd : KD o = some (.inr 0)) : (18 ≤ o ∧ o + 3 < 34) ∨ (52 ≤ o ∧ o + 3 < 68) ∨ (91 ≤ o ∧ o + 3 < 95) ∨ (97 ≤ o ∧ o + 3 < 133) := by
  have ch : (List.range 194).all (fun d => decide (KD d = some (.inr 0) → (18 ≤ d ∧ d + 3 < 34) ∨ (52 ≤ d ∧ d + 3 < 68) ∨ (91 ≤ d ∧ d + 3 < 95) ∨ (97 ≤ d ∧ d + 3 < 133))) = true := by decide +kernel
  exact of_decide_eq_true (List.all_eq_true.mp ch o (List.mem_range.mpr (KD_lt kd))) kd
theorem c_hearInVain {o t : Nat} {f : Nat → Nat} {kind one two : Int} {e0 e1 e2 : Bool} {c hf tr : Nat → Int} (w : WF k α) (G : gW α τ) (D : dS τ o kind one two e0 e1 e2 c hf tr) (B : dB kind one two c hf tr) (hof : tp_ok f) (ht : t < 3) (t1 : (t : Int) < α 0 5) (k1 : ∀ τ', (∀ x, x ≠ o + 2 → x ≠ o + 3 → τ' x = τ x) → dS τ' o kind one two e0 e1 e2 c (u1 hf t (msH α f kind one (c t) (hf t) t)) (u1 tr t (msT (tr t))) → Q none τ') : M0 E (d + 4) qX0_hearInVain [vR o, vR 78, vI (t : Int), vI (tp f : Nat)] τ Q := by
  have D0 := D
  obtain ⟨⟨kd, d1, d2, d3, d4⟩, dt⟩ := D
  obtain ⟨dt1, dt2, dt3⟩ := dt t ht
  have bt := B.2 t ht
  have b1 := B.1
  have ko := kdD_out kd
  refine mX0_hearInVain kd ⟨by omega, by omega, ?_⟩
  rw [Int.toNat_natCast, dt3]
  refine c_min ⟨by omega, by omega⟩ ⟨by decide, by decide⟩ ⟨_, rfl, by omega, by omega, ⟨by omega, by omega⟩, ?_⟩
  have hD1 : dS (wr τ (o + 3) t (min (tr t + 1) 255)) o kind one two e0 e1 e2 c hf (u1 tr t (msT (tr t))) := by
    refine ⟨⟨kd, ?_, ?_, ?_, ?_⟩, fun i hi => ⟨?_, ?_, ?_⟩⟩
    · rw [wr_obj (by omega)]; exact d1
    · rw [wr_obj (by omega)]; exact d2
    · rw [wr_obj (by omega)]; exact d3
    · rw [wr_obj (by omega)]; exact d4
    · rw [wr_obj (by omega)]; exact (dt i hi).1
    · rw [wr_obj (by omega)]; exact (dt i hi).2.1
    · by_cases e : i = t
      · subst e; rw [wr_same, u1_s]; rfl
      · rw [wr_row e, u1_n e]; exact (dt i hi).2.2
  rw [wr_obj (show o ≠ o + 3 by omega), wr_obj (show o + 1 ≠ o + 3 by omega), d1, d2, dt1]
  refine ⟨fun q => ?_, fun q => ⟨by omega, by omega, by omega, by omega, ?_⟩⟩
  · refine k1 _ (fun x _ x3 => wr_obj x3) ?_
    have e : u1 hf t (msH α f kind one (c t) (hf t) t) = hf := by
      funext i
      by_cases e : i = t
      · subst e; rw [u1_s, msH, if_neg q]
      · rw [u1_n e]
    rw [e]; exact hD1
  · have G1 : gW α (wr τ (o + 3) t (min (tr t + 1) 255)) := G.keep (fun x _ _ => wr_obj (by omega)) w
    refine c_seek w G1 (by omega) t1 hof ⟨by omega, by omega⟩ ⟨by omega, by omega⟩ ⟨by decide, by decide⟩ (by omega) ⟨_, rfl, by omega, by omega, ?_, ?_⟩
    · have := skA_range (PuA α (t : Int).toNat f 0) (c t + 1) (c t + one); exact ⟨by omega, by omega⟩
    · rw [Int.toNat_natCast]
      refine k1 _ (fun x x2 x3 => by rw [wr_obj x2, wr_obj x3]) ?_
      obtain ⟨⟨-, f1, f2, f3, f4⟩, ft⟩ := hD1
      refine ⟨⟨kd, ?_, ?_, ?_, ?_⟩, fun i hi => ⟨?_, ?_, ?_⟩⟩
      · rw [wr_obj (by omega)]; exact f1
      · rw [wr_obj (by omega)]; exact f2
      · rw [wr_obj (by omega)]; exact f3
      · rw [wr_obj (by omega)]; exact f4
      · rw [wr_obj (by omega)]; exact (ft i hi).1
      · by_cases e : i = t
        · subst e; rw [wr_same, u1_s, msH, if_pos q]
        · rw [wr_row e, u1_n e]; exact (ft i hi).2.1
      · rw [wr_obj (by omega)]; exact (ft i hi).2.2
end Hear
