/-! the reference hears -/
/-- a tune that may be heard: its notes, none behind its length -/
def fvA (α : mm_Mem) (f : Nat → Nat) : Prop := (∀ i : Nat, (i : Int) < α 0 4 → (f i : Int) < α 0 3) ∧ ∀ i : Nat, ¬ (i : Int) < α 0 4 → f i = 0
def mH (α : mm_Mem) (f : Nat → Nat) (τ : mm_Mem) : Prop := (∀ i : Nat, (i : Int) < α 0 4 → τ 188 i = (f i : Int)) ∧ τ 140 66 = numA (α 0 3) (fun i => (f i : Int)) (α 0 4).toNat
section MHear
variable {E : mm_Env} {d k b : Nat} {α τ : mm_Mem} {Q : mm_Q0}
theorem fvA_ok {f : Nat → Nat} (w : WF k α) (hf : fvA α f) : tp_ok f := by
  intro i hi
  obtain ⟨hh, -⟩ := w.2.1
  by_cases q : (i : Int) < α 0 4
  · have := hf.1 i q; omega
  · rw [hf.2 i q]; omega
theorem PuA_0 {t n : Nat} {f : Nat → Nat} (w : WF k α) (ht : (t : Int) < α 0 5) (hn : n < 1000) (hf : fvA α f) : PuA α t f 0 n = decide (α 23 (1000 * t + n) = numA (α 0 3) (fun i => (f i : Int)) (α 0 4).toNat) := by
  have w3 := w.tune ht
  have ok := wpA_ok w ht hn
  have okf := fvA_ok w hf
  obtain ⟨a1, a2, a3, a4⟩ := (w.2.2.2.2.2.2.1 t ht).1 n hn
  unfold PuA
  apply decide_eq_decide.mpr
  have e : ((tp_df (wpA α t n) f : Nat) : Int) ≤ 0 ↔ tp_df (wpA α t n) f = 0 := by omega
  rw [e, tp_df_0 ok okf, a4]
  constructor
  · intro q
    have q2 := tp_inj ok okf q
    apply num_congr
    intro i hi
    have q3 := q2 i (by omega)
    unfold wpA at q3
    rw [if_pos (by omega)] at q3
    have := a1 i (by omega)
    omega
  · intro q
    have q2 := num_inj (by omega) _ (fun i hi => a1 i (by omega)) (fun i hi => ⟨by omega, hf.1 i (by omega)⟩) q
    apply tp_congr
    intro i hi
    unfold wpA
    by_cases q3 : (i : Int) < α 0 4
    · rw [if_pos q3]
      have := q2 i (by omega)
      omega
    · rw [if_neg q3, hf.2 i q3]
/-- differing notes, counted up to a place -/
def dfU (g f : Nat → Nat) : Nat → Nat
  | 0 => 0
  | n + 1 => dfU g f n + ze (g n != f n)
theorem dfU_5 (g f : Nat → Nat) : dfU g f 5 = tp_df g f := by simp [dfU, tp_df]
theorem dfU_z {g f : Nat → Nat} {L : Nat} (h : ∀ i, L ≤ i → g i = f i) : ∀ n, L ≤ n → dfU g f n = dfU g f L
  | 0, hn => by rw [show L = 0 by omega]
  | n + 1, hn => by
    by_cases q : L = n + 1
    · rw [q]
    · rw [dfU, dfU_z h n (by omega), h n (by omega)]
      simp [ze]
theorem m_unlikeL {t n : Int} {f : Nat → Nat} (w : WF k α) (H : RepM b α τ) (hh : mH α f τ) (t0 : 0 ≤ t) (t1 : t < α 0 5) (n0 : 0 ≤ n) (n1 : n < 1000) (k1 : Q (some (vI (dfU (wpA α t.toNat n.toNat) f (α 0 4).toNat : Nat))) τ) : ∀ (c i : Nat), i + c = (α 0 4).toNat → V0 E d qX11_unlike 5 [some (vR 140), some (vI t), some (vI n), some (vI (dfU (wpA α t.toNat n.toNat) f i : Nat)), some (vI (i : Int))] [] τ Q
  | 0, i, hi => by
    obtain ⟨b1, b2, b3⟩ := H.bk
    have w3 := w.tune (t := t.toNat) (by omega)
    have e : i = (α 0 4).toNat := by omega
    refine bX11_unlike_5 ⟨by omega, by omega, ⟨by omega, by omega⟩, fun _ => by rw [e]; exact k1, fun q => ?_⟩
    rw [b3, H.hs.2.1] at q; omega
  | c + 1, i, hi => by
    obtain ⟨b1, b2, b3⟩ := H.bk
    have hw := w.le
    have w3 := w.tune (t := t.toNat) (by omega)
    have g := (H.whi t0 t1 n0 n1).1 i (by omega)
    have hf := hh.1 i (by omega)
    have a := ((w.2.2.2.2.2.2.1 t.toNat (by omega)).1 n.toNat (by omega)).1 i (by omega)
    have wp : ((wpA α t.toNat n.toNat i : Nat) : Int) = wnA α t.toNat n.toNat i := by
      unfold wpA; rw [if_pos (by omega)]; omega
    have en : ((i : Int) + 1) = ((i + 1 : Nat) : Int) := by omega
    refine bX11_unlike_5 ⟨by omega, by omega, ⟨by omega, by omega⟩, fun q => ?_, fun _ => ⟨by omega, by omega, by omega, by omega, fun q => ?_, fun q => ?_⟩⟩
    · rw [b3, H.hs.2.1] at q; omega
    · rw [Int.toNat_natCast, hf, g, ← wp] at q
      have e2 : wpA α t.toNat n.toNat i = f i := by omega
      have e : ((dfU (wpA α t.toNat n.toNat) f i : Nat) : Int) + 0 = ((dfU (wpA α t.toNat n.toNat) f (i + 1) : Nat) : Int) := by rw [dfU, e2]; simp [ze]
      rw [e, en]
      exact m_unlikeL w H hh t0 t1 n0 n1 k1 c (i + 1) (by omega)
    · rw [Int.toNat_natCast, hf, g, ← wp] at q
      have e2 : wpA α t.toNat n.toNat i ≠ f i := fun z => q (by omega)
      have e : ((dfU (wpA α t.toNat n.toNat) f i : Nat) : Int) + 1 = ((dfU (wpA α t.toNat n.toNat) f (i + 1) : Nat) : Int) := by rw [dfU]; simp [ze, e2]
      rw [e, en]
      exact m_unlikeL w H hh t0 t1 n0 n1 k1 c (i + 1) (by omega)
theorem m_unlike {t n : Int} {f : Nat → Nat} (w : WF k α) (H : RepM b α τ) (hh : mH α f τ) (hf : fvA α f) (t0 : 0 ≤ t) (t1 : t < α 0 5) (n0 : 0 ≤ n) (n1 : n < 1000) (k1 : Q (some (vI (tp_df (wpA α t.toNat n.toNat) f : Nat))) τ) : M0 E d qX11_unlike [vR 140, vI t, vI n] τ Q := by
  have w3 := w.tune (t := t.toNat) (by omega)
  refine mX11_unlike (m_unlikeL w H hh t0 t1 n0 n1 ?_ (α 0 4).toNat 0 (by omega))
  rw [← dfU_5, dfU_z (L := (α 0 4).toNat) (fun i hi => ?_) 5 (by omega)] at k1
  · exact k1
  · unfold wpA
    rw [if_neg (by omega), hf.2 i (by omega)]
theorem m_isHeard {t n : Int} {f : Nat → Nat} (w : WF k α) (H : RepM b α τ) (hh : mH α f τ) (hf : fvA α f) (t0 : 0 ≤ t) (t1 : t < α 0 5) (hn : inR n) (k1 : Q (some (vB (decide (0 ≤ n ∧ n < 1000) && PuA α t.toNat f 0 n.toNat))) τ) : M0 E (d + 2) qX11_isHeard [vR 140, vI t, vI n] τ Q := by
  have hw := w.le
  refine mX11_isHeard (m_isWhistle hn ⟨_, rfl, fun q => ?_, fun q => ?_⟩)
  · rw [q, Bool.false_and] at k1; exact k1
  · rw [q, Bool.true_and] at k1
    have q := of_decide_eq_true q
    have g := (H.whi t0 t1 q.1 q.2).2.2
    rw [PuA_0 w (by omega) (by omega) hf] at k1
    refine ⟨by omega, by omega, ?_⟩
    rw [g, hh.2]
    refine ⟨fun r => ?_, fun r => ?_⟩
    · rw [decide_eq_false r] at k1; exact k1
    · rw [decide_eq_true r] at k1; exact k1
theorem fsA_ne (P : Nat → Bool) : ∀ (c n : Nat), fsA P c n ≠ -1 ↔ ∃ i, n ≤ i ∧ i < n + c ∧ P i = true
  | 0, n => by constructor
               · intro h; exact absurd rfl h
               · rintro ⟨i, h1, h2, -⟩; omega
  | c + 1, n => by
    rw [fsA]
    by_cases q : P n = true
    · rw [if_pos q]
      constructor
      · intro _; exact ⟨n, by omega, by omega, q⟩
      · intro _; omega
    · rw [if_neg q, fsA_ne P c (n + 1)]
      constructor
      · rintro ⟨i, h1, h2, h3⟩; exact ⟨i, by omega, by omega, h3⟩
      · rintro ⟨i, h1, h2, h3⟩
        by_cases e : i = n
        · subst e; exact absurd h3 q
        · exact ⟨i, by omega, by omega, h3⟩
theorem skA_ne {P : Nat → Bool} {fr to : Int} : skA P fr to ≠ -1 ↔ ∃ i : Nat, fr ≤ (i : Int) ∧ (i : Int) ≤ to ∧ i < 1000 ∧ P i = true := by
  unfold skA
  rw [fsA_ne]
  constructor
  · rintro ⟨i, h1, h2, h3⟩; exact ⟨i, by omega, by omega, by omega, h3⟩
  · rintro ⟨i, h1, h2, h3, h4⟩; exact ⟨i, by omega, by omega, h4⟩
/-- behind the window: the pair's half -/
theorem m_opens196 {t e : Nat} {kind : Int} {f : Nat → Nat} (w : WF k α) (H : RepM b α τ) (hh : mH α f τ) (hf : fvA α f) (t1 : (t : Int) < α 0 5) (he : e < 12) (hk : inR kind) (k1 : Q (some (vI (if kind = 2 ∧ α 16 e ≠ -1 ∧ skA (PuA α t f 0) (α 16 e + 1) (α 16 e + 1) ≠ -1 then α 16 e + 2 else -1))) τ) : V0 E (d + 3) qX11_opensTo 196 [some (vR 140), none, some (vI (t : Int)), some (vI (e : Int)), some (vI kind), none, none, none, none, none] [] τ Q := by
  have g := (H.ear (e := (e : Int)) (by omega) (by omega)).2.1
  have we := w.2.2.2.2.1 e
  rw [Int.toNat_natCast] at g
  refine bX11_opensTo_196 ⟨hk, fun q => ?_, fun q => ⟨by omega, by omega, ?_⟩⟩
  · rw [if_neg (fun z => q z.1)] at k1; exact k1
  · rw [Int.toNat_natCast, g]
    refine ⟨fun q2 => ?_, fun q2 => ⟨by omega, by omega, ?_⟩⟩
    · rw [if_neg (fun z => z.2.1 q2)] at k1; exact k1
    · have iff : (decide (0 ≤ α 16 e + 1 ∧ α 16 e + 1 < 1000) && PuA α t f 0 (α 16 e + 1).toNat) = true ↔ skA (PuA α t f 0) (α 16 e + 1) (α 16 e + 1) ≠ -1 := by
        rw [skA_ne, Bool.and_eq_true, decide_eq_true_eq]
        constructor
        · rintro ⟨⟨a1, a2⟩, a3⟩; exact ⟨(α 16 e + 1).toNat, by omega, by omega, by omega, a3⟩
        · rintro ⟨i, a1, a2, a3, a4⟩
          have ei : (α 16 e + 1).toNat = i := by omega
          rw [ei]; exact ⟨by omega, a4⟩
      refine m_isHeard w H hh hf (by omega) t1 ⟨by omega, by omega⟩ ⟨_, rfl, fun r => ?_, fun r => ⟨by omega, by omega, ?_⟩⟩
      · rw [Int.toNat_natCast] at r
        rw [if_neg (fun z => by have := iff.mpr z.2.2; rw [r] at this; cases this)] at k1; exact k1
      · rw [Int.toNat_natCast] at r
        rw [if_pos ⟨q, q2, iff.mp r⟩] at k1
        rw [g]; exact k1
/-- backward in the window -/
theorem m_opens167 {t e : Nat} {two c : Int} {f : Nat → Nat} (w : WF k α) (H : RepM b α τ) (hh : mH α f τ) (hf : fvA α f) (t1 : (t : Int) < α 0 5) (he : e < 12) (hc : 0 ≤ c ∧ c ≤ 1000) (h2 : 0 ≤ two ∧ two ≤ 9) : ∀ (m : Nat) (x : Int), x - (c - two) + 1 = (m : Int) → x < c → (∀ i : Nat, x < (i : Int) → (i : Int) < c → i < 1000 → PuA α t f 0 i = false) → Q (some (vI (if skA (PuA α t f 0) (c - two) (c - 1) ≠ -1 then c else -1))) τ → V0 E (d + 3) qX11_opensTo 167 [some (vR 140), none, some (vI (t : Int)), some (vI (e : Int)), some (vI 1), none, some (vI two), some (vI c), none, some (vI x)] [] τ Q
  | 0, x, hm, hx, no, k1 => by
    refine bX11_opensTo_167 ⟨⟨by omega, by omega⟩, ⟨by omega, by omega⟩, fun _ => ?_, fun q => by omega⟩
    refine m_opens196 w H hh hf t1 he ⟨by decide, by decide⟩ ?_
    rw [if_neg (fun z => absurd z.1 (by decide))]
    rw [if_neg] at k1
    · exact k1
    · rw [skA_ne]
      rintro ⟨i, a1, a2, a3, a4⟩
      rw [no i (by omega) (by omega) a3] at a4; cases a4
  | m + 1, x, hm, hx, no, k1 => by
    refine bX11_opensTo_167 ⟨⟨by omega, by omega⟩, ⟨by omega, by omega⟩, fun q => by omega, fun _ => m_isHeard w H hh hf (by omega) t1 ⟨by omega, by omega⟩ ⟨_, rfl, fun q => ?_, fun q => ?_⟩⟩
    · refine m_opens167 w H hh hf t1 he hc h2 m (x + (-1)) (by omega) (by omega) (fun i a1 a2 a3 => ?_) k1
      by_cases ei : (i : Int) = x
      · rw [Int.toNat_natCast] at q
        have e2 : x.toNat = i := by omega
        rw [e2, decide_eq_true (by omega), Bool.true_and] at q
        exact q
      · exact no i (by omega) a2 a3
    · rw [Int.toNat_natCast, Bool.and_eq_true, decide_eq_true_eq] at q
      rw [if_pos (skA_ne.mpr ⟨x.toNat, by omega, by omega, by omega, q.2⟩)] at k1
      exact k1
/-- what stands behind the first search -/
def opG (α : mm_Mem) (f : Nat → Nat) (kind two c : Int) (t e : Nat) : Int := if kind = 1 then (if skA (PuA α t f 0) (c - two) (c - 1) ≠ -1 then c else -1) else (if kind = 2 ∧ α 16 e ≠ -1 ∧ skA (PuA α t f 0) (α 16 e + 1) (α 16 e + 1) ≠ -1 then α 16 e + 2 else -1)
theorem m_opens95 {t e : Nat} {kind two c reach : Int} {f : Nat → Nat} (w : WF k α) (H : RepM b α τ) (hh : mH α f τ) (hf : fvA α f) (t1 : (t : Int) < α 0 5) (he : e < 12) (hc : 0 ≤ c ∧ c ≤ 1000) (h2 : 0 ≤ two ∧ two ≤ 9) (hk : inR kind) (hr : 0 ≤ reach ∧ reach ≤ 40) : ∀ (m n : Nat), (min (c + reach) 999 + 1 - (n : Int)).toNat = m → c ≤ n → n ≤ 1000 → Q (some (vI (if fsA (PuA α t f (if kind = 3 then two else 0)) m n ≠ -1 then fsA (PuA α t f (if kind = 3 then two else 0)) m n + 1 else opG α f kind two c t e))) τ → V0 E (d + 3) qX11_opensTo 95 [some (vR 140), none, some (vI (t : Int)), some (vI (e : Int)), some (vI kind), none, some (vI two), some (vI c), some (vI reach), some (vI (n : Int))] [] τ Q
  | 0, n, hm, hn, hn2, k1 => by
    rw [show fsA (PuA α t f (if kind = 3 then two else 0)) 0 n = -1 from rfl, if_neg (by simp)] at k1
    have tail : inR kind ∧ ((kind ≠ 1 → V0 E (d + 3) qX11_opensTo 196 [some (vR 140), none, some (vI (t : Int)), some (vI (e : Int)), some (vI kind), none, none, none, none, none] [] τ Q) ∧ (kind = 1 → V0 E (d + 3) qX11_opensTo 167 [some (vR 140), none, some (vI (t : Int)), some (vI (e : Int)), some (vI kind), none, some (vI two), some (vI c), none, some (vI (c - 1))] [] τ Q)) := by
      refine ⟨hk, fun q => ?_, fun q => ?_⟩
      · unfold opG at k1; rw [if_neg q] at k1
        exact m_opens196 w H hh hf t1 he hk k1
      · unfold opG at k1; rw [if_pos q] at k1
        subst q
        exact m_opens167 w H hh hf t1 he hc h2 two.toNat (c - 1) (by omega) (by omega) (fun i a1 a2 _ => by omega) k1
    refine bX11_opensTo_95 ⟨⟨by omega, by omega⟩, ⟨by omega, by omega⟩, fun _ => tail, fun q => ⟨fun _ => tail, fun q2 => by omega⟩⟩
  | m + 1, n, hm, hn, hn2, k1 => by
    have en : ((n : Int) + 1) = ((n + 1 : Nat) : Int) := by omega
    have no : PuA α t f (if kind = 3 then two else 0) n = false → V0 E (d + 3) qX11_opensTo 95 [some (vR 140), none, some (vI (t : Int)), some (vI (e : Int)), some (vI kind), none, some (vI two), some (vI c), some (vI reach), some (vI ((n : Int) + 1))] [] τ Q := by
      intro z
      rw [en]
      refine m_opens95 w H hh hf t1 he hc h2 hk hr m (n + 1) (by omega) (by omega) (by omega) ?_
      have e2 : fsA (PuA α t f (if kind = 3 then two else 0)) (m + 1) n = fsA (PuA α t f (if kind = 3 then two else 0)) m (n + 1) := by rw [fsA, if_neg (by rw [z]; decide)]
      rw [e2] at k1; exact k1
    have yes : PuA α t f (if kind = 3 then two else 0) n = true → Q (some (vI ((n : Int) + 1))) τ := by
      intro z
      have e2 : fsA (PuA α t f (if kind = 3 then two else 0)) (m + 1) n = (n : Int) := by rw [fsA, if_pos z]
      rw [e2, if_pos (by omega)] at k1; exact k1
    refine bX11_opensTo_95 ⟨⟨by omega, by omega⟩, ⟨by omega, by omega⟩, fun q => by omega, fun q => ⟨fun q2 => by omega, fun q2 => ⟨hk, fun q3 => ?_, fun q3 => ?_⟩⟩⟩
    · rw [if_neg q3] at no yes
      refine m_isHeard w H hh hf (by omega) t1 ⟨by omega, by omega⟩ ⟨_, rfl, fun r => ?_, fun r => ?_⟩
      · rw [Int.toNat_natCast, Int.toNat_natCast, decide_eq_true (by omega), Bool.true_and] at r
        exact no r
      · rw [Int.toNat_natCast, Int.toNat_natCast, decide_eq_true (by omega), Bool.true_and] at r
        exact yes r
    · rw [if_pos q3] at no yes
      have l5 := tp_df_le (wpA α t n) f
      refine m_unlike w H hh hf (by omega) t1 (by omega) (by omega) ⟨_, rfl, ?_, ⟨by omega, by omega⟩, fun r => ?_, fun r => ?_⟩
      · rw [Int.toNat_natCast, Int.toNat_natCast]; exact ⟨by omega, by omega⟩
      · rw [Int.toNat_natCast, Int.toNat_natCast] at r
        exact no (decide_eq_false (by omega))
      · rw [Int.toNat_natCast, Int.toNat_natCast] at r
        exact yes (decide_eq_true (by omega))
theorem opG_eq {f : Nat → Nat} {kind one two : Int} {dd t : Nat} (hc : 0 ≤ α 15 (3 * dd + t) ∧ α 15 (3 * dd + t) ≤ 1000) : (if skA (PuA α t f (if kind = 3 then two else 0)) (α 15 (3 * dd + t)) (α 15 (3 * dd + t) + rchA kind one two (α 17 (3 * dd + t))) ≠ -1 then skA (PuA α t f (if kind = 3 then two else 0)) (α 15 (3 * dd + t)) (α 15 (3 * dd + t) + rchA kind one two (α 17 (3 * dd + t))) + 1 else opG α f kind two (α 15 (3 * dd + t)) t (3 * dd + t)) = opA α f kind one two (α 15 (3 * dd + t)) (α 16 (3 * dd + t)) (α 17 (3 * dd + t)) t := by
  unfold opA
  generalize skA (PuA α t f (if kind = 3 then two else 0)) (α 15 (3 * dd + t)) (α 15 (3 * dd + t) + rchA kind one two (α 17 (3 * dd + t))) = y
  by_cases h0 : y = -1
  · rw [if_neg (by simp [h0])]
    by_cases h2 : kind = 2 ∧ α 16 (3 * dd + t) ≠ -1
    · have e : by1A α f kind y (α 16 (3 * dd + t)) t = skA (PuA α t f 0) (α 16 (3 * dd + t) + 1) (α 16 (3 * dd + t) + 1) := if_pos ⟨h0, h2⟩
      rw [e]
      unfold opG opF
      rw [if_neg (show ¬ kind = 1 by omega)]
      have r := skA_range (PuA α t f 0) (α 16 (3 * dd + t) + 1) (α 16 (3 * dd + t) + 1)
      by_cases h3 : skA (PuA α t f 0) (α 16 (3 * dd + t) + 1) (α 16 (3 * dd + t) + 1) = -1
      · rw [if_neg (fun z => z.2.2 h3), if_neg (by simp [h3]), if_neg (fun z => by omega)]
      · rw [if_pos ⟨h2.1, h2.2, h3⟩, if_pos h3]; omega
    · have e : by1A α f kind y (α 16 (3 * dd + t)) t = y := if_neg (fun z => h2 z.2)
      rw [e]
      unfold opG opF
      rw [if_neg (show ¬ y ≠ -1 by simp [h0])]
      by_cases h1 : kind = 1
      · rw [if_pos h1]
        by_cases h3 : skA (PuA α t f 0) (α 15 (3 * dd + t) - two) (α 15 (3 * dd + t) - 1) = -1
        · rw [if_neg (by simp [h3]), if_neg (fun z => z.2 h3)]
        · rw [if_pos h3, if_pos ⟨h1, h3⟩]
      · rw [if_neg h1, if_neg (fun z => h2 ⟨z.1, z.2.1⟩), if_neg (fun z => h1 z.1)]
  · have e : by1A α f kind y (α 16 (3 * dd + t)) t = y := if_neg (fun z => h0 z.1)
    rw [e]
    unfold opF
    rw [if_pos h0, if_pos h0]
theorem m_opensTo {dd t : Nat} {f : Nat → Nat} (w : WF k α) (H : RepM b α τ) (hh : mH α f τ) (hf : fvA α f) (d1 : (dd : Int) < α 0 6) (t1 : (t : Int) < α 0 5) (k1 : Q (some (vI (opA α f (α 5 dd) (α 6 dd) (α 7 dd) (α 15 (3 * dd + t)) (α 16 (3 * dd + t)) (α 17 (3 * dd + t)) t))) τ) : M0 E (d + 3) qX11_opensTo [vR 140, vI (dd : Int), vI (t : Int)] τ Q := by
  have hw := w.le
  obtain ⟨b1, b2, b3⟩ := H.bk
  have wd := w.2.2.1 dd d1
  have we := w.2.2.2.2.1 (3 * dd + t)
  obtain ⟨g1, g2, g3⟩ := H.door (a := (dd : Int)) (by omega) d1
  rw [Int.toNat_natCast] at g1 g2 g3
  have en : (3 * (dd : Int) + (t : Int)) = ((3 * dd + t : Nat) : Int) := by omega
  obtain ⟨o1, o2, o3⟩ := H.ear (e := ((3 * dd + t : Nat) : Int)) (by omega) (by omega)
  rw [Int.toNat_natCast] at o1 o2 o3
  have rr := rchA_r (kind := α 5 dd) (two := α 7 dd) (tr := α 17 (3 * dd + t)) (one := α 6 dd) (by omega)
  have key : ∀ reach, reach = rchA (α 5 dd) (α 6 dd) (α 7 dd) (α 17 (3 * dd + t)) → V0 E (d + 3) qX11_opensTo 95 [some (vR 140), none, some (vI (t : Int)), some (vI ((3 * dd + t : Nat) : Int)), some (vI (α 5 dd)), none, some (vI (α 7 dd)), some (vI (α 15 (3 * dd + t))), some (vI reach), some (vI (α 15 (3 * dd + t)))] [] τ Q := by
    intro reach hr
    subst hr
    have ec : α 15 (3 * dd + t) = (((α 15 (3 * dd + t)).toNat : Nat) : Int) := by omega
    have l := m_opens95 (d := d) (E := E) (e := 3 * dd + t) (kind := α 5 dd) (two := α 7 dd) (c := α 15 (3 * dd + t)) (reach := rchA (α 5 dd) (α 6 dd) (α 7 dd) (α 17 (3 * dd + t))) w H hh hf t1 (by omega) (by omega) (by omega) ⟨by omega, by omega⟩ rr ((min (α 15 (3 * dd + t) + rchA (α 5 dd) (α 6 dd) (α 7 dd) (α 17 (3 * dd + t))) 999) + 1 - max (α 15 (3 * dd + t)) 0).toNat (max (α 15 (3 * dd + t)) 0).toNat (by omega) (by omega) (by omega) (by rw [← opG_eq (by omega)] at k1; exact k1)
    rw [show (((max (α 15 (3 * dd + t)) 0).toNat : Nat) : Int) = α 15 (3 * dd + t) by omega] at l
    exact l
  refine mX11_opensTo (m_door4 H ⟨_, rfl, by omega, by omega, m_door4 H ⟨_, rfl, by omega, by omega, m_door4 H ⟨_, rfl, by omega, by omega, by omega, by omega, ?_⟩⟩⟩)
  rw [g1, g2, g3, en, Int.toNat_natCast, o1, o3]
  unfold rchA at key
  refine ⟨fun q => key 0 ?_, fun q => ⟨fun q2 => ⟨fun q3 => key _ ?_, fun q3 => ⟨by omega, by omega, fun q4 => key _ ?_, fun q4 => key _ ?_⟩⟩, fun q2 => key 0 ?_⟩⟩
  · rw [if_neg (by omega), if_neg (by omega)]
  · rw [if_pos (by omega)]
  · rw [if_neg (by omega), if_pos q3, if_pos q4]
  · rw [if_neg (by omega), if_pos q3, if_neg q4]
  · rw [if_neg (by omega), if_neg (by omega)]
end MHear
