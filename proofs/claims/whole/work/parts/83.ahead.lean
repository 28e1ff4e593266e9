/-! the reference goes ahead -/
theorem zl_shl8 {a : Nat} (h : a * 256 < 2 ^ 63) : mm_lshl (a : Int) 8 = ((a * 256 : Nat) : Int) := by
  unfold mm_lshl
  rw [zl_of]
  have hs : (((Int32.ofInt 8).toInt64 &&& 63).toBitVec.smod 64).toNat = 8 := by decide
  have e : Int64.ofNat a <<< ((Int32.ofInt 8).toInt64 &&& 63) = Int64.ofNat (a * 256) := by
    apply Int64.toBitVec_inj.mp
    apply BitVec.eq_of_toNat_eq
    have e1 : (Int64.ofNat a <<< ((Int32.ofInt 8).toInt64 &&& 63)).toBitVec.toNat = (Int64.ofNat a).toBitVec.toNat * 2 ^ 8 % 2 ^ 64 := by
      show ((Int64.ofNat a).toBitVec <<< (((Int32.ofInt 8).toInt64 &&& 63).toBitVec.smod 64).toNat).toNat = _
      rw [hs, BitVec.toNat_shiftLeft, Nat.shiftLeft_eq]
    rw [e1, zl_tn (by omega), zl_tn (by omega), show (2 : Nat) ^ 8 = 256 from rfl, Nat.mod_eq_of_lt (by omega)]
  rw [e, zl_to h]
theorem zl_or {a b : Nat} (ha : a < 2 ^ 63) (hb : b < 2 ^ 63) : mm_lor (a : Int) (b : Int) = ((a ||| b : Nat) : Int) := by
  unfold mm_lor
  have e : Int64.ofNat a ||| Int64.ofNat b = Int64.ofNat (a ||| b) := by
    apply Int64.toBitVec_inj.1
    show BitVec.ofNat 64 a ||| BitVec.ofNat 64 b = BitVec.ofNat 64 (a ||| b)
    apply BitVec.eq_of_getLsbD_eq
    intro i hi
    simp [hi]
  rw [zl_of, zl_of, e, zl_to (Nat.or_lt_two_pow ha hb)]
theorem zl_app {a : Nat} {c : Int} (ha : a < 2 ^ 48) (hc : 0 ≤ c ∧ c ≤ 255) : mm_lor (mm_lshl (a : Int) 8) c = ((a * 256 + c.toNat : Nat) : Int) := by
  rw [zl_shl8 (by omega)]
  obtain ⟨b, rfl⟩ : ∃ b : Nat, c = (b : Int) := ⟨c.toNat, by omega⟩
  rw [zl_or (by omega) (by omega), Int.toNat_natCast]
  have := Nat.two_pow_add_eq_or_of_lt (show b < 2 ^ 8 by omega) a
  rw [show a * 256 = 2 ^ 8 * a by omega, ← this]
/-- the reference's token -/
def rfK (k : Nat) : Int := if k = 2 then 3 else if k = 3 then 2 else if k = 4 then 1 else 0
def TokM (r : Nat → Int) (n a : Nat) (τ : mm_Mem) : Prop := τ 140 3 = rfK (tk r n a).1 ∧ τ 140 4 = ((tk r n a).2.1 : Int) ∧ τ 140 5 = ((tk r n a).2.2.2 : Int) ∧ ((tk r n a).1 = 2 ∨ (tk r n a).1 = 3 → τ 140 6 = (tk r n a).2.2.1) ∧ ((tk r n a).1 = 4 → τ 140 7 = (tk r n a).2.2.1 ∧ τ 140 6 = 0)
def wdM (τ : mm_Mem) : Prop := τ 140 8 = 0 → τ 140 9 = -1
def frA (τ τ' : mm_Mem) : Prop := (∀ o, o ≠ 140 → τ' o = τ o) ∧ ∀ i, (i < 3 ∨ 9 < i) → τ' 140 i = τ 140 i
theorem frA.rf {τ : mm_Mem} : frA τ τ := ⟨fun _ _ => rfl, fun _ _ => rfl⟩
theorem frA.tr {a b c : mm_Mem} (h : frA a b) (h' : frA b c) : frA a c := ⟨fun o x => (h'.1 o x).trans (h.1 o x), fun i x => (h'.2 i x).trans (h.2 i x)⟩
theorem frA.w {a b : mm_Mem} {i : Nat} {v : Int} (h : frA a b) (hi : 3 ≤ i ∧ i ≤ 9) : frA a (wr b 140 i v) := ⟨fun o x => (wr_obj x).trans (h.1 o x), fun j x => (wr_row (by omega)).trans (h.2 j x)⟩
/-- the fault, after one more blame -/
def blP (f : Int × Int) (c : Prop) [Decidable c] (p : Int) : Int × Int := if f.1 = 0 ∧ c then (1, p) else f
theorem blP_w {f : Int × Int} {c : Prop} [Decidable c] {x p : Int} {τ τ' : mm_Mem} (hf : f = (0, τ 140 9) ∨ f = (1, p)) (W : wdM τ) (h8 : τ 140 8 = 0) (e : (τ' 140 8, τ' 140 9) = blP f c x) : wdM τ' := by
  intro q
  unfold blP at e
  split at e
  · have h : τ' 140 8 = 1 := congrArg Prod.fst e
    omega
  · rcases hf with z | z
    · rw [z] at e
      have h : τ' 140 9 = τ 140 9 := congrArg Prod.snd e
      rw [h]; exact W h8
    · rw [z] at e
      have h : τ' 140 8 = 1 := congrArg Prod.fst e
      omega
section Ahead
variable {E : mm_Env} {d : Nat} {τ : mm_Mem} {Q : mm_Q0} {r : Nat → Int} {n : Nat}
theorem m_isLt {a : Int} (ha : inR a) (k1 : Q (some (vB (isLt a))) τ) : M0 E d qX11_isLetter [vI a] τ Q := by
  unfold isLt at k1
  refine mX11_isLetter ⟨ha, fun q => ?_, fun q => ⟨fun q2 => ?_, fun q2 => ?_⟩⟩
  · rw [decide_eq_false (by omega)] at k1; exact k1
  · rw [decide_eq_false (by omega)] at k1; exact k1
  · rw [decide_eq_true (by omega)] at k1; exact k1
theorem m_isDg {a : Int} (ha : inR a) (k1 : Q (some (vB (isDg a))) τ) : M0 E d qX11_isDigit [vI a] τ Q := by
  unfold isDg at k1
  refine mX11_isDigit ⟨ha, fun q => ?_, fun q => ⟨fun q2 => ?_, fun q2 => ?_⟩⟩
  · rw [decide_eq_false (by omega)] at k1; exact k1
  · rw [decide_eq_false (by omega)] at k1; exact k1
  · rw [decide_eq_true (by omega)] at k1; exact k1
theorem m_blame {f : Int × Int} {x y : Int} (hf : (τ 140 8, τ 140 9) = f) (h0 : 0 ≤ f.1) (hx : inR x) (hy : inR y) (k1 : ∀ τ', (τ' 140 8, τ' 140 9) = (if f.1 = 0 then (x, y) else f) → (∀ o, o ≠ 140 → τ' o = τ o) → (∀ i, i ≠ 8 → i ≠ 9 → τ' 140 i = τ 140 i) → Q none τ') : M0 E d qX11_blame [vR 140, vI x, vI y] τ Q := by
  have e8 : τ 140 8 = f.1 := by rw [← hf]
  refine mX11_blame ⟨fun q => ⟨hx, hy, k1 _ ?_ (fun o ho => by rw [wr_obj ho, wr_obj ho]) (fun i a b => by rw [wr_row b, wr_row a])⟩, fun q => k1 τ ?_ (fun _ _ => rfl) (fun _ _ _ => rfl)⟩
  · rw [wr_same, wr_row (by omega), wr_same, if_pos (by omega)]
  · rw [if_neg (by omega)]; exact hf
/-- the run of letters -/
theorem m_wordL {p : Nat} {f0 : Int × Int} (hn : n ≤ 1600) (hr : ∀ i, 0 ≤ r i ∧ r i ≤ 255) (f00 : 0 ≤ f0.1) (k1 : ∀ τ' : mm_Mem, τ' 140 5 = (rnB isLt r (n - p) p : Nat) → τ' 140 7 = (pkN 256 (byF r p) (min (rnB isLt r (n - p) p - p) 6) : Nat) → (τ' 140 8, τ' 140 9) = blP f0 (p + 6 < rnB isLt r (n - p) p) ((p + 6 : Nat) : Int) → (∀ o, o ≠ 140 → τ' o = τ o) → (∀ i, i ≠ 5 → i ≠ 7 → i ≠ 8 → i ≠ 9 → τ' 140 i = τ 140 i) → Q none τ') : ∀ (c k : Nat) (σ : mm_Mem), p + k + c = n → (∀ i, i < k → isLt (r (p + i)) = true) → (∀ i, i < 1600 → σ 141 i = r i) → σ 140 2 = (n : Int) → σ 140 7 = (pkN 256 (byF r p) (min k 6) : Nat) → (σ 140 8, σ 140 9) = blP f0 (6 < k) ((p + 6 : Nat) : Int) → (∀ o, o ≠ 140 → σ o = τ o) → (∀ i, i ≠ 5 → i ≠ 7 → i ≠ 8 → i ≠ 9 → σ 140 i = τ 140 i) → V0 E (d + 1) qX11_ahead 200 [some (vR 140), some (vI ((p + k : Nat) : Int)), some (vB true), some (vB false), some (vI 6), some (vI (k : Int))] [] σ Q := by
  have fin : ∀ (k : Nat) (σ : mm_Mem), p + k ≤ n → (p + k = n ∨ ¬ isLt (r (p + k)) = true) → (∀ i, i < k → isLt (r (p + i)) = true) → σ 140 7 = (pkN 256 (byF r p) (min k 6) : Nat) → (σ 140 8, σ 140 9) = blP f0 (6 < k) ((p + 6 : Nat) : Int) → (∀ o, o ≠ 140 → σ o = τ o) → (∀ i, i ≠ 5 → i ≠ 7 → i ≠ 8 → i ≠ 9 → σ 140 i = τ 140 i) → Q none (wr σ 140 5 ((p + k : Nat) : Int)) := fun k σ h1 h2 h3 h7 h8 F G => by
    have er : rnB isLt r (n - p) p = p + k := (rnB_add k h1 h3).trans (rnB_stop h2)
    refine k1 _ (by rw [wr_same, er]) ?_ ?_ (fun o ho => by rw [wr_obj ho]; exact F o ho) (fun i a b c e => by rw [wr_row a]; exact G i a b c e)
    · rw [wr_row (by omega), er, show p + k - p = k by omega]; exact h7
    · rw [wr_row (by omega), wr_row (by omega), er, h8]
      unfold blP
      by_cases q : f0.1 = 0 ∧ 6 < k
      · rw [if_pos q, if_pos ⟨q.1, by omega⟩]
      · rw [if_neg q, if_neg (fun z => q ⟨z.1, by omega⟩)]
  intro c
  induction c with
  | zero =>
    intro k σ hk hl T h2 h7 h8 F G
    refine bX11_ahead_200 ⟨⟨by omega, by omega⟩, fun _ => fin k σ (by omega) (Or.inl (by omega)) hl h7 h8 F G, fun q => ?_⟩
    rw [h2] at q; omega
  | succ c ih =>
    intro k σ hk hl T h2 h7 h8 F G
    have rb := hr (p + k)
    have e8 : 0 ≤ σ 140 8 := by
      have : σ 140 8 = (blP f0 (6 < k) ((p + 6 : Nat) : Int)).1 := by rw [← h8]
      rw [this]; unfold blP; split
      · show (0 : Int) ≤ 1; omega
      · exact f00
    refine bX11_ahead_200 ⟨⟨by omega, by omega⟩, fun q => by rw [h2] at q; omega, fun _ => ⟨fun q => (by cases q), fun _ => ⟨by omega, by omega, ?_⟩⟩⟩
    rw [Int.toNat_natCast, T _ (by omega)]
    refine m_isLt ⟨by omega, by omega⟩ ⟨_, rfl, fun q => fin k σ (by omega) (Or.inr (by rw [q]; decide)) hl h7 h8 F G, fun q => ?_⟩
    have hl' : ∀ i, i < k + 1 → isLt (r (p + i)) = true := fun i hi => by
      by_cases e : i = k
      · rw [e]; exact q
      · exact hl i (by omega)
    have lk := isLt_t.mp q
    have ek : ((p + k : Nat) : Int) + 1 = ((p + (k + 1) : Nat) : Int) := by omega
    have ek2 : (k : Int) + 1 = ((k + 1 : Nat) : Int) := by omega
    -- behind the blame and the letter
    have nx : ∀ σ' : mm_Mem, σ' 140 7 = (pkN 256 (byF r p) (min (k + 1) 6) : Nat) → (σ' 140 8, σ' 140 9) = blP f0 (6 < k + 1) ((p + 6 : Nat) : Int) → (∀ o, o ≠ 140 → σ' o = σ o) → (∀ i, i ≠ 5 → i ≠ 7 → i ≠ 8 → i ≠ 9 → σ' 140 i = σ 140 i) → V0 E (d + 1) qX11_ahead 282 [some (vR 140), some (vI ((p + k : Nat) : Int)), some (vB true), some (vB false), some (vI 6), some (vI (k : Int))] [] σ' Q := fun σ' g7 g8 F' G' => by
      have go := ih (k + 1) σ' (by omega) hl' (fun i hi => by rw [F' 141 (by omega)]; exact T i hi) (by rw [G' 2 (by omega) (by omega) (by omega) (by omega)]; exact h2) g7 g8 (fun o ho => by rw [F' o ho, F o ho]) (fun i a b c e => by rw [G' i a b c e, G i a b c e])
      rw [← ek, ← ek2] at go
      exact bX11_ahead_282 ⟨⟨by omega, by omega⟩, ⟨by omega, by omega⟩, fun _ => go, fun _ => ⟨fun _ => go, fun y => by cases y⟩⟩
    have sm : k ≠ 6 → blP f0 (6 < k) ((p + 6 : Nat) : Int) = blP f0 (6 < k + 1) ((p + 6 : Nat) : Int) := fun z => by
      unfold blP
      by_cases y : f0.1 = 0 ∧ 6 < k
      · rw [if_pos y, if_pos ⟨y.1, by omega⟩]
      · rw [if_neg y, if_neg (fun w => y ⟨w.1, by omega⟩)]
    refine bX11_ahead_239 ⟨⟨by omega, by omega⟩, ⟨by omega, by omega⟩, fun z => ⟨fun z2 => ?_, fun z2 => ⟨fun y => (by cases y), fun _ => ⟨by omega, by omega, ?_⟩⟩⟩, fun z => ?_⟩
    · refine nx σ ?_ (by rw [h8]; exact sm (by omega)) (fun _ _ => rfl) (fun _ _ _ _ _ => rfl)
      rw [h7, show min k 6 = min (k + 1) 6 by omega]
    · rw [Int.toNat_natCast, T _ (by omega), h7, show min k 6 = k by omega]
      have bd : pkN 256 (byF r p) k < 256 ^ k := pkN_lt (by omega) k (fun i hi => by have := hr (p + i); unfold byF; omega)
      have b5 : (256 : Nat) ^ k ≤ 256 ^ 5 := Nat.pow_le_pow_right (by omega) (by omega)
      rw [zl_app (by omega) rb]
      refine nx _ ?_ ?_ (fun o ho => wr_obj ho) (fun i a b c e => wr_row b)
      · rw [wr_same, show min (k + 1) 6 = k + 1 by omega]; rfl
      · rw [wr_row (by omega), wr_row (by omega), h8]; exact sm (by omega)
    · have k6 : k = 6 := by omega
      subst k6
      refine m_blame (f := blP f0 (6 < 6) ((p + 6 : Nat) : Int)) h8 (by rw [← h8]; exact e8) ⟨by omega, by omega⟩ ⟨by omega, by omega⟩ (fun σ' g8 F' G' => ⟨rfl, fun _ => ?_, fun y => by omega⟩)
      refine nx σ' ?_ ?_ F' (fun i _ _ c e => G' i c e)
      · rw [G' 7 (by omega) (by omega), h7]; rfl
      · rw [g8]
        unfold blP
        rw [if_neg (fun z : f0.1 = 0 ∧ 6 < 6 => by omega)]
        by_cases y : f0.1 = 0
        · rw [if_pos y, if_pos ⟨y, by omega⟩]
        · rw [if_neg y, if_neg (fun w => y w.1)]
/-- the run of digits -/
theorem m_digL {p : Nat} {f0 : Int × Int} (hn : n ≤ 1600) (hr : ∀ i, 0 ≤ r i ∧ r i ≤ 255) (f00 : 0 ≤ f0.1) (k1 : ∀ τ' : mm_Mem, τ' 140 5 = (rnB isDg r (n - p) p : Nat) → τ' 140 6 = dvN r p (min (rnB isDg r (n - p) p - p) 4) → (τ' 140 8, τ' 140 9) = blP f0 (p + 4 < rnB isDg r (n - p) p) ((p + 4 : Nat) : Int) → (∀ o, o ≠ 140 → τ' o = τ o) → (∀ i, i ≠ 5 → i ≠ 6 → i ≠ 8 → i ≠ 9 → τ' 140 i = τ 140 i) → Q none τ') : ∀ (c k : Nat) (σ : mm_Mem), p + k + c = n → (∀ i, i < k → isDg (r (p + i)) = true) → (∀ i, i < 1600 → σ 141 i = r i) → σ 140 2 = (n : Int) → σ 140 6 = dvN r p (min k 4) → (σ 140 8, σ 140 9) = blP f0 (4 < k) ((p + 4 : Nat) : Int) → (∀ o, o ≠ 140 → σ o = τ o) → (∀ i, i ≠ 5 → i ≠ 6 → i ≠ 8 → i ≠ 9 → σ 140 i = τ 140 i) → V0 E (d + 1) qX11_ahead 200 [some (vR 140), some (vI ((p + k : Nat) : Int)), some (vB false), some (vB true), some (vI 4), some (vI (k : Int))] [] σ Q := by
  have fin : ∀ (k : Nat) (σ : mm_Mem), p + k ≤ n → (p + k = n ∨ ¬ isDg (r (p + k)) = true) → (∀ i, i < k → isDg (r (p + i)) = true) → σ 140 6 = dvN r p (min k 4) → (σ 140 8, σ 140 9) = blP f0 (4 < k) ((p + 4 : Nat) : Int) → (∀ o, o ≠ 140 → σ o = τ o) → (∀ i, i ≠ 5 → i ≠ 6 → i ≠ 8 → i ≠ 9 → σ 140 i = τ 140 i) → Q none (wr σ 140 5 ((p + k : Nat) : Int)) := fun k σ h1 h2 h3 h7 h8 F G => by
    have er : rnB isDg r (n - p) p = p + k := (rnB_add k h1 h3).trans (rnB_stop h2)
    refine k1 _ (by rw [wr_same, er]) ?_ ?_ (fun o ho => by rw [wr_obj ho]; exact F o ho) (fun i a b c e => by rw [wr_row a]; exact G i a b c e)
    · rw [wr_row (by omega), er, show p + k - p = k by omega]; exact h7
    · rw [wr_row (by omega), wr_row (by omega), er, h8]
      unfold blP
      by_cases q : f0.1 = 0 ∧ 4 < k
      · rw [if_pos q, if_pos ⟨q.1, by omega⟩]
      · rw [if_neg q, if_neg (fun z => q ⟨z.1, by omega⟩)]
  intro c
  induction c with
  | zero =>
    intro k σ hk hl T h2 h7 h8 F G
    refine bX11_ahead_200 ⟨⟨by omega, by omega⟩, fun _ => fin k σ (by omega) (Or.inl (by omega)) hl h7 h8 F G, fun q => ?_⟩
    rw [h2] at q; omega
  | succ c ih =>
    intro k σ hk hl T h2 h7 h8 F G
    have rb := hr (p + k)
    have e8 : 0 ≤ σ 140 8 := by
      have : σ 140 8 = (blP f0 (4 < k) ((p + 4 : Nat) : Int)).1 := by rw [← h8]
      rw [this]; unfold blP; split
      · show (0 : Int) ≤ 1; omega
      · exact f00
    refine bX11_ahead_200 ⟨⟨by omega, by omega⟩, fun q => by rw [h2] at q; omega, fun _ => ⟨fun _ => ⟨by omega, by omega, ?_⟩, fun q => (by cases q)⟩⟩
    rw [Int.toNat_natCast, T _ (by omega)]
    refine m_isDg ⟨by omega, by omega⟩ ⟨_, rfl, fun q => fin k σ (by omega) (Or.inr (by rw [q]; decide)) hl h7 h8 F G, fun q => ?_⟩
    have hl' : ∀ i, i < k + 1 → isDg (r (p + i)) = true := fun i hi => by
      by_cases e : i = k
      · rw [e]; exact q
      · exact hl i (by omega)
    have lk := isDg_t.mp q
    have ek : ((p + k : Nat) : Int) + 1 = ((p + (k + 1) : Nat) : Int) := by omega
    have ek2 : (k : Int) + 1 = ((k + 1 : Nat) : Int) := by omega
    -- the values are small
    have dk : ∀ m, m ≤ k → 0 ≤ dvN r p m ∧ dvN r p m + 1 ≤ 10 ^ m := by
      intro m
      induction m with
      | zero => intro _; exact ⟨Int.le_refl _, by show (0 : Int) + 1 ≤ 1; omega⟩
      | succ m im =>
        intro hm
        have i1 := im (by omega)
        have := isDg_t.mp (hl m (by omega))
        rw [dvN, Int.pow_succ]
        generalize (10 : Int) ^ m = z at i1
        omega
    -- behind the blame
    have nx : ∀ σ' : mm_Mem, σ' 140 6 = dvN r p (min k 4) → (σ' 140 8, σ' 140 9) = blP f0 (4 < k + 1) ((p + 4 : Nat) : Int) → (∀ o, o ≠ 140 → σ' o = σ o) → (∀ i, i ≠ 5 → i ≠ 6 → i ≠ 8 → i ≠ 9 → σ' 140 i = σ 140 i) → V0 E (d + 1) qX11_ahead 282 [some (vR 140), some (vI ((p + k : Nat) : Int)), some (vB false), some (vB true), some (vI 4), some (vI (k : Int))] [] σ' Q := fun σ' g7 g8 F' G' => by
      have go : ∀ σ2 : mm_Mem, σ2 140 6 = dvN r p (min (k + 1) 4) → (∀ o, o ≠ 140 → σ2 o = σ' o) → (∀ i, i ≠ 6 → σ2 140 i = σ' 140 i) → V0 E (d + 1) qX11_ahead 200 [some (vR 140), some (vI (((p + k : Nat) : Int) + 1)), some (vB false), some (vB true), some (vI 4), some (vI ((k : Int) + 1))] [] σ2 Q := fun σ2 e6 F2 G2 => by
        have go := ih (k + 1) σ2 (by omega) hl' (fun i hi => by rw [F2 141 (by omega), F' 141 (by omega)]; exact T i hi) (by rw [G2 2 (by omega), G' 2 (by omega) (by omega) (by omega) (by omega)]; exact h2) e6 (by rw [G2 8 (by omega), G2 9 (by omega)]; exact g8) (fun o ho => by rw [F2 o ho, F' o ho, F o ho]) (fun i a b c e => by rw [G2 i b, G' i a b c e, G i a b c e])
        rw [← ek, ← ek2] at go
        exact go
      refine bX11_ahead_282 ⟨⟨by omega, by omega⟩, ⟨by omega, by omega⟩, fun z => go σ' (by rw [g7, show min k 4 = min (k + 1) 4 by omega]) (fun _ _ => rfl) (fun _ _ => rfl), fun z => ⟨fun y => (by cases y), fun _ => ⟨by omega, by omega, ?_⟩⟩⟩
      rw [Int.toNat_natCast, F' 141 (by omega), T _ (by omega), g7, show min k 4 = k by omega]
      have d1 := dk k (Nat.le_refl _)
      have : (10 : Int) ^ k ≤ 10 ^ 4 := by
        have h1 : (10 : Nat) ^ k ≤ 10 ^ 4 := Nat.pow_le_pow_right (by omega) (by omega)
        have h2 : ((10 ^ k : Nat) : Int) ≤ ((10 ^ 4 : Nat) : Int) := Int.ofNat_le.mpr h1
        rw [Int.natCast_pow, Int.natCast_pow] at h2
        exact h2
      generalize (10 : Int) ^ k = z at d1 this
      refine ⟨⟨by omega, by omega⟩, go _ ?_ (fun o ho => wr_obj ho) (fun i a => wr_row a)⟩
      rw [wr_same, show min (k + 1) 4 = k + 1 by omega, dvN]; omega
    have sm : k ≠ 4 → blP f0 (4 < k) ((p + 4 : Nat) : Int) = blP f0 (4 < k + 1) ((p + 4 : Nat) : Int) := fun z => by
      unfold blP
      by_cases y : f0.1 = 0 ∧ 4 < k
      · rw [if_pos y, if_pos ⟨y.1, by omega⟩]
      · rw [if_neg y, if_neg (fun w => y ⟨w.1, by omega⟩)]
    refine bX11_ahead_239 ⟨⟨by omega, by omega⟩, ⟨by omega, by omega⟩, fun z => ⟨fun z2 => ?_, fun z2 => ⟨fun _ => ?_, fun y => (by cases y)⟩⟩, fun z => ?_⟩
    · exact nx σ h7 (by rw [h8]; exact sm (by omega)) (fun _ _ => rfl) (fun _ _ _ _ _ => rfl)
    · exact nx σ h7 (by rw [h8]; exact sm (by omega)) (fun _ _ => rfl) (fun _ _ _ _ _ => rfl)
    · have k6 : k = 4 := by omega
      subst k6
      refine m_blame (f := blP f0 (4 < 4) ((p + 4 : Nat) : Int)) h8 (by rw [← h8]; exact e8) ⟨by omega, by omega⟩ ⟨by omega, by omega⟩ (fun σ' g8 F' G' => ⟨rfl, fun _ => ?_, fun y => by omega⟩)
      refine nx σ' ?_ ?_ F' (fun i _ _ c e => G' i c e)
      · rw [G' 6 (by omega) (by omega), h7]
      · rw [g8]
        unfold blP
        rw [if_neg (fun z : f0.1 = 0 ∧ 4 < 4 => by omega)]
        by_cases y : f0.1 = 0
        · rw [if_pos y, if_pos ⟨y, by omega⟩]
        · rw [if_neg y, if_neg (fun w => y w.1)]
/-- the text, to the reference -/
def txM (r : Nat → Int) (n : Nat) (τ : mm_Mem) : Prop := (∀ i, i < 1600 → τ 141 i = r i) ∧ τ 140 2 = (n : Int)
theorem txM.fr {τ' : mm_Mem} (T : txM r n τ) (F : frA τ τ') : txM r n τ' := ⟨fun i hi => by rw [F.1 141 (by omega)]; exact T.1 i hi, by rw [F.2 2 (by omega)]; exact T.2⟩
theorem m_ah41 {p : Nat} {T : Nat × Nat × Int × Nat} (hn : n ≤ 1600) (hr : ∀ i, 0 ≤ r i ∧ r i ≤ 255) (hp : p ≤ n) (X : txM r n τ) (W : wdM τ) (h8 : τ 140 8 = 0) (eT : T = tk1 r n p) (kg : T.1 ≠ 1 → ∀ τ' : mm_Mem, τ' 140 3 = rfK T.1 → τ' 140 4 = (T.2.1 : Int) → τ' 140 5 = (T.2.2.2 : Int) → (T.1 = 2 ∨ T.1 = 3 → τ' 140 6 = T.2.2.1) → (T.1 = 4 → τ' 140 7 = T.2.2.1 ∧ τ' 140 6 = 0) → τ' 140 8 = 0 → wdM τ' → frA τ τ' → Q none τ') (kb : T.1 = 1 → ∀ τ' : mm_Mem, τ' 140 8 = 1 → τ' 140 9 = (T.2.1 : Int) → wdM τ' → frA τ τ' → Q none τ') : V0 E (d + 1) qX11_ahead 41 [some (vR 140), some (vI (p : Int)), none, none, none, none] [] τ Q := by
  obtain ⟨X1, X2⟩ := X
  refine bX11_ahead_41 ⟨⟨by omega, by omega⟩, fun q => ?_, fun q => ?_⟩
  · rw [X2] at q
    have rb := hr p
    have an_r : ∀ x, isAN (r x) = (isLt (r x) || isDg (r x)) := fun x => rfl
    -- from 131 on, with the fault so far
    have go : ∀ (σ : mm_Mem) (f : Int × Int), (f = (0, τ 140 9) ∨ f = (1, (p : Int))) → (isAN (r p) = false → f.1 = 0) → (f.1 = 0 ↔ ¬ (isAN (r p) = true ∧ 0 < p ∧ isAN (r (p - 1)) = true)) → σ 140 4 = (p : Int) → (σ 140 8, σ 140 9) = f → wdM σ → frA τ σ → V0 E (d + 1) qX11_ahead 131 [some (vR 140), some (vI (p : Int)), some (vB (isLt (r p))), some (vB (isDg (r p))), none, none] [] σ Q := fun σ f hf hs ha s4 s8 W' F => by
      have f0 : 0 ≤ f.1 := by
        rcases hf with e | e
        · rw [e]; exact Int.le_refl 0
        · rw [e]; exact Int.zero_le_ofNat 1
      have se8 : σ 140 8 = f.1 := by rw [← s8]
      have se9 : σ 140 9 = f.2 := by rw [← s8]
      have T1 : ∀ i, i < 1600 → σ 141 i = r i := fun i hi => by rw [F.1 141 (by omega)]; exact X1 i hi
      have T2 : σ 140 2 = (n : Int) := by rw [F.2 2 (by omega)]; exact X2
      refine bX11_ahead_131 ⟨⟨by omega, by omega⟩, fun lt => ?_, fun lt => ⟨fun dg => ?_, fun dg => ?_⟩⟩
      · have an : isAN (r p) = true := isAN_t.mpr (Or.inl lt)
        have ndg : isDg (r p) = false := by
          have := isLt_t.mp lt
          unfold isDg; exact decide_eq_false (by omega)
        rw [lt, ndg]
        refine bX11_ahead_172 ⟨fun y => (by cases y), fun _ => ⟨fun y => (by cases y), fun _ => ?_⟩⟩
        have l := m_wordL (E := E) (d := d) (Q := Q) (τ := wr (wr (wr (wr (wr σ 140 6 0) 140 7 0) 140 3 3) 140 5 ((p : Int) + 1)) 140 3 1) (p := p) (f0 := f) hn hr f0 (fun τ' t5 t7 t8 F' G' => ?_) (n - p) 0 (wr (wr (wr (wr (wr σ 140 6 0) 140 7 0) 140 3 3) 140 5 ((p : Int) + 1)) 140 3 1) (by omega) (fun i hi => by omega) (fun i hi => by rw [wr_obj (by omega), wr_obj (by omega), wr_obj (by omega), wr_obj (by omega), wr_obj (by omega)]; exact T1 i hi) (by rw [wr_row (by omega), wr_row (by omega), wr_row (by omega), wr_row (by omega), wr_row (by omega)]; exact T2) (by rw [wr_row (by omega), wr_row (by omega), wr_row (by omega), wr_same]; rfl) (by rw [wr_row (by omega), wr_row (by omega), wr_row (by omega), wr_row (by omega), wr_row (by omega), wr_row (by omega), wr_row (by omega), wr_row (by omega), wr_row (by omega), wr_row (by omega), s8]; unfold blP; rw [if_neg (fun z => by omega)]) (fun _ _ => rfl) (fun _ _ _ _ _ => rfl)
        · exact l
        · have Fr : frA τ τ' := by
            refine ⟨fun o ho => ?_, fun i hi => ?_⟩
            · rw [F' o ho, wr_obj ho, wr_obj ho, wr_obj ho, wr_obj ho, wr_obj ho]; exact F.1 o ho
            · rw [G' i (by omega) (by omega) (by omega) (by omega), wr_row (by omega), wr_row (by omega), wr_row (by omega), wr_row (by omega), wr_row (by omega)]; exact F.2 i hi
          have g3 : τ' 140 3 = 1 := by rw [G' 3 (by omega) (by omega) (by omega) (by omega), wr_same]
          have g4 : τ' 140 4 = (p : Int) := by rw [G' 4 (by omega) (by omega) (by omega) (by omega), wr_row (by omega), wr_row (by omega), wr_row (by omega), wr_row (by omega), wr_row (by omega)]; exact s4
          have br := rnB_r isLt r (n - p) p
          have bin := rnB_in isLt r (n - p) p
          have Wn : wdM τ' := blP_w hf W h8 t8
          have e8 : τ' 140 8 = (blP f (p + 6 < rnB isLt r (n - p) p) ((p + 6 : Nat) : Int)).1 := by rw [← t8]
          have e9 : τ' 140 9 = (blP f (p + 6 < rnB isLt r (n - p) p) ((p + 6 : Nat) : Int)).2 := by rw [← t8]
          have eT1 : T = if 0 < p ∧ isAN (r (p - 1)) = true then (1, p, 0, p) else (if p + 6 < rnB isLt r (n - p) p then (1, p + 6, 0, p) else (4, p, ((pkN 256 (byF r p) (rnB isLt r (n - p) p - p) : Nat) : Int), rnB isLt r (n - p) p)) := by
            rw [eT]; unfold tk1; rw [if_neg (by omega), if_neg (by rw [an]; decide), if_pos lt]
          by_cases ad : 0 < p ∧ isAN (r (p - 1)) = true
          · rw [if_pos ad] at eT1
            have ef : f = (1, (p : Int)) := by
              rcases hf with e | e
              · have := ha.mp (by rw [e]); exact absurd ⟨an, ad⟩ this
              · exact e
            have eb : blP f (p + 6 < rnB isLt r (n - p) p) ((p + 6 : Nat) : Int) = f := by unfold blP; rw [if_neg (fun z => by rw [ef] at z; exact absurd z.1 (show ¬ (1 : Int) = 0 by omega))]
            rw [eb, ef] at e8 e9
            exact kb (by rw [eT1]) τ' e8 (by rw [eT1]; exact e9) Wn Fr
          · rw [if_neg ad] at eT1
            have ef : f.1 = 0 := ha.mpr (fun z => ad z.2)
            by_cases q6 : p + 6 < rnB isLt r (n - p) p
            · rw [if_pos q6] at eT1
              have eb : blP f (p + 6 < rnB isLt r (n - p) p) ((p + 6 : Nat) : Int) = (1, ((p + 6 : Nat) : Int)) := by unfold blP; rw [if_pos ⟨ef, q6⟩]
              rw [eb] at e8 e9
              exact kb (by rw [eT1]) τ' e8 (by rw [eT1]; exact e9) Wn Fr
            · rw [if_neg q6] at eT1
              have eb : blP f (p + 6 < rnB isLt r (n - p) p) ((p + 6 : Nat) : Int) = f := by unfold blP; rw [if_neg (fun z => q6 z.2)]
              rw [eb, ef] at e8
              refine kg (by rw [eT1]; show (4 : Nat) ≠ 1; omega) τ' (by rw [g3, eT1]; rfl) (by rw [g4, eT1]) (by rw [t5, eT1]) (fun z => ?_) (fun _ => ?_) e8 Wn Fr
              · rw [eT1] at z; exact absurd z (by show ¬ ((4 : Nat) = 2 ∨ (4 : Nat) = 3); omega)
              · rw [t7, eT1, show min (rnB isLt r (n - p) p - p) 6 = rnB isLt r (n - p) p - p by omega]
                refine ⟨rfl, ?_⟩
                rw [G' 6 (by omega) (by omega) (by omega) (by omega), wr_row (by omega), wr_row (by omega), wr_row (by omega), wr_row (by omega), wr_same]
      · have an : isAN (r p) = true := isAN_t.mpr (Or.inr dg)
        rw [lt, dg]
        refine bX11_ahead_172 ⟨fun _ => ⟨fun _ => ?_, fun y => (by cases y)⟩, fun y => (by cases y)⟩
        have l := m_digL (E := E) (d := d) (Q := Q) (τ := wr (wr (wr (wr (wr σ 140 6 0) 140 7 0) 140 3 3) 140 5 ((p : Int) + 1)) 140 3 2) (p := p) (f0 := f) hn hr f0 (fun τ' t5 t7 t8 F' G' => ?_) (n - p) 0 (wr (wr (wr (wr (wr σ 140 6 0) 140 7 0) 140 3 3) 140 5 ((p : Int) + 1)) 140 3 2) (by omega) (fun i hi => by omega) (fun i hi => by rw [wr_obj (by omega), wr_obj (by omega), wr_obj (by omega), wr_obj (by omega), wr_obj (by omega)]; exact T1 i hi) (by rw [wr_row (by omega), wr_row (by omega), wr_row (by omega), wr_row (by omega), wr_row (by omega)]; exact T2) (by rw [wr_row (by omega), wr_row (by omega), wr_row (by omega), wr_row (by omega), wr_same]; rfl) (by rw [wr_row (by omega), wr_row (by omega), wr_row (by omega), wr_row (by omega), wr_row (by omega), wr_row (by omega), wr_row (by omega), wr_row (by omega), wr_row (by omega), wr_row (by omega), s8]; unfold blP; rw [if_neg (fun z => by omega)]) (fun _ _ => rfl) (fun _ _ _ _ _ => rfl)
        · exact l
        · have Fr : frA τ τ' := by
            refine ⟨fun o ho => ?_, fun i hi => ?_⟩
            · rw [F' o ho, wr_obj ho, wr_obj ho, wr_obj ho, wr_obj ho, wr_obj ho]; exact F.1 o ho
            · rw [G' i (by omega) (by omega) (by omega) (by omega), wr_row (by omega), wr_row (by omega), wr_row (by omega), wr_row (by omega), wr_row (by omega)]; exact F.2 i hi
          have g3 : τ' 140 3 = 2 := by rw [G' 3 (by omega) (by omega) (by omega) (by omega), wr_same]
          have g4 : τ' 140 4 = (p : Int) := by rw [G' 4 (by omega) (by omega) (by omega) (by omega), wr_row (by omega), wr_row (by omega), wr_row (by omega), wr_row (by omega), wr_row (by omega)]; exact s4
          have Wn : wdM τ' := blP_w hf W h8 t8
          have br := rnB_r isDg r (n - p) p
          have e8 : τ' 140 8 = (blP f (p + 4 < rnB isDg r (n - p) p) ((p + 4 : Nat) : Int)).1 := by rw [← t8]
          have e9 : τ' 140 9 = (blP f (p + 4 < rnB isDg r (n - p) p) ((p + 4 : Nat) : Int)).2 := by rw [← t8]
          have eT1 : T = if 0 < p ∧ isAN (r (p - 1)) = true then (1, p, 0, p) else (if p + 4 < rnB isDg r (n - p) p then (1, p + 4, 0, p) else (3, p, dvN r p (rnB isDg r (n - p) p - p), rnB isDg r (n - p) p)) := by
            rw [eT]; unfold tk1; rw [if_neg (by omega), if_neg (by rw [an]; decide), if_neg (show ¬ isLt (r p) = true by rw [lt]; decide)]
          by_cases ad : 0 < p ∧ isAN (r (p - 1)) = true
          · rw [if_pos ad] at eT1
            have ef : f = (1, (p : Int)) := by
              rcases hf with e | e
              · have := ha.mp (by rw [e]); exact absurd ⟨an, ad⟩ this
              · exact e
            have eb : blP f (p + 4 < rnB isDg r (n - p) p) ((p + 4 : Nat) : Int) = f := by unfold blP; rw [if_neg (fun z => by rw [ef] at z; exact absurd z.1 (show ¬ (1 : Int) = 0 by omega))]
            rw [eb, ef] at e8 e9
            exact kb (by rw [eT1]) τ' e8 (by rw [eT1]; exact e9) Wn Fr
          · rw [if_neg ad] at eT1
            have ef : f.1 = 0 := ha.mpr (fun z => ad z.2)
            by_cases q6 : p + 4 < rnB isDg r (n - p) p
            · rw [if_pos q6] at eT1
              have eb : blP f (p + 4 < rnB isDg r (n - p) p) ((p + 4 : Nat) : Int) = (1, ((p + 4 : Nat) : Int)) := by unfold blP; rw [if_pos ⟨ef, q6⟩]
              rw [eb] at e8 e9
              exact kb (by rw [eT1]) τ' e8 (by rw [eT1]; exact e9) Wn Fr
            · rw [if_neg q6] at eT1
              have eb : blP f (p + 4 < rnB isDg r (n - p) p) ((p + 4 : Nat) : Int) = f := by unfold blP; rw [if_neg (fun z => q6 z.2)]
              rw [eb, ef] at e8
              refine kg (by rw [eT1]; show (3 : Nat) ≠ 1; omega) τ' (by rw [g3, eT1]; rfl) (by rw [g4, eT1]) (by rw [t5, eT1]) (fun _ => ?_) (fun z => ?_) e8 Wn Fr
              · rw [t7, eT1, show min (rnB isDg r (n - p) p - p) 4 = rnB isDg r (n - p) p - p by omega]
              · rw [eT1] at z; exact absurd z (by show ¬ (3 : Nat) = 4; omega)
      · have an : isAN (r p) = false := by rw [an_r, lt, dg]; rfl
        have ef := hs an
        have eT1 : T = (2, p, r p, p + 1) := by rw [eT]; unfold tk1; rw [if_neg (by omega), if_pos an]
        rw [Int.toNat_natCast, T1 _ (by omega)]
        refine ⟨by omega, by omega, kg (by rw [eT1]; show (2 : Nat) ≠ 1; omega) _ ?_ ?_ ?_ (fun _ => by rw [wr_same, eT1]) (fun z => ?_) ?_ ?_ ?_⟩
        · rw [wr_row (by omega), wr_row (by omega), wr_same, eT1]; rfl
        · rw [wr_row (by omega), wr_row (by omega), wr_row (by omega), wr_row (by omega), wr_row (by omega), s4, eT1]
        · rw [wr_row (by omega), wr_same, eT1]; show (p : Int) + 1 = ((p + 1 : Nat) : Int); omega
        · rw [eT1] at z; exact absurd z (by show ¬ (2 : Nat) = 4; omega)
        · rw [wr_row (by omega), wr_row (by omega), wr_row (by omega), wr_row (by omega), wr_row (by omega), se8, ef]
        · intro _
          rw [wr_row (by omega), wr_row (by omega), wr_row (by omega), wr_row (by omega), wr_row (by omega), se9]
          rcases hf with e | e
          · rw [e]; exact W h8
          · rw [e] at ef; exact absurd ef (show ¬ (1 : Int) = 0 by omega)
        · exact ((((F.w (by omega)).w (by omega)).w (by omega)).w (by omega)).w (by omega)
    have F0 : frA τ (wr (wr (wr τ 140 4 (p : Int)) 140 5 (p : Int)) 140 3 0) := ((frA.rf.w (by omega)).w (by omega)).w (by omega)
    have z4 : wr (wr (wr τ 140 4 (p : Int)) 140 5 (p : Int)) 140 3 0 140 4 = (p : Int) := by rw [wr_row (by omega), wr_row (by omega), wr_same]
    have z8 : wr (wr (wr τ 140 4 (p : Int)) 140 5 (p : Int)) 140 3 0 140 8 = 0 := by rw [wr_row (by omega), wr_row (by omega), wr_row (by omega)]; exact h8
    have z9 : wr (wr (wr τ 140 4 (p : Int)) 140 5 (p : Int)) 140 3 0 140 9 = τ 140 9 := by rw [wr_row (by omega), wr_row (by omega), wr_row (by omega)]
    have zW : wdM (wr (wr (wr τ 140 4 (p : Int)) 140 5 (p : Int)) 140 3 0) := fun _ => by rw [wr_row (by omega), wr_row (by omega), wr_row (by omega)]; exact W h8
    generalize wr (wr (wr τ 140 4 (p : Int)) 140 5 (p : Int)) 140 3 0 = σ at F0 z4 z8 z9 zW
    have T1 : ∀ i, i < 1600 → σ 141 i = r i := fun i hi => by rw [F0.1 141 (by omega)]; exact X1 i hi
    -- the check of the sign before
    have ad93 : isAN (r p) = true → V0 E (d + 1) qX11_ahead 93 [some (vR 140), some (vI (p : Int)), some (vB (isLt (r p))), some (vB (isDg (r p))), none, none] [] σ Q := fun an => by
      have na : ¬ (isAN (r p) = true ∧ 0 < p ∧ isAN (r (p - 1)) = true) → V0 E (d + 1) qX11_ahead 131 [some (vR 140), some (vI (p : Int)), some (vB (isLt (r p))), some (vB (isDg (r p))), none, none] [] σ Q := fun z => go σ (0, τ 140 9) (Or.inl rfl) (fun _ => rfl) ⟨fun _ => z, fun _ => rfl⟩ z4 (by rw [z8, z9]) zW F0
      have ya : 0 < p → isAN (r (p - 1)) = true → M0 E d qX11_blame [vR 140, vI 1, vI (p : Int)] σ (fun v τ7 => v = none ∧ V0 E (d + 1) qX11_ahead 131 [some (vR 140), some (vI (p : Int)), some (vB (isLt (r p))), some (vB (isDg (r p))), none, none] [] τ7 Q) := fun p0 z =>
        m_blame (f := (0, τ 140 9)) (by rw [z8, z9]) (Int.le_refl 0) ⟨by omega, by omega⟩ ⟨by omega, by omega⟩ (fun σ' g8 F' G' => ⟨rfl, go σ' (1, (p : Int)) (Or.inr rfl) (fun y => by rw [an] at y; cases y) ⟨fun y => absurd y (show ¬ (1 : Int) = 0 by omega), fun y => absurd ⟨an, p0, z⟩ y⟩ (by rw [G' 4 (by omega) (by omega)]; exact z4) (by rw [g8]; rfl) (fun q => by have h := congrArg Prod.fst g8; rw [if_pos rfl] at h; have h : σ' 140 8 = 1 := h; omega) (F0.tr ⟨F', fun i hi => G' i (by omega) (by omega)⟩)⟩)
      have rb1 := hr (p - 1)
      refine bX11_ahead_93 ⟨⟨by omega, by omega⟩, fun z => na (fun y => by omega), fun z => ⟨by omega, by omega, ?_⟩⟩
      rw [show ((p : Int) - 1).toNat = p - 1 by omega, T1 _ (by omega)]
      refine m_isLt ⟨by omega, by omega⟩ ⟨_, rfl, fun y => ya (by omega) (isAN_t.mpr (Or.inl y)), fun y => ⟨by omega, by omega, ?_⟩⟩
      rw [T1 _ (by omega)]
      refine m_isDg ⟨by omega, by omega⟩ ⟨_, rfl, fun y2 => na (fun w => ?_), fun y2 => ya (by omega) (isAN_t.mpr (Or.inr y2))⟩
      have := w.2.2
      rw [an_r, y, y2] at this; cases this
    rw [Int.toNat_natCast, X1 _ (by omega)]
    refine ⟨by omega, by omega, m_isLt ⟨by omega, by omega⟩ ⟨_, rfl, by omega, by omega, ?_⟩⟩
    rw [T1 _ (by omega)]
    refine m_isDg ⟨by omega, by omega⟩ ⟨_, rfl, fun y => ad93 (isAN_t.mpr (Or.inl y)), fun y => ⟨fun y2 => ?_, fun y2 => ad93 (isAN_t.mpr (Or.inr y2))⟩⟩
    have an : isAN (r p) = false := by rw [an_r, y, y2]; rfl
    exact go σ (0, τ 140 9) (Or.inl rfl) (fun _ => rfl) ⟨fun _ w => by rw [an] at w; exact absurd w.1 (by decide), fun _ => rfl⟩ z4 (by rw [z8, z9]) zW F0
  · rw [X2] at q
    have ep : p = n := by omega
    subst ep
    have eT1 : T = (0, p, 0, p) := by rw [eT]; unfold tk1; rw [if_pos (Nat.le_refl _)]
    refine kg (by rw [eT1]; show (0 : Nat) ≠ 1; omega) _ ?_ ?_ ?_ (fun z => ?_) (fun z => ?_) ?_ ?_ (((frA.rf.w (by omega)).w (by omega)).w (by omega))
    · rw [wr_same, eT1]; rfl
    · rw [wr_row (by omega), wr_row (by omega), wr_same, eT1]
    · rw [wr_row (by omega), wr_same, eT1]
    · rw [eT1] at z; exact absurd z (by show ¬ ((0 : Nat) = 2 ∨ (0 : Nat) = 3); omega)
    · rw [eT1] at z; exact absurd z (by show ¬ (0 : Nat) = 4; omega)
    · rw [wr_row (by omega), wr_row (by omega), wr_row (by omega)]; exact h8
    · exact fun _ => by rw [wr_row (by omega), wr_row (by omega), wr_row (by omega)]; exact W h8
theorem m_ah5 (hn : n ≤ 1600) (hr : ∀ i, 0 ≤ r i ∧ r i ≤ 255) (X : txM r n τ) : ∀ (c a : Nat), a + c = n → V0 E (d + 1) qX11_ahead 41 [some (vR 140), some (vI (skB r (n - a) a : Nat)), none, none, none, none] [] τ Q → V0 E (d + 1) qX11_ahead 5 [some (vR 140), some (vI (a : Int)), none, none, none, none] [] τ Q
  | 0, a, ha, k1 => by
    have e : n - a = 0 := by omega
    rw [e] at k1
    refine bX11_ahead_5 ⟨⟨by omega, by omega⟩, fun _ => k1, fun q => ?_⟩
    rw [X.2] at q; omega
  | c + 1, a, ha, k1 => by
    refine bX11_ahead_5 ⟨⟨by omega, by omega⟩, fun q => by rw [X.2] at q; omega, fun _ => ⟨by omega, by omega, ?_⟩⟩
    rw [Int.toNat_natCast, X.1 a (by omega)]
    have go : (r a = 32 ∨ r a = 10) → V0 E (d + 1) qX11_ahead 5 [some (vR 140), some (vI ((a : Int) + 1)), none, none, none, none] [] τ Q := fun q => by
      rw [show (a : Int) + 1 = ((a + 1 : Nat) : Int) by omega]
      rw [skB_bl (by omega) q] at k1
      exact m_ah5 hn hr X c (a + 1) (by omega) k1
    refine ⟨fun q => go (Or.inl q), fun q => ⟨by omega, by omega, fun q2 => ?_, fun q2 => go (Or.inr q2)⟩⟩
    rw [skB_no (by omega)] at k1; exact k1
theorem m_ahead {a : Nat} (hn : n ≤ 1600) (hr : ∀ i, 0 ≤ r i ∧ r i ≤ 255) (ha : a ≤ n) (X : txM r n τ) (W : wdM τ) (h8 : τ 140 8 = 0) (h5 : τ 140 5 = (a : Int)) (kg : (tk r n a).1 ≠ 1 → ∀ τ', TokM r n a τ' → τ' 140 8 = 0 → wdM τ' → frA τ τ' → Q none τ') (kb : (tk r n a).1 = 1 → ∀ τ' : mm_Mem, τ' 140 8 = 1 → τ' 140 9 = ((tk r n a).2.1 : Int) → wdM τ' → frA τ τ' → Q none τ') : M0 E (d + 1) qX11_ahead [vR 140] τ Q := by
  have s := skB_r r (n - a) a
  refine mX11_ahead ?_
  rw [h5]
  refine m_ah5 hn hr X (n - a) a (by omega) ?_
  exact m_ah41 (T := tk r n a) hn hr (by omega) X W h8 rfl (fun z τ' a1 a2 a3 a4 a5 a6 a7 a8 => kg z τ' ⟨a1, a2, a3, a4, a5⟩ a6 a7 a8) kb
end Ahead
