/-! the class splits the text -/
def tkC (r : Nat → Int) (n i : Nat) (τ : mm_Mem) : Prop := τ 73 i = ckd (tk r n (tkE r n i)) ∧ τ 74 i = ((tk r n (tkE r n i)).2.1 : Int) ∧ τ 75 i = cvl (tk r n (tkE r n i))
/-- all tokens to the first that ends -/
def TokC (r : Nat → Int) (n : Nat) (τ : mm_Mem) : Prop := ∃ m : Nat, m ≤ 1600 ∧ τ 72 3 = ((m + 1 : Nat) : Int) ∧ (∀ i, i ≤ m → tkC r n i τ) ∧ (∀ i, i < m → 2 ≤ (tk r n (tkE r n i)).1) ∧ (tk r n (tkE r n m)).1 ≤ 1
/-- the tokens so far -/
def TokJ (r : Nat → Int) (n j : Nat) (τ : mm_Mem) : Prop := τ 72 3 = (j : Int) ∧ (∀ i, i < j → tkC r n i τ) ∧ ∀ i, i < j → 2 ≤ (tk r n (tkE r n i)).1
def frT (τ τ' : mm_Mem) : Prop := (∀ o, o ≠ 72 → o ≠ 73 → o ≠ 74 → o ≠ 75 → τ' o = τ o) ∧ ∀ i, i ≠ 3 → i ≠ 5 → τ' 72 i = τ 72 i
theorem frT.rf {τ : mm_Mem} : frT τ τ := ⟨fun _ _ _ _ _ => rfl, fun _ _ _ => rfl⟩
theorem frT.tr {a b c : mm_Mem} (h : frT a b) (h' : frT b c) : frT a c := ⟨fun o x y z w => (h'.1 o x y z w).trans (h.1 o x y z w), fun i x y => (h'.2 i x y).trans (h.2 i x y)⟩
theorem skB_bl {r : Nat → Int} {n a : Nat} (ha : a < n) (h : r a = 32 ∨ r a = 10) : skB r (n - a) a = skB r (n - (a + 1)) (a + 1) := by
  rw [show n - a = (n - (a + 1)) + 1 by omega, skB, if_pos h]
theorem skB_no {r : Nat → Int} {n a : Nat} (h : ¬ (r a = 32 ∨ r a = 10)) : skB r (n - a) a = a := by
  generalize n - a = c
  cases c with
  | zero => rfl
  | succ c => rw [skB, if_neg h]
section Split
variable {E : mm_Env} {d : Nat} {τ : mm_Mem} {Q : mm_Q0} {r : Nat → Int} {n : Nat}
theorem c_isLt {a : Int} (ha : inR a) (k1 : Q (some (vB (isLt a))) τ) : M0 E d qX6_isLetter [vI a] τ Q := by
  unfold isLt at k1
  refine mX6_isLetter ⟨ha, fun q => ?_, fun q => ⟨fun q2 => ?_, fun q2 => ?_⟩⟩
  · rw [decide_eq_false (by omega)] at k1; exact k1
  · rw [decide_eq_false (by omega)] at k1; exact k1
  · rw [decide_eq_true (by omega)] at k1; exact k1
theorem c_isDg {a : Int} (ha : inR a) (k1 : Q (some (vB (isDg a))) τ) : M0 E d qX6_isDigit [vI a] τ Q := by
  unfold isDg at k1
  refine mX6_isDigit ⟨ha, fun q => ?_, fun q => ⟨fun q2 => ?_, fun q2 => ?_⟩⟩
  · rw [decide_eq_false (by omega)] at k1; exact k1
  · rw [decide_eq_false (by omega)] at k1; exact k1
  · rw [decide_eq_true (by omega)] at k1; exact k1
theorem c_add {j : Nat} {a0 a1 a2 : Int} (J : TokJ r n j τ) (hj : j ≤ 1600) (h0 : inR a0) (h1 : inR a1) (h2 : inR a2) (e0 : a0 = ckd (tk r n (tkE r n j))) (e1 : a1 = ((tk r n (tkE r n j)).2.1 : Int)) (e2 : a2 = cvl (tk r n (tkE r n j))) (k1 : ∀ τ', τ' 72 3 = ((j + 1 : Nat) : Int) → (∀ i, i < j + 1 → tkC r n i τ') → τ' 72 5 = τ 72 5 → frT τ τ' → Q (some (vI (-1))) τ') : M0 E d qX6_add [vR 72, vI a0, vI a1, vI a2] τ Q := by
  obtain ⟨j1, j2, j3⟩ := J
  refine mX6_add ?_
  rw [j1, Int.toNat_natCast]
  refine ⟨fun q => by omega, fun _ => ⟨by omega, by omega, h0, by omega, by omega, h1, by omega, by omega, h2, ⟨by omega, by omega⟩, k1 _ ?_ (fun i hi => ?_) ?_ ⟨fun o a b c e => ?_, fun i a b => ?_⟩⟩⟩
  · rw [wr_same]; omega
  · have x3 : ∀ z : Int, wr (wr (wr (wr τ 73 j a0) 74 j a1) 75 j a2) 72 3 z 73 = wr τ 73 j a0 73 := fun z => by rw [wr_obj (by omega), wr_obj (by omega), wr_obj (by omega)]
    have x4 : ∀ z : Int, wr (wr (wr (wr τ 73 j a0) 74 j a1) 75 j a2) 72 3 z 74 i = if i = j then a1 else τ 74 i := fun z => by
      rw [wr_obj (by omega), wr_obj (by omega)]
      by_cases q : i = j
      · subst q; rw [wr_same, if_pos rfl]
      · rw [wr_row q, wr_obj (by omega), if_neg q]
    have x5 : ∀ z : Int, wr (wr (wr (wr τ 73 j a0) 74 j a1) 75 j a2) 72 3 z 75 i = if i = j then a2 else τ 75 i := fun z => by
      rw [wr_obj (by omega)]
      by_cases q : i = j
      · subst q; rw [wr_same, if_pos rfl]
      · rw [wr_row q, wr_obj (by omega), wr_obj (by omega), if_neg q]
    unfold tkC
    rw [x3, x4, x5]
    by_cases q : i = j
    · subst q
      rw [wr_same, if_pos rfl, if_pos rfl]
      exact ⟨e0, e1, e2⟩
    · rw [wr_row q, if_neg q, if_neg q]
      exact j2 i (by omega)
  · rw [wr_row (by omega), wr_obj (by omega), wr_obj (by omega), wr_obj (by omega)]
  · rw [wr_obj a, wr_obj e, wr_obj c, wr_obj b]
  · rw [wr_row a, wr_obj (by omega), wr_obj (by omega), wr_obj (by omega)]
/-- the own word's number -/
theorem c_own {p e : Nat} {v : Int} (hv : inR v) (hp : p ≤ 1600) (he : e ≤ 1600) (ow : ∀ i, i < 29 → τ 76 i = owL.getD i 0) (k1 : V0 E (d + 1) qX6_splitWord 102 [some (vR 72), none, none, some (vI (p : Int)), some (vI v), some (vI (e : Int)), some (vI (owI v)), none] [] τ Q) : ∀ (c j : Nat), j + c = 29 → owI v = fsA (fun i => decide (owL.getD i 0 = v)) c j → V0 E (d + 1) qX6_splitWord 63 [some (vR 72), none, none, some (vI (p : Int)), some (vI v), some (vI (e : Int)), some (vI (-1)), some (vI (j : Int))] [] τ Q
  | 0, j, hj, eo => by
    rw [fsA] at eo
    rw [eo] at k1
    exact bX6_splitWord_63 ⟨⟨by omega, by omega⟩, fun _ => k1, fun q => by omega⟩
  | c + 1, j, hj, eo => by
    rw [fsA] at eo
    refine bX6_splitWord_63 ⟨⟨by omega, by omega⟩, fun q => by omega, fun _ => ⟨⟨by omega, by omega⟩, fun q => absurd rfl q, fun _ => ⟨by omega, by omega, hv, ?_⟩⟩⟩
    rw [Int.toNat_natCast, ow j (by omega), show (j : Int) + 1 = ((j + 1 : Nat) : Int) by omega]
    refine ⟨fun q => ?_, fun q => ?_⟩
    · rw [if_neg (by rw [decide_eq_false q]; decide)] at eo
      exact c_own hv hp he ow k1 c (j + 1) (by omega) eo
    · rw [if_pos (decide_eq_true q)] at eo
      rw [eo] at k1
      refine bX6_splitWord_63 ⟨⟨by omega, by omega⟩, fun _ => k1, fun _ => ⟨⟨by omega, by omega⟩, fun _ => k1, fun q => by omega⟩⟩
theorem rnB_add {p : Int → Bool} {a : Nat} : ∀ k, a + k ≤ n → (∀ i, i < k → p (r (a + i)) = true) → rnB p r (n - a) a = rnB p r (n - (a + k)) (a + k)
  | 0, _, _ => rfl
  | k + 1, h, hi => by
    rw [rnB_add k (by omega) (fun i h' => hi i (by omega))]
    have e : n - (a + k) = (n - (a + (k + 1))) + 1 := by omega
    rw [e, rnB, if_pos (hi k (by omega))]; rfl
theorem rnB_stop {p : Int → Bool} {a : Nat} (h : a = n ∨ ¬ p (r a) = true) : rnB p r (n - a) a = a := by
  rcases h with h | h
  · subst h; rw [Nat.sub_self]; rfl
  · generalize n - a = c
    cases c with
    | zero => rfl
    | succ c => rw [rnB, if_neg h]
theorem TokJ.ok {j : Nat} {τ' : mm_Mem} (J : TokJ r n j τ) (k2 : 2 ≤ (tk r n (tkE r n j)).1) (h1 : τ' 72 3 = ((j + 1 : Nat) : Int)) (h2 : ∀ i, i < j + 1 → tkC r n i τ') : TokJ r n (j + 1) τ' :=
  ⟨h1, h2, fun i hi => by
    by_cases e : i = j
    · rw [e]; exact k2
    · exact J.2.2 i (by omega)⟩
theorem TokJ.bad {j : Nat} {τ' : mm_Mem} (J : TokJ r n j τ) (hj : j ≤ 1600) (k2 : (tk r n (tkE r n j)).1 ≤ 1) (h1 : τ' 72 3 = ((j + 1 : Nat) : Int)) (h2 : ∀ i, i < j + 1 → tkC r n i τ') : TokC r n τ' :=
  ⟨j, hj, h1, fun i hi => h2 i (by omega), J.2.2, k2⟩
theorem c_word102 {p j : Nat} (J : TokJ r n j τ) (hn : n ≤ 1600) (hj : j ≤ 1600) (hp : p < n) (hr : ∀ i, 0 ≤ r i ∧ r i ≤ 255) (eT : tk r n (tkE r n j) = (4, p, ((pkN 256 (byF r p) (rnB isLt r (n - p) p - p) : Nat) : Int), rnB isLt r (n - p) p)) (lt : isLt (r p) = true) (l6 : rnB isLt r (n - p) p ≤ p + 6) (k1 : ∀ τ', TokJ r n (j + 1) τ' → τ' 72 5 = τ 72 5 → frT τ τ' → Q (some (vI (rnB isLt r (n - p) p : Nat))) τ') : V0 E (d + 1) qX6_splitWord 102 [some (vR 72), none, none, some (vI (p : Int)), some (vI (nm5 ((pkN 256 (byF r p) (rnB isLt r (n - p) p - p) : Nat) : Int))), some (vI (rnB isLt r (n - p) p : Nat)), some (vI (owI (nm5 ((pkN 256 (byF r p) (rnB isLt r (n - p) p - p) : Nat) : Int)))), none] [] τ Q := by
  have b := rnB_r isLt r (n - p) p
  have b0 := rnB_pos (p := isLt) (r := r) (c := n - p) (a := p) (by omega) lt
  have bi := rnB_in isLt r (n - p) p
  have ck : ckd (tk r n (tkE r n j)) = if owI (nm5 ((pkN 256 (byF r p) (rnB isLt r (n - p) p - p) : Nat) : Int)) = -1 then 5 else 4 := by rw [eT]; rfl
  have cv : cvl (tk r n (tkE r n j)) = if owI (nm5 ((pkN 256 (byF r p) (rnB isLt r (n - p) p - p) : Nat) : Int)) = -1 then nm5 ((pkN 256 (byF r p) (rnB isLt r (n - p) p - p) : Nat) : Int) else owI (nm5 ((pkN 256 (byF r p) (rnB isLt r (n - p) p - p) : Nat) : Int)) := by rw [eT]; rfl
  have cp : ((tk r n (tkE r n j)).2.1 : Int) = (p : Int) := by rw [eT]
  have c2 : 2 ≤ (tk r n (tkE r n j)).1 := by rw [eT]; show 2 ≤ 4; omega
  generalize rnB isLt r (n - p) p = e at b b0 bi l6 ck cv k1
  have nf : nmF (byF r p) (e - p) := ⟨⟨by omega, by omega⟩, fun i hi => by
    have := isLt_t.mp (bi (p + i) (by omega) (by omega))
    unfold byF; omega⟩
  rw [nm5_pk nf] at ck cv ⊢
  obtain ⟨nr1, nr2, nr3⟩ := n5_r nf
  have owr := ow_r ((n5 (byF r p) (e - p) : Nat) : Int)
  generalize n5 (byF r p) (e - p) = v at ck cv nr1 owr ⊢
  have go : ∀ {a0 a2 : Int}, inR a0 → inR a2 → a0 = ckd (tk r n (tkE r n j)) → a2 = cvl (tk r n (tkE r n j)) → M0 E d qX6_add [vR 72, vI a0, vI (p : Int), vI a2] τ (fun w τ2 => ∃ r3 : Int, w = some (vI r3) ∧ Q (some (vI (e : Int))) τ2) := fun h0 h2 g0 g2 =>
    c_add J hj h0 ⟨by omega, by omega⟩ h2 g0 cp.symm g2 (fun τ' t1 t2 t3 t4 => ⟨_, rfl, k1 τ' (J.ok c2 t1 t2) t3 t4⟩)
  refine bX6_splitWord_102 ⟨⟨by omega, by omega⟩, fun q => ⟨fun _ => go ⟨by omega, by omega⟩ ⟨by omega, by omega⟩ (by rw [ck, if_neg q]) (by rw [cv, if_neg q]), fun z => absurd z q⟩, fun q => ⟨fun z => absurd q z, fun _ => go ⟨by omega, by omega⟩ ⟨by omega, by omega⟩ (by rw [ck, if_pos q]) (by rw [cv, if_pos q])⟩⟩
theorem c_wordL {p j : Nat} (J : TokJ r n j τ) (T : ∀ i, i < 1600 → τ 3 i = r i) (ow : ∀ i, i < 29 → τ 76 i = owL.getD i 0) (hn : n ≤ 1600) (hj : j ≤ 1600) (hp : p < n) (hr : ∀ i, 0 ≤ r i ∧ r i ≤ 255) (eT : tk r n (tkE r n j) = if p + 6 < rnB isLt r (n - p) p then (1, p + 6, 0, p) else (4, p, ((pkN 256 (byF r p) (rnB isLt r (n - p) p - p) : Nat) : Int), rnB isLt r (n - p) p)) (lt : isLt (r p) = true) (kg : 2 ≤ (tk r n (tkE r n j)).1 → ∀ τ', TokJ r n (j + 1) τ' → τ' 72 5 = τ 72 5 → frT τ τ' → Q (some (vI ((tk r n (tkE r n j)).2.2.2 : Nat))) τ') (kb : (tk r n (tkE r n j)).1 = 1 → ∀ τ', TokC r n τ' → frT τ τ' → Q (some (vI (-1))) τ') : ∀ (c k : Nat), p + k + c = n → k ≤ 6 → (∀ i, i < k → isLt (r (p + i)) = true) → V0 E (d + 1) qX6_splitWord 6 [some (vR 72), some (vR 3), some (vI (n : Int)), some (vI (p : Int)), some (vI (n5 (byF r p) k : Nat)), some (vI ((p + k : Nat) : Int)), none, none] [] τ Q := by
  have fin : ∀ k, p + k ≤ n → k ≤ 6 → (∀ i, i < k → isLt (r (p + i)) = true) → (p + k = n ∨ ¬ isLt (r (p + k)) = true) → V0 E (d + 1) qX6_splitWord 63 [some (vR 72), none, none, some (vI (p : Int)), some (vI (n5 (byF r p) k : Nat)), some (vI ((p + k : Nat) : Int)), some (vI (-1)), some (vI 0)] [] τ Q := fun k h1 h2 h3 h4 => by
    have k0 : 0 < k := by
      by_cases z : k = 0
      · subst z; rcases h4 with h4 | h4
        · omega
        · exact absurd lt h4
      · omega
    have er : rnB isLt r (n - p) p = p + k := (rnB_add k h1 h3).trans (rnB_stop h4)
    have nf : nmF (byF r p) k := ⟨⟨k0, h2⟩, fun i hi => by
      have := isLt_t.mp (h3 i hi)
      unfold byF; omega⟩
    rw [er, if_neg (by omega)] at eT
    have r5 := n5_r nf
    have e5 := nm5_pk nf
    refine c_own (v := (n5 (byF r p) k : Nat)) ⟨by omega, by omega⟩ (by omega) (by omega) ow ?_ 29 0 (by omega) rfl
    have l := c_word102 (E := E) (d := d) (Q := Q) J hn hj hp hr (by rw [er]; exact eT) lt (by omega) (fun τ' t1 t2 t3 => ?_)
    · rw [er, show p + k - p = k by omega, e5] at l
      exact l
    · have := kg (by rw [eT]; show 2 ≤ 4; omega) τ' t1 t2 t3
      rw [eT] at this
      rw [er]; exact this
  intro c
  induction c with
  | zero =>
    intro k hk h6 hl
    refine bX6_splitWord_6 (n_x1 := 1600) rfl (by omega) (by omega) ⟨⟨by omega, by omega⟩, ⟨by omega, by omega⟩, fun _ => fin k (by omega) h6 hl (Or.inl (by omega)), fun q => by omega⟩
  | succ c ih =>
    intro k hk h6 hl
    have rb := hr (p + k)
    refine bX6_splitWord_6 (n_x1 := 1600) rfl (by omega) (by omega) ⟨⟨by omega, by omega⟩, ⟨by omega, by omega⟩, fun q => by omega, fun _ => ⟨by omega, by omega, ?_⟩⟩
    rw [Int.toNat_natCast, T _ (by omega)]
    refine c_isLt ⟨by omega, by omega⟩ ⟨_, rfl, fun q => fin k (by omega) h6 hl (Or.inr (by rw [q]; decide)), fun q => ⟨⟨by omega, by omega⟩, fun z => ⟨by omega, by omega, ?_⟩, fun z => ?_⟩⟩
    · have lk := isLt_t.mp q
      rw [T _ (by omega)]
      have bd : n5 (byF r p) k < 32 ^ k := pkN_lt (by omega) k (fun i hi => by
        have := isLt_t.mp (hl i hi)
        show byF r p i - 96 < 32
        unfold byF; omega)
      have b5 : (32 : Nat) ^ k ≤ 32 ^ 5 := Nat.pow_le_pow_right (by omega) (by omega)
      refine mX6_withLetter ⟨_, rfl, ?_⟩
      rw [show (5 : Int) = ((5 : Nat) : Int) from rfl, zm_shl (by omega) (by omega)]
      have e1 : ((n5 (byF r p) k * 2 ^ 5 : Nat) : Int) + r (p + k) - 96 = ((n5 (byF r p) (k + 1) : Nat) : Int) := by
        have : n5 (byF r p) (k + 1) = n5 (byF r p) k * 32 + (byF r p k - 96) := rfl
        rw [this]
        unfold byF; omega
      rw [e1, show ((p + k : Nat) : Int) + 1 = ((p + (k + 1) : Nat) : Int) by omega]
      refine ih (k + 1) (by omega) (by omega) (fun i hi => ?_)
      by_cases e : i = k
      · rw [e]; exact q
      · exact hl i (by omega)
    · have k6 : k = 6 := by omega
      subst k6
      have ge : p + 6 < rnB isLt r (n - p) p := by
        rw [rnB_add 6 (by omega) hl]
        exact rnB_pos (by omega) q
      rw [if_pos ge] at eT
      refine c_add J hj ⟨by omega, by omega⟩ ⟨by omega, by omega⟩ ⟨by omega, by omega⟩ (by rw [eT]; rfl) (by rw [eT]) (by rw [eT]; rfl) (fun τ' t1 t2 t3 t4 => ⟨_, rfl, kb (by rw [eT]) τ' (J.bad hj (by rw [eT]; exact Nat.le_refl _) t1 t2) t4⟩)
theorem c_numL {p j : Nat} (J : TokJ r n j τ) (T : ∀ i, i < 1600 → τ 3 i = r i) (hn : n ≤ 1600) (hj : j ≤ 1600) (hp : p < n) (hr : ∀ i, 0 ≤ r i ∧ r i ≤ 255) (eT : tk r n (tkE r n j) = if p + 4 < rnB isDg r (n - p) p then (1, p + 4, 0, p) else (3, p, dvN r p (rnB isDg r (n - p) p - p), rnB isDg r (n - p) p)) (kg : 2 ≤ (tk r n (tkE r n j)).1 → ∀ τ', TokJ r n (j + 1) τ' → τ' 72 5 = τ 72 5 → frT τ τ' → Q (some (vI ((tk r n (tkE r n j)).2.2.2 : Nat))) τ') (kb : (tk r n (tkE r n j)).1 = 1 → ∀ τ', TokC r n τ' → frT τ τ' → Q (some (vI (-1))) τ') : ∀ (c k : Nat), p + k + c = n → k ≤ 4 → (∀ i, i < k → isDg (r (p + i)) = true) → (0 ≤ dvN r p k ∧ dvN r p k ≤ 9999) → V0 E (d + 1) qX6_splitNumber 6 [some (vR 72), some (vR 3), some (vI (n : Int)), some (vI (p : Int)), some (vI (dvN r p k)), some (vI ((p + k : Nat) : Int))] [] τ Q := by
  have fin : ∀ k, p + k ≤ n → k ≤ 4 → (∀ i, i < k → isDg (r (p + i)) = true) → (0 ≤ dvN r p k ∧ dvN r p k ≤ 9999) → (p + k = n ∨ ¬ isDg (r (p + k)) = true) → M0 E d qX6_add [vR 72, vI 3, vI (p : Int), vI (dvN r p k)] τ (fun v τ3 => ∃ r4 : Int, v = some (vI r4) ∧ Q (some (vI ((p + k : Nat) : Int))) τ3) := fun k h1 h2 h3 hd h4 => by
    have er : rnB isDg r (n - p) p = p + k := (rnB_add k h1 h3).trans (rnB_stop h4)
    rw [er, if_neg (by omega), show p + k - p = k by omega] at eT
    refine c_add J hj ⟨by omega, by omega⟩ ⟨by omega, by omega⟩ ⟨by omega, by omega⟩ (by rw [eT]; rfl) (by rw [eT]) (by rw [eT]; rfl) (fun τ' t1 t2 t3 t4 => ⟨_, rfl, ?_⟩)
    have := kg (by rw [eT]; show 2 ≤ 3; omega) τ' (J.ok (by rw [eT]; show 2 ≤ 3; omega) t1 t2) t3 t4
    rw [eT] at this
    exact this
  intro c
  induction c with
  | zero =>
    intro k hk h6 hl hd
    refine bX6_splitNumber_6 (n_x1 := 1600) rfl (by omega) (by omega) ⟨⟨by omega, by omega⟩, ⟨by omega, by omega⟩, fun _ => fin k (by omega) h6 hl hd (Or.inl (by omega)), fun q => by omega⟩
  | succ c ih =>
    intro k hk h6 hl hd
    have rb := hr (p + k)
    refine bX6_splitNumber_6 (n_x1 := 1600) rfl (by omega) (by omega) ⟨⟨by omega, by omega⟩, ⟨by omega, by omega⟩, fun q => by omega, fun _ => ⟨by omega, by omega, ?_⟩⟩
    rw [Int.toNat_natCast, T _ (by omega)]
    refine c_isDg ⟨by omega, by omega⟩ ⟨_, rfl, fun q => fin k (by omega) h6 hl hd (Or.inr (by rw [q]; decide)), fun q => ⟨⟨by omega, by omega⟩, fun z => ⟨by omega, by omega, ?_⟩, fun z => ?_⟩⟩
    · have lk := isDg_t.mp q
      rw [T _ (by omega)]
      have e1 : 10 * dvN r p k + r (p + k) - 48 = dvN r p (k + 1) := by rw [dvN]; omega
      rw [e1, show ((p + k : Nat) : Int) + 1 = ((p + (k + 1) : Nat) : Int) by omega]
      have hl' : ∀ i, i < k + 1 → isDg (r (p + i)) = true := fun i hi => by
        by_cases e : i = k
        · rw [e]; exact q
        · exact hl i (by omega)
      refine ih (k + 1) (by omega) (by omega) hl' ?_
      have dk : ∀ m, m ≤ k + 1 → 0 ≤ dvN r p m ∧ dvN r p m + 1 ≤ 10 ^ m := by
        intro m
        induction m with
        | zero => intro _; exact ⟨Int.le_refl _, by show (0 : Int) + 1 ≤ 1; omega⟩
        | succ m im =>
          intro hm
          have i1 := im (by omega)
          have := isDg_t.mp (hl' m (by omega))
          rw [dvN, Int.pow_succ]
          generalize (10 : Int) ^ m = z at i1
          omega
      have d1 := dk (k + 1) (Nat.le_refl _)
      have : (10 : Int) ^ (k + 1) ≤ 10 ^ 4 := by
        have h1 : (10 : Nat) ^ (k + 1) ≤ 10 ^ 4 := Nat.pow_le_pow_right (by omega) (by omega)
        have h2 : ((10 ^ (k + 1) : Nat) : Int) ≤ ((10 ^ 4 : Nat) : Int) := Int.ofNat_le.mpr h1
        rw [Int.natCast_pow, Int.natCast_pow] at h2
        exact h2
      generalize (10 : Int) ^ (k + 1) = z at d1 this
      omega
    · have k4 : k = 4 := by omega
      subst k4
      have ge : p + 4 < rnB isDg r (n - p) p := by
        rw [rnB_add 4 (by omega) hl]
        exact rnB_pos (by omega) q
      rw [if_pos ge] at eT
      refine c_add J hj ⟨by omega, by omega⟩ ⟨by omega, by omega⟩ ⟨by omega, by omega⟩ (by rw [eT]; rfl) (by rw [eT]) (by rw [eT]; rfl) (fun τ' t1 t2 t3 t4 => ⟨_, rfl, kb (by rw [eT]) τ' (J.bad hj (by rw [eT]; exact Nat.le_refl _) t1 t2) t4⟩)
end Split
