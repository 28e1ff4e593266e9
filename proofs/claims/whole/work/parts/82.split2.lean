/-! the class splits the text: the loop -/
section Split2
variable {E : mm_Env} {d : Nat} {τ : mm_Mem} {Q : mm_Q0} {r : Nat → Int} {n : Nat}
/-- at a place of the loop -/
def spI (r : Nat → Int) (n j p : Nat) (τ : mm_Mem) : Prop := TokJ r n j τ ∧ j ≤ p ∧ p ≤ n ∧ skB r (n - tkE r n j) (tkE r n j) = skB r (n - p) p ∧ (-1 ≤ τ 72 5 ∧ τ 72 5 ≤ (p : Int)) ∧ (τ 72 5 = (p : Int) ↔ 0 < p ∧ isAN (r (p - 1)) = true)
theorem TokJ.fr {j : Nat} {τ' : mm_Mem} (J : TokJ r n j τ) (h3 : τ' 72 3 = τ 72 3) (e : ∀ o, 73 ≤ o → o ≤ 75 → τ' o = τ o) : TokJ r n j τ' := by
  obtain ⟨a, b, c⟩ := J
  refine ⟨by rw [h3]; exact a, fun i hi => ?_, c⟩
  unfold tkC; rw [e 73 (by omega) (by omega), e 74 (by omega) (by omega), e 75 (by omega) (by omega)]; exact b i hi
theorem TokC.fr {τ' : mm_Mem} (J : TokC r n τ) (h3 : τ' 72 3 = τ 72 3) (e : ∀ o, 73 ≤ o → o ≤ 75 → τ' o = τ o) : TokC r n τ' := by
  obtain ⟨m, a0, a, b, c, f⟩ := J
  refine ⟨m, a0, by rw [h3]; exact a, fun i hi => ?_, c, f⟩
  unfold tkC; rw [e 73 (by omega) (by omega), e 74 (by omega) (by omega), e 75 (by omega) (by omega)]; exact b i hi
theorem c_splitOne {j p : Nat} (I : spI r n j p τ) (T : ∀ i, i < 1600 → τ 3 i = r i) (ow : ∀ i, i < 29 → τ 76 i = owL.getD i 0) (hn : n ≤ 1600) (hp : p < n) (hr : ∀ i, 0 ≤ r i ∧ r i ≤ 255) (kg : ∀ τ' (j' q : Nat), p < q → q ≤ n → spI r n j' q τ' → frT τ τ' → Q (some (vI (q : Int))) τ') (kb : ∀ τ', TokC r n τ' → frT τ τ' → Q (some (vI (-1))) τ') : M0 E (d + 2) qX6_splitOne [vR 72, vR 3, vI (n : Int), vI (p : Int)] τ Q := by
  obtain ⟨J, jp, pn, sk, ⟨b1, b2⟩, bi⟩ := I
  have rb := hr p
  have blank : (r p = 32 ∨ r p = 10) → Q (some (vI ((p : Int) + 1))) τ := fun q => by
    rw [show (p : Int) + 1 = ((p + 1 : Nat) : Int) by omega]
    refine kg τ j (p + 1) (by omega) (by omega) ⟨J, by omega, by omega, by rw [sk, skB_bl hp q], ⟨b1, by omega⟩, ?_⟩ frT.rf
    refine ⟨fun z => by omega, fun z => ?_⟩
    rw [show p + 1 - 1 = p by omega] at z
    rcases isAN_t.mp z.2 with y | y
    · have := isLt_t.mp y; omega
    · have := isDg_t.mp y; omega
  refine mX6_splitOne (n_a0 := 1600) rfl (by omega) (by omega) ?_
  rw [Int.toNat_natCast, T _ (by omega)]
  refine ⟨by omega, by omega, fun q => blank (Or.inr q), fun q => ⟨fun q2 => ?_, fun q2 => blank (Or.inl q2)⟩⟩
  have nb : ¬ (r p = 32 ∨ r p = 10) := by omega
  have et : tk r n (tkE r n j) = tk1 r n p := by unfold tk; rw [sk, skB_no nb]
  -- a word or a number stands here
  have an52 : isAN (r p) = true → V0 E (d + 2) qX6_splitOne 52 [some (vR 72), some (vR 3), some (vI (n : Int)), some (vI (p : Int)), some (vI (r p))] [] τ Q := fun an => by
    refine bX6_splitOne_52 (n_x1 := 1600) rfl (by omega) (by omega) ⟨⟨by omega, by omega⟩, fun nB => ?_, fun yB => ?_⟩
    · have nadj : ¬ (0 < p ∧ isAN (r (p - 1)) = true) := fun z => nB (bi.mpr z).symm
      have eT0 : tk r n (tkE r n j) = if isLt (r p) = true then (if p + 6 < rnB isLt r (n - p) p then (1, p + 6, 0, p) else (4, p, ((pkN 256 (byF r p) (rnB isLt r (n - p) p - p) : Nat) : Int), rnB isLt r (n - p) p)) else (if p + 4 < rnB isDg r (n - p) p then (1, p + 4, 0, p) else (3, p, dvN r p (rnB isDg r (n - p) p - p), rnB isDg r (n - p) p)) := by
        rw [et]; unfold tk1; rw [if_neg (by omega), if_neg (by rw [an]; decide), if_neg nadj]
      have tr := tk1_r (r := r) (n := n) (p := p) (by omega) hr
      rw [← et] at tr
      have kg' : 2 ≤ (tk r n (tkE r n j)).1 → ∀ τ', TokJ r n (j + 1) τ' → τ' 72 5 = τ 72 5 → frT τ τ' → ∃ r6 : Int, some (vI ((tk r n (tkE r n j)).2.2.2 : Nat)) = some (vI r6) ∧ inR r6 ∧ Q (some (vI r6)) (wr τ' 72 5 r6) := fun k2 τ' t1 t2 t3 => by
        obtain ⟨e1, e2, e3⟩ := tr.2.2.2.1 k2
        refine ⟨_, rfl, ⟨by omega, by omega⟩, kg _ (j + 1) (tk r n (tkE r n j)).2.2.2 e2 e3 ⟨t1.fr (by rw [wr_row (by omega)]) (fun o _ _ => wr_obj (by omega)), by omega, e3, rfl, by rw [wr_same]; omega, ?_⟩ (t3.tr ⟨fun o a _ _ _ => wr_obj a, fun i _ b => wr_row b⟩)⟩
        rw [wr_same]
        refine ⟨fun _ => ⟨by omega, ?_⟩, fun _ => rfl⟩
        -- the last letter or digit of it
        by_cases lt : isLt (r p) = true
        · rw [if_pos lt] at eT0
          by_cases q6 : p + 6 < rnB isLt r (n - p) p
          · rw [if_pos q6] at eT0; rw [eT0] at k2; exact absurd k2 (by show ¬ 2 ≤ 1; omega)
          · rw [if_neg q6] at eT0
            rw [eT0] at e2 ⊢
            exact isAN_t.mpr (Or.inl (rnB_in isLt r (n - p) p _ (by show p ≤ rnB isLt r (n - p) p - 1; have : p < rnB isLt r (n - p) p := e2; omega) (by show rnB isLt r (n - p) p - 1 < rnB isLt r (n - p) p; have : p < rnB isLt r (n - p) p := e2; omega)))
        · rw [if_neg lt] at eT0
          by_cases q4 : p + 4 < rnB isDg r (n - p) p
          · rw [if_pos q4] at eT0; rw [eT0] at k2; exact absurd k2 (by show ¬ 2 ≤ 1; omega)
          · rw [if_neg q4] at eT0
            rw [eT0] at e2 ⊢
            exact isAN_t.mpr (Or.inr (rnB_in isDg r (n - p) p _ (by show p ≤ rnB isDg r (n - p) p - 1; have : p < rnB isDg r (n - p) p := e2; omega) (by show rnB isDg r (n - p) p - 1 < rnB isDg r (n - p) p; have : p < rnB isDg r (n - p) p := e2; omega)))
      have kb' : (tk r n (tkE r n j)).1 = 1 → ∀ τ', TokC r n τ' → frT τ τ' → ∃ r6 : Int, some (vI (-1)) = some (vI r6) ∧ inR r6 ∧ Q (some (vI r6)) (wr τ' 72 5 r6) := fun _ τ' t1 t3 =>
        ⟨_, rfl, ⟨by omega, by omega⟩, kb _ (t1.fr (by rw [wr_row (by omega)]) (fun o _ _ => wr_obj (by omega))) (t3.tr ⟨fun o a _ _ _ => wr_obj a, fun i _ b => wr_row b⟩)⟩
      refine c_isLt ⟨by omega, by omega⟩ ⟨_, rfl, fun y => ?_, fun y => ?_⟩
      · rw [if_neg (by rw [y]; decide)] at eT0
        exact mX6_splitNumber (n_a0 := 1600) rfl (by omega) (by omega) (c_numL J T hn (by omega) hp hr eT0 kg' kb' (n - p) 0 (by omega) (by omega) (fun i hi => by omega) (by rw [dvN]; omega))
      · rw [if_pos y] at eT0
        exact mX6_splitWord (n_a0 := 1600) rfl (by omega) (by omega) (c_wordL J T ow hn (by omega) hp hr eT0 y kg' kb' (n - p) 0 (by omega) (by omega) (fun i hi => by omega))
    · have adj := bi.mp yB.symm
      have eT : tk r n (tkE r n j) = (1, p, 0, p) := by
        rw [et]; unfold tk1; rw [if_neg (by omega), if_neg (by rw [an]; decide), if_pos adj]
      exact c_add J (by omega) ⟨by omega, by omega⟩ ⟨by omega, by omega⟩ ⟨by omega, by omega⟩ (by rw [eT]; rfl) (by rw [eT]) (by rw [eT]; rfl) (fun τ' t1 t2 t3 t4 => ⟨_, rfl, kb τ' (J.bad (by omega) (by rw [eT]; exact Nat.le_refl _) t1 t2) t4⟩)
  refine c_isLt ⟨by omega, by omega⟩ ⟨_, rfl, fun y => an52 (isAN_t.mpr (Or.inl y)), fun y => c_isDg ⟨by omega, by omega⟩ ⟨_, rfl, fun y2 => an52 (isAN_t.mpr (Or.inr y2)), fun y2 => ?_⟩⟩
  have an : isAN (r p) = false := by unfold isAN; rw [y, y2]; rfl
  have eT : tk r n (tkE r n j) = (2, p, r p, p + 1) := by
    rw [et]; unfold tk1; rw [if_neg (by omega), if_pos an]
  refine c_add J (by omega) ⟨by omega, by omega⟩ ⟨by omega, by omega⟩ ⟨by omega, by omega⟩ (by rw [eT]; rfl) (by rw [eT]) (by rw [eT]; rfl) (fun τ' t1 t2 t3 t4 => ⟨_, rfl, ?_⟩)
  rw [show (p : Int) + 1 = ((p + 1 : Nat) : Int) by omega]
  have ee : tkE r n (j + 1) = p + 1 := by show (tk r n (tkE r n j)).2.2.2 = _; rw [eT]
  refine kg τ' (j + 1) (p + 1) (by omega) (by omega) ⟨J.ok (by rw [eT]; exact Nat.le_refl _) t1 t2, by omega, by omega, by rw [ee], by rw [t3]; omega, ?_⟩ t4
  rw [t3]
  refine ⟨fun z => by omega, fun z => ?_⟩
  rw [show p + 1 - 1 = p by omega, an] at z
  exact absurd z.2 (by decide)
theorem c_splitL (hn : n ≤ 1600) (hr : ∀ i, 0 ≤ r i ∧ r i ≤ 255) : ∀ (c : Nat) (j p x : Nat) (τ : mm_Mem), n - p = c → x ≤ p → spI r n j p τ → (∀ i, i < 1600 → τ 3 i = r i) → (∀ i, i < 29 → τ 76 i = owL.getD i 0) → (∀ τ', TokC r n τ' → frT τ τ' → Q none τ') → V0 E (d + 3) qX6_split 23 [some (vR 72), some (vR 3), none, some (vI (n : Int)), some (vI (p : Int)), some (vI (x : Int))] [] τ Q := by
  intro c
  induction c using Nat.strongRecOn with
  | _ c ih =>
    intro j p x τ hc hx I T ow k1
    have I' := I
    obtain ⟨J, jp, pn, sk, -, -⟩ := I'
    have fin : n ≤ p → M0 E (d + 2) qX6_add [vR 72, vI 0, vI (n : Int), vI 0] τ (fun v τ3 => ∃ r4 : Int, v = some (vI r4) ∧ Q none τ3) := fun q => by
      have ep : p = n := by omega
      subst ep
      have eT : tk r p (tkE r p j) = (0, p, 0, p) := by
        unfold tk; rw [sk, Nat.sub_self]; unfold skB tk1; rw [if_pos (Nat.le_refl _)]
      exact c_add J (by omega) ⟨by omega, by omega⟩ ⟨by omega, by omega⟩ ⟨by omega, by omega⟩ (by rw [eT]; rfl) (by rw [eT]) (by rw [eT]; rfl) (fun τ' t1 t2 t3 t4 => ⟨_, rfl, k1 τ' (J.bad (by omega) (by rw [eT]; exact Nat.zero_le _) t1 t2) t4⟩)
    refine bX6_split_23 (n_x1 := 1600) rfl (by omega) (by omega) ⟨⟨by omega, by omega⟩, fun q => ⟨⟨by omega, by omega⟩, fun z => by omega, fun _ => fin (by omega)⟩, fun _ => ⟨⟨by omega, by omega⟩, fun z => by omega, fun _ => ⟨⟨by omega, by omega⟩, fun q => ⟨fun z => by omega, fun _ => fin (by omega)⟩, fun q => ?_⟩⟩⟩
    refine c_splitOne (d := d) I T ow hn (by omega) hr (fun τ' j' p' h1 h2 I2 F2 => ⟨_, rfl, ?_⟩) (fun τ' t1 t2 => ⟨_, rfl, ?_⟩)
    · rw [show (x : Int) + 1 = ((x + 1 : Nat) : Int) by omega]
      exact ih (n - p') (by omega) j' p' (x + 1) τ' rfl (by omega) I2 (fun i hi => by rw [F2.1 3 (by omega) (by omega) (by omega) (by omega)]; exact T i hi) (fun i hi => by rw [F2.1 76 (by omega) (by omega) (by omega) (by omega)]; exact ow i hi) (fun τ3 t1 t2 => k1 τ3 t1 (F2.tr t2))
    · have k := k1 τ' t1 t2
      refine bX6_split_23 (n_x1 := 1600) rfl (by omega) (by omega) ⟨⟨by omega, by omega⟩, fun q => ⟨⟨by omega, by omega⟩, fun _ => k, fun z => absurd rfl z⟩, fun _ => ⟨⟨by omega, by omega⟩, fun _ => ⟨fun _ => k, fun z => absurd rfl z⟩, fun z => by omega⟩⟩
theorem c_split {x : Int} (hn : n ≤ 1600) (hr : ∀ i, 0 ≤ r i ∧ r i ≤ 255) (hx : x = (n : Int)) (T : ∀ i, i < 1600 → τ 3 i = r i) (ow : ∀ i, i < 29 → τ 76 i = owL.getD i 0) (k1 : ∀ τ', TokC r n τ' → frT τ τ' → Q none τ') : M0 E (d + 3) qX6_split [vR 72, vR 3, vI x] τ Q := by
  subst hx
  refine mX6_split (n_a0 := 1600) rfl (by omega) (by omega) (c_min ⟨by omega, by omega⟩ ⟨by omega, by omega⟩ ⟨_, rfl, ?_⟩)
  rw [show min (n : Int) ((1600 : Nat) : Int) = (n : Int) by omega]
  refine c_splitL hn hr n 0 0 0 _ (by omega) (by omega) ⟨⟨by rw [wr_row (by omega), wr_same]; rfl, fun i hi => by omega, fun i hi => by omega⟩, by omega, by omega, rfl, by rw [wr_same]; omega, ?_⟩ (fun i hi => by rw [wr_obj (by omega), wr_obj (by omega)]; exact T i hi) (fun i hi => by rw [wr_obj (by omega), wr_obj (by omega)]; exact ow i hi) (fun τ' t1 t2 => k1 τ' t1 (frT.tr ⟨fun o a _ _ _ => by rw [wr_obj a, wr_obj a], fun i a b => by rw [wr_row b, wr_row a]⟩ t2))
  rw [wr_same]
  exact ⟨fun z => by omega, fun z => by omega⟩
end Split2
