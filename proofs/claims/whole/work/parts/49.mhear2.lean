/-! the reference hears: misses, hears -/
/-- α with other ears at one door -/
def setE (α : mm_Mem) (dd : Nat) (c hf tr : Nat → Int) : mm_Mem := fun j i => if 3 * dd ≤ i ∧ i < 3 * dd + 3 then (if j = 15 then c (i - 3 * dd) else if j = 16 then hf (i - 3 * dd) else if j = 17 then tr (i - 3 * dd) else α j i) else α j i
theorem setE_o {α : mm_Mem} {dd j : Nat} {c hf tr : Nat → Int} (h : j < 15 ∨ 17 < j) : setE α dd c hf tr j = α j := by
  funext i
  unfold setE
  rw [if_neg (show ¬ j = 15 by omega), if_neg (show ¬ j = 16 by omega), if_neg (show ¬ j = 17 by omega), ite_self]
theorem setE_at {α : mm_Mem} {dd t : Nat} {c hf tr : Nat → Int} (h : t < 3) : setE α dd c hf tr 15 (3 * dd + t) = c t ∧ setE α dd c hf tr 16 (3 * dd + t) = hf t ∧ setE α dd c hf tr 17 (3 * dd + t) = tr t := by
  unfold setE
  have q : 3 * dd ≤ 3 * dd + t ∧ 3 * dd + t < 3 * dd + 3 := by omega
  have q2 : 3 * dd + t - 3 * dd = t := by omega
  simp only [if_pos q, q2]
  exact ⟨rfl, rfl, rfl⟩
theorem setE_ne {α : mm_Mem} {dd i j : Nat} {c hf tr : Nat → Int} (h : ¬ (3 * dd ≤ i ∧ i < 3 * dd + 3)) : setE α dd c hf tr j i = α j i := if_neg h
theorem setE_id {α : mm_Mem} {dd : Nat} : setE α dd (fun t => α 15 (3 * dd + t)) (fun t => α 16 (3 * dd + t)) (fun t => α 17 (3 * dd + t)) = α := by
  funext j i
  unfold setE
  by_cases q : 3 * dd ≤ i ∧ i < 3 * dd + 3
  · rw [if_pos q]
    dsimp only
    rw [show 3 * dd + (i - 3 * dd) = i by omega]
    split
    · rename_i e; rw [e]
    · split
      · rename_i e; rw [e]
      · split
        · rename_i e; rw [e]
        · rfl
  · rw [if_neg q]
theorem setE_set {α : mm_Mem} {dd : Nat} {c hf tr c' hf' tr' : Nat → Int} : setE (setE α dd c hf tr) dd c' hf' tr' = setE α dd c' hf' tr' := by
  funext j i
  unfold setE
  by_cases q : 3 * dd ≤ i ∧ i < 3 * dd + 3
  · simp only [if_pos q]
    by_cases q1 : j = 15
    · simp only [if_pos q1]
    · simp only [if_neg q1]
      by_cases q2 : j = 16
      · simp only [if_pos q2]
      · simp only [if_neg q2]
        by_cases q3 : j = 17
        · simp only [if_pos q3]
        · simp only [if_neg q3]
  · simp only [if_neg q]
theorem PuA_cg {α α' : mm_Mem} (h0 : α' 0 = α 0) (h1 : α' 21 = α 21) : PuA α' = PuA α := by
  funext t f u n
  have e : wpA α' t n = wpA α t n := by
    funext i
    unfold wpA wnA
    rw [h0, h1]
  unfold PuA
  rw [e]
theorem opA_cg {α α' : mm_Mem} (h0 : α' 0 = α 0) (h1 : α' 21 = α 21) : opA α' = opA α := by
  funext f kind one two c hf tr t
  unfold opA opF by1A
  rw [PuA_cg h0 h1]
theorem msH_cg {α α' : mm_Mem} (h0 : α' 0 = α 0) (h1 : α' 21 = α 21) : msH α' = msH α := by
  funext f kind one c hf t
  unfold msH
  rw [PuA_cg h0 h1]
theorem WF.setE {k dd : Nat} {α : mm_Mem} {c hf tr : Nat → Int} (w : WF k α) (hB : ∀ t, t < 3 → 0 ≤ c t ∧ c t ≤ 1000 ∧ -1 ≤ hf t ∧ hf t ≤ 999 ∧ 0 ≤ tr t ∧ tr t ≤ 255) : WF k (setE α dd c hf tr) := by
  obtain ⟨h1, h2, h3, h4, h5, h6, h7, h8, h9⟩ := w
  refine ⟨?_, ?_, ?_, ?_, ?_, ?_, ?_, ?_, ?_⟩
  · rw [setE_o (by omega), setE_o (by omega)]; exact h1
  · unfold wfH; rw [setE_o (by omega)]; exact h2
  · unfold wfD; rw [setE_o (by omega), setE_o (by omega), setE_o (by omega), setE_o (by omega)]; exact h3
  · unfold wfP; rw [setE_o (by omega), setE_o (by omega), setE_o (by omega), setE_o (by omega), setE_o (by omega), setE_o (by omega)]; exact h4
  · intro e
    by_cases q : 3 * dd ≤ e ∧ e < 3 * dd + 3
    · obtain ⟨a1, a2, a3⟩ := setE_at (α := α) (dd := dd) (t := e - 3 * dd) (c := c) (hf := hf) (tr := tr) (by omega)
      rw [show 3 * dd + (e - 3 * dd) = e by omega] at a1 a2 a3
      rw [a1, a2, a3]; exact hB _ (by omega)
    · rw [setE_ne q, setE_ne q, setE_ne q]; exact h5 e
  · unfold wfC; rw [setE_o (by omega), setE_o (by omega), setE_o (by omega), setE_o (by omega), setE_o (by omega), setE_o (by omega)]; exact h6
  · unfold wfW alA wnA; rw [setE_o (by omega), setE_o (by omega), setE_o (by omega), setE_o (by omega)]; exact h7
  · rw [setE_o (by omega)]; exact h8
  · rw [setE_o (by omega), setE_o (by omega)]; exact h9
/-- rows 12 to 20 new, all else as it was -/
theorem RepM.cst {b : Nat} {α α' τ τ' : mm_Mem} (H : RepM b α τ) (r : ∀ j, (j < 12 ∨ 20 < j) → α' j = α j) (e : ∀ o j, relM o j = true → ¬ (179 ≤ o ∧ o < 188) → τ' o j = τ o j) (C : sC α' τ') : RepM b α' τ' := by
  obtain ⟨h1, h2, h3, h4, h5, h6, h7, h8, h9, h10, h11, h12⟩ := H
  have e' : ∀ o, (∀ j, relM o j = true) → ¬ (179 ≤ o ∧ o < 188) → τ' o = τ o := fun o hr ho => funext (fun j => e o j (hr j) ho)
  refine ⟨⟨h1.1, ?_⟩, ?_, ?_, ?_, ?_, ?_, ?_, C, ?_, ?_, ?_, ?_⟩
  · rw [e _ _ rfl (by omega)]; exact h1.2
  · rw [e _ _ rfl (by omega), e' 141 (fun _ => rfl) (by omega), r 0 (by omega), r 1 (by omega)]; exact h2
  · rw [e _ _ rfl (by omega), e _ _ rfl (by omega), r 0 (by omega)]; exact h3
  · unfold sH
    rw [e' 142 (fun _ => rfl) (by omega), e' 143 (fun _ => rfl) (by omega), e' 144 (fun _ => rfl) (by omega), e' 152 (fun _ => rfl) (by omega), e' 157 (fun _ => rfl) (by omega), e' 148 (fun _ => rfl) (by omega), e' 163 (fun _ => rfl) (by omega), e' 164 (fun _ => rfl) (by omega), r 0 (by omega)]
    exact h4
  · unfold sN
    rw [e' 145 (fun _ => rfl) (by omega), e' 153 (fun _ => rfl) (by omega), e' 158 (fun _ => rfl) (by omega), r 0 (by omega), r 2 (by omega), r 3 (by omega), r 4 (by omega)]
    exact h5
  · unfold sD
    rw [e' 154 (fun _ => rfl) (by omega), e' 155 (fun _ => rfl) (by omega), e' 156 (fun _ => rfl) (by omega), r 0 (by omega), r 5 (by omega), r 6 (by omega), r 7 (by omega)]
    exact h6
  · unfold sP
    rw [e' 159 (fun _ => rfl) (by omega), e' 160 (fun _ => rfl) (by omega), e' 161 (fun _ => rfl) (by omega), e' 162 (fun _ => rfl) (by omega), r 0 (by omega), r 8 (by omega), r 9 (by omega), r 10 (by omega), r 11 (by omega)]
    exact h7
  · unfold sW wnA
    rw [e' 176 (fun _ => rfl) (by omega), e' 177 (fun _ => rfl) (by omega), e' 178 (fun _ => rfl) (by omega), r 0 (by omega), r 21 (by omega), r 22 (by omega), r 23 (by omega)]
    exact h9
  · rw [e _ _ rfl (by omega), r 0 (by omega)]; exact h10
  · rw [e _ _ rfl (by omega), e' 193 (fun _ => rfl) (by omega), r 0 (by omega), r 25 (by omega)]; exact h11
  · rw [e' 173 (fun _ => rfl) (by omega), r 24 (by omega)]; exact h12
/-- the reference's ears at one door -/
theorem RepM.earsAt {b dd t : Nat} {α τ : mm_Mem} {c hf tr : Nat → Int} (H : RepM b (setE α dd c hf tr) τ) (hd : dd < 4) (ht : t < 3) : τ 182 (3 * dd + t) = c t ∧ τ 183 (3 * dd + t) = hf t ∧ τ 184 (3 * dd + t) = tr t := by
  obtain ⟨a1, a2, a3⟩ := H.2.2.2.2.2.2.2.1.2.1 (3 * dd + t) (by omega)
  obtain ⟨b1, b2, b3⟩ := setE_at (α := α) (dd := dd) (c := c) (hf := hf) (tr := tr) ht
  exact ⟨a1.trans b1, a2.trans b2, a3.trans b3⟩
theorem RepM.ears {b dd : Nat} {α τ τ' : mm_Mem} {c hf tr c' hf' tr' : Nat → Int} (H : RepM b (setE α dd c hf tr) τ) (hd : dd < 4) (F : ∀ o, o ≠ 182 → o ≠ 183 → o ≠ 184 → τ' o = τ o) (N : ∀ t, t < 3 → τ' 182 (3 * dd + t) = c' t ∧ τ' 183 (3 * dd + t) = hf' t ∧ τ' 184 (3 * dd + t) = tr' t) (O : ∀ i, i < 12 → ¬ (3 * dd ≤ i ∧ i < 3 * dd + 3) → τ' 182 i = τ 182 i ∧ τ' 183 i = τ 183 i ∧ τ' 184 i = τ 184 i) : RepM b (setE α dd c' hf' tr') τ' := by
  obtain ⟨s1, s2, s3⟩ := H.2.2.2.2.2.2.2.1
  refine H.cst (fun j hj => by rw [setE_o (by omega), setE_o (by omega)]) (fun o j _ ho => by rw [F o (by omega) (by omega) (by omega)]) ⟨fun p hp => ?_, fun e he => ?_, fun x hx => ?_⟩
  · rw [F 179 (by omega) (by omega) (by omega), F 180 (by omega) (by omega) (by omega), F 181 (by omega) (by omega) (by omega)]
    have := s1 p hp
    rw [setE_o (by omega), setE_o (by omega), setE_o (by omega)] at this
    rw [setE_o (by omega), setE_o (by omega), setE_o (by omega)]; exact this
  · by_cases q : 3 * dd ≤ e ∧ e < 3 * dd + 3
    · obtain ⟨a1, a2, a3⟩ := N (e - 3 * dd) (by omega)
      obtain ⟨b1, b2, b3⟩ := setE_at (α := α) (dd := dd) (t := e - 3 * dd) (c := c') (hf := hf') (tr := tr') (by omega)
      rw [show 3 * dd + (e - 3 * dd) = e by omega] at a1 a2 a3 b1 b2 b3
      exact ⟨a1.trans b1.symm, a2.trans b2.symm, a3.trans b3.symm⟩
    · obtain ⟨a1, a2, a3⟩ := O e he q
      obtain ⟨b1, b2, b3⟩ := s2 e he
      rw [setE_ne q] at b1 b2 b3
      rw [setE_ne q, setE_ne q, setE_ne q]
      exact ⟨a1.trans b1, a2.trans b2, a3.trans b3⟩
  · rw [F 185 (by omega) (by omega) (by omega), F 186 (by omega) (by omega) (by omega), F 187 (by omega) (by omega) (by omega)]
    have := s3 x hx
    rw [setE_o (by omega), setE_o (by omega), setE_o (by omega)] at this
    rw [setE_o (by omega), setE_o (by omega), setE_o (by omega)]; exact this
theorem fvA_cg {α α' : mm_Mem} {f : Nat → Nat} (h0 : α' 0 = α 0) (H : fvA α f) : fvA α' f := by unfold fvA; rw [h0]; exact H
theorem mH_cg {α α' τ τ' : mm_Mem} {f : Nat → Nat} (h0 : α' 0 = α 0) (h1 : τ' 188 = τ 188) (h2 : τ' 140 66 = τ 140 66) (H : mH α f τ) : mH α' f τ' := by unfold mH; rw [h0, h1, h2]; exact H
theorem fsA_true (P : Nat → Bool) : ∀ (c n x : Nat), fsA P c n = (x : Int) → P x = true ∧ ∀ i, n ≤ i → i < x → P i = false
  | 0, n, x, h => by have h' : (-1 : Int) = (x : Int) := h; omega
  | c + 1, n, x, h => by
    rw [fsA] at h
    by_cases q : P n = true
    · rw [if_pos q] at h
      have e : n = x := by omega
      subst e
      exact ⟨q, fun i a b => by omega⟩
    · rw [if_neg q] at h
      obtain ⟨h1, h2⟩ := fsA_true P c (n + 1) x h
      refine ⟨h1, fun i a b => ?_⟩
      by_cases e : i = n
      · subst e; exact Bool.eq_false_iff.mpr q
      · exact h2 i (by omega) b
/-- the first of a row is the last that stays when one goes down -/
theorem fsA_first {P : Nat → Bool} : ∀ (c n x : Nat), n ≤ x → x < n + c → P x = true → (∀ i, n ≤ i → i < x → P i = false) → fsA P c n = (x : Int)
  | 0, n, x, h1, h2, _, _ => by omega
  | c + 1, n, x, h1, h2, hx, hi => by
    rw [fsA]
    by_cases q : n = x
    · subst q; rw [if_pos hx]
    · rw [if_neg (by rw [hi n (by omega) (by omega)]; decide)]
      exact fsA_first c (n + 1) x (by omega) (by omega) hx (fun i a b => hi i (by omega) b)
theorem skA_first {P : Nat → Bool} {fr to x : Int} (h0 : 0 ≤ x) (h1 : fr ≤ x) (h2 : x ≤ to) (h3 : x < 1000) (hx : P x.toNat = true) (hi : ∀ i : Nat, fr ≤ (i : Int) → (i : Int) < x → P i = false) : skA P fr to = x := by
  unfold skA
  rw [fsA_first _ _ x.toNat (by omega) (by omega) hx (fun i a b => hi i (by omega) (by omega))]
  omega
theorem skA_none {P : Nat → Bool} {fr to : Int} (hi : ∀ i : Nat, fr ≤ (i : Int) → (i : Int) ≤ to → i < 1000 → P i = false) : skA P fr to = -1 := by
  by_cases q : skA P fr to = -1
  · exact q
  · obtain ⟨i, a1, a2, a3, a4⟩ := skA_ne.mp q
    rw [hi i a1 a2 a3] at a4; cases a4
section MHear2
variable {E : mm_Env} {d k b : Nat} {α τ : mm_Mem} {Q : mm_Q0}
/-- what the last found stands for -/
def dnA (P : Nat → Bool) (c x : Int) (v : Int) : Int := if skA P (c + 1) x = -1 then v else skA P (c + 1) x
theorem dnA_0 {P : Nat → Bool} {c v : Int} : dnA P c c v = v := by
  unfold dnA; rw [if_pos (skA_none (fun i a b _ => by omega))]
theorem dnA_s {P : Nat → Bool} {c x v : Int} (hc : 0 ≤ c) (hx : c ≤ x) : dnA P c x (if (decide (0 ≤ x + 1 ∧ x + 1 < 1000) && P (x + 1).toNat) = true then x + 1 else v) = dnA P c (x + 1) v := by
  unfold dnA
  by_cases q : skA P (c + 1) x = -1
  · rw [if_pos q]
    have no : ∀ i : Nat, c + 1 ≤ (i : Int) → (i : Int) < x + 1 → i < 1000 → P i = false := by
      intro i a1 a2 a3
      by_cases z : P i = true
      · exact absurd q (skA_ne.mpr ⟨i, a1, by omega, a3, z⟩)
      · exact Bool.eq_false_iff.mpr z
    by_cases r : (decide (0 ≤ x + 1 ∧ x + 1 < 1000) && P (x + 1).toNat) = true
    · rw [if_pos r]
      rw [Bool.and_eq_true, decide_eq_true_eq] at r
      have e : skA P (c + 1) (x + 1) = x + 1 := skA_first (by omega) (by omega) (by omega) (by omega) r.2 (fun i a b => no i a b (by omega))
      rw [e, if_neg (by omega)]
    · rw [if_neg r, if_pos]
      refine skA_none (fun i a1 a2 a3 => ?_)
      by_cases e : (i : Int) = x + 1
      · have e2 : (x + 1).toNat = i := by omega
        rw [e2, decide_eq_true (by omega), Bool.true_and] at r
        exact Bool.eq_false_iff.mpr r
      · exact no i a1 (by omega) a3
  · rw [if_neg q]
    obtain ⟨i, a1, a2, a3, a4⟩ := skA_ne.mp q
    have rg := skA_range P (c + 1) x
    have e : skA P (c + 1) (x + 1) = skA P (c + 1) x := by
      unfold skA at q ⊢
      rcases fsA_range P ((min x 999) + 1 - max (c + 1) 0).toNat (max (c + 1) 0).toNat with h | h
      · exact absurd h q
      · obtain ⟨j, hj⟩ : ∃ j : Nat, fsA P ((min x 999) + 1 - max (c + 1) 0).toNat (max (c + 1) 0).toNat = (j : Int) := ⟨_, (Int.toNat_of_nonneg (by omega)).symm⟩
        rw [hj] at h ⊢
        have pj := fsA_true P _ _ _ hj
        exact fsA_first _ _ j (by omega) (by omega) pj.1 pj.2
    rw [e, if_neg q]
theorem m_miss83 {dd t : Nat} {kc : Int} {f : Nat → Nat} {c hf tr : Nat → Int} (w : WF k α) (hf1 : fvA α f) (d1 : (dd : Int) < α 0 6) (t1 : (t : Int) < α 0 5) (hB : ∀ t, t < 3 → 0 ≤ c t ∧ c t ≤ 1000 ∧ -1 ≤ hf t ∧ hf t ≤ 999 ∧ 0 ≤ tr t ∧ tr t ≤ 255) (hk : kc = c t) : ∀ (n : Nat) (x v : Int) (τ : mm_Mem), x - kc = (n : Int) → n ≤ 40 → -1 ≤ v ∧ v ≤ 999 → RepM b (setE α dd c (u1 hf t v) tr) τ → mH α f τ → (∀ τ', (∀ o, o ≠ 182 → o ≠ 183 → o ≠ 184 → τ' o = τ o) → RepM b (setE α dd c (u1 hf t (dnA (PuA α t f 0) kc x v)) tr) τ' → Q none τ') → V0 E (d + 3) qX11_misses 83 [some (vR 140), none, some (vI (t : Int)), some (vI ((3 * dd + t : Nat) : Int)), some (vI kc), some (vI x)] [] τ Q
  | 0, x, v, τ, hx, hn, hv, H, hm, k1 => by
    have hw := w.le
    have b1 := hB t (by omega)
    refine bX11_misses_83 ⟨⟨by omega, by omega⟩, ⟨by omega, by omega⟩, fun _ => k1 τ (fun _ _ _ _ => rfl) ?_, fun q => by omega⟩
    rw [show x = kc by omega, dnA_0]; exact H
  | n + 1, x, v, τ, hx, hn, hv, H, hm, k1 => by
    have hw := w.le
    have b1 := hB t (by omega)
    have hB' : ∀ i, i < 3 → 0 ≤ c i ∧ c i ≤ 1000 ∧ -1 ≤ u1 hf t v i ∧ u1 hf t v i ≤ 999 ∧ 0 ≤ tr i ∧ tr i ≤ 255 := by
      intro i hi
      have b2 := hB i hi
      by_cases e : i = t
      · subst e; rw [u1_s]; omega
      · rw [u1_n e]; omega
    have w' : WF k (setE α dd c (u1 hf t v) tr) := w.setE hB'
    have ea : τ 183 (3 * dd + t) = v := by rw [(H.earsAt (by omega) (by omega : t < 3)).2.1, u1_s]
    have go : ∀ (v' : Int) (τ' : mm_Mem), τ' = wr τ 183 (3 * dd + t) v' → -1 ≤ v' ∧ v' ≤ 999 → dnA (PuA α t f 0) kc (x - 1) v' = dnA (PuA α t f 0) kc x v → V0 E (d + 3) qX11_misses 83 [some (vR 140), none, some (vI (t : Int)), some (vI ((3 * dd + t : Nat) : Int)), some (vI kc), some (vI (x + (-1)))] [] τ' Q := by
      intro v' τ' et hv' he
      subst et
      refine m_miss83 w hf1 d1 t1 hB hk n (x + (-1)) v' _ (by omega) (by omega) hv' ?_ (mH_cg rfl (wr_obj (by omega)) (by rw [wr_obj (by omega)]) hm) (fun τ' F' H' => k1 τ' (fun o o1 o2 o3 => (F' o o1 o2 o3).trans (wr_obj o2)) ?_)
      · refine H.ears (by omega) (fun o _ o2 _ => wr_obj o2) (fun i hi => ?_) (fun i hi hn => ?_)
        · obtain ⟨a1, a2, a3⟩ := H.earsAt (by omega) hi
          refine ⟨by rw [wr_obj (by omega)]; exact a1, ?_, by rw [wr_obj (by omega)]; exact a3⟩
          by_cases e : i = t
          · subst e; rw [wr_same, u1_s]
          · rw [wr_row (by omega), u1_n e, a2, u1_n e]
        · exact ⟨by rw [wr_obj (by omega)], by rw [wr_row (by omega)], by rw [wr_obj (by omega)]⟩
      · rw [show x + (-1) = x - 1 by omega, he] at H'; exact H'
    have st := dnA_s (P := PuA α t f 0) (c := kc) (x := x - 1) (v := v) (by omega) (by omega)
    rw [show x - 1 + 1 = x by omega] at st
    refine bX11_misses_83 ⟨⟨by omega, by omega⟩, ⟨by omega, by omega⟩, fun q => by omega, fun _ => m_isHeard w' H (mH_cg (setE_o (by omega)) rfl rfl hm) (fvA_cg (setE_o (by omega)) hf1) (by omega) (by rw [setE_o (by omega)]; exact t1) ⟨by omega, by omega⟩ ⟨_, rfl, fun q => ⟨by omega, by omega, by omega, by omega, ?_⟩, fun q => ⟨by omega, by omega, ?_⟩⟩⟩
    · rw [Int.toNat_natCast, PuA_cg (setE_o (by omega)) (setE_o (by omega))] at q
      rw [if_neg (by rw [q]; decide)] at st
      refine go v _ ?_ hv st
      rw [Int.toNat_natCast, ea]
    · rw [Int.toNat_natCast, PuA_cg (setE_o (by omega)) (setE_o (by omega))] at q
      rw [if_pos q] at st
      rw [Bool.and_eq_true, decide_eq_true_eq] at q
      exact go x _ (by rw [Int.toNat_natCast]) (by omega) st
theorem m_misses {dd t : Nat} {f : Nat → Nat} {c hf tr : Nat → Int} (w : WF k α) (hf1 : fvA α f) (d1 : (dd : Int) < α 0 6) (t1 : (t : Int) < α 0 5) (hB : ∀ t, t < 3 → 0 ≤ c t ∧ c t ≤ 1000 ∧ -1 ≤ hf t ∧ hf t ≤ 999 ∧ 0 ≤ tr t ∧ tr t ≤ 255) (H : RepM b (setE α dd c hf tr) τ) (hm : mH α f τ) (k1 : ∀ τ', (∀ o, o ≠ 182 → o ≠ 183 → o ≠ 184 → τ' o = τ o) → RepM b (setE α dd c (u1 hf t (msH α f (α 5 dd) (α 6 dd) (c t) (hf t) t)) (u1 tr t (msT (tr t)))) τ' → Q none τ') : M0 E (d + 3) qX11_misses [vR 140, vI (dd : Int), vI (t : Int)] τ Q := by
  have hw := w.le
  have wd := w.2.2.1 dd d1
  have bt := hB t (by omega)
  have en : (3 * (dd : Int) + (t : Int)) = ((3 * dd + t : Nat) : Int) := by omega
  obtain ⟨a1, a2, a3⟩ := H.earsAt (by omega) (by omega : t < 3)
  have hB' : ∀ i, i < 3 → 0 ≤ c i ∧ c i ≤ 1000 ∧ -1 ≤ hf i ∧ hf i ≤ 999 ∧ 0 ≤ u1 tr t (msT (tr t)) i ∧ u1 tr t (msT (tr t)) i ≤ 255 := by
    intro i hi
    have b2 := hB i hi
    by_cases e : i = t
    · subst e; rw [u1_s]; unfold msT; omega
    · rw [u1_n e]; omega
  have key : ∀ y : Int, y = msT (tr t) → V0 E (d + 3) qX11_misses 37 [some (vR 140), some (vI (dd : Int)), some (vI (t : Int)), some (vI ((3 * dd + t : Nat) : Int)), none, none] [vI y, vI ((3 * dd + t : Nat) : Int), vR 184] τ Q := by
    intro y hy
    have H1 : RepM b (setE α dd c hf (u1 tr t (msT (tr t)))) (wr τ 184 (3 * dd + t) y) := by
      refine H.ears (by omega) (fun o _ _ o3 => wr_obj o3) (fun i hi => ?_) (fun i hi hn => ⟨by rw [wr_obj (by omega)], by rw [wr_obj (by omega)], by rw [wr_row (by omega)]⟩)
      obtain ⟨b1, b2, b3⟩ := H.earsAt (by omega) hi
      refine ⟨by rw [wr_obj (by omega)]; exact b1, by rw [wr_obj (by omega)]; exact b2, ?_⟩
      by_cases e : i = t
      · subst e; rw [wr_same, u1_s, hy]
      · rw [wr_row (by omega), u1_n e]; exact b3
    obtain ⟨g1, g2, g3⟩ := H1.door (a := (dd : Int)) (by omega) (by rw [setE_o (by omega)]; exact d1)
    rw [Int.toNat_natCast, setE_o (by omega)] at g1 g2
    have hbk := H1.bk
    refine bX11_misses_37 ⟨by omega, by omega, ⟨by rw [hy]; unfold msT; omega, by rw [hy]; unfold msT; omega⟩, ?_⟩
    rw [Int.toNat_natCast]
    refine m_door4 H1 ⟨_, rfl, by omega, by omega, fun q => ⟨by omega, by omega, by omega, by omega, ?_⟩, fun q => ?_⟩
    · rw [g1] at q
      have H2 : RepM b (setE α dd c (u1 hf t (-1)) (u1 tr t (msT (tr t)))) (wr (wr τ 184 (3 * dd + t) y) 183 (3 * dd + t) (-1)) := by
        refine H1.ears (by omega) (fun o _ o2 _ => wr_obj o2) (fun i hi => ?_) (fun i hi hn => ⟨by rw [wr_obj (by omega)], by rw [wr_row (by omega)], by rw [wr_obj (by omega)]⟩)
        obtain ⟨b1, b2, b3⟩ := H1.earsAt (by omega) hi
        refine ⟨by rw [wr_obj (by omega)]; exact b1, ?_, by rw [wr_obj (by omega)]; exact b3⟩
        by_cases e : i = t
        · subst e; rw [wr_same, u1_s]
        · rw [wr_row (by omega), u1_n e]; exact b2
      refine m_door4 H2 ⟨_, rfl, by omega, by omega, ?_⟩
      have e1 : wr τ 184 (3 * dd + t) y 182 (3 * dd + t) = c t := by rw [wr_obj (by omega)]; exact a1
      have e2 : wr (wr τ 184 (3 * dd + t) y) 183 (3 * dd + t) (-1) 155 (4 * (b : Int) + (dd : Int)).toNat = α 6 dd := by rw [wr_obj (by omega)]; exact g2
      rw [e1, e2]
      refine m_miss83 w hf1 d1 t1 hB' rfl (α 6 dd).toNat (c t + α 6 dd) (-1) _ (by omega) (by omega) (by omega) H2 (mH_cg rfl (by rw [wr_obj (by omega), wr_obj (by omega)]) (by rw [wr_obj (by omega), wr_obj (by omega)]) hm) (fun τ' F' H' => k1 τ' (fun o o1 o2 o3 => by rw [F' o o1 o2 o3, wr_obj o2, wr_obj o3]) ?_)
      have e3 : dnA (PuA α t f 0) (c t) (c t + α 6 dd) (-1) = msH α f (α 5 dd) (α 6 dd) (c t) (hf t) t := by
        unfold dnA msH
        rw [if_pos q]
        split
        · rename_i z; rw [z]
        · rfl
      rw [e3] at H'; exact H'
    · rw [g1] at q
      refine k1 _ (fun o _ _ o3 => wr_obj o3) ?_
      have e3 : u1 hf t (msH α f (α 5 dd) (α 6 dd) (c t) (hf t) t) = hf := by
        funext i
        unfold msH
        rw [if_neg q]
        by_cases e : i = t
        · subst e; rw [u1_s]
        · rw [u1_n e]
      rw [e3]; exact H1
  refine mX11_misses ?_
  rw [en, Int.toNat_natCast, a3]
  refine ⟨by omega, by omega, fun q => key _ ?_, fun q => ⟨by omega, by omega, key _ ?_⟩⟩
  · unfold msT; omega
  · unfold msT; omega
theorem hrA_first {f : Nat → Nat} {kind one two : Int} {e0 e1 e2 : Bool} {c hf tr : Nat → Int} {t : Nat} (h : ∀ i, i < t → oneA α f kind one two e0 e1 e2 c hf tr i = -1) (ht : t < 3) (hn : oneA α f kind one two e0 e1 e2 c hf tr t ≠ -1) : hrA α f kind one two e0 e1 e2 c hf tr = (t : Int) := by
  unfold hrA
  match t, h, ht, hn with
  | 0, h, _, hn => rw [if_pos hn]; rfl
  | 1, h, _, hn => rw [if_neg (by rw [h 0 (by omega)]; simp), if_pos hn]; rfl
  | 2, h, _, hn => rw [if_neg (by rw [h 0 (by omega)]; simp), if_neg (by rw [h 1 (by omega)]; simp), if_pos hn]; rfl
theorem hrA_none {f : Nat → Nat} {kind one two : Int} {e0 e1 e2 : Bool} {c hf tr : Nat → Int} (h : ∀ i, i < 3 → oneA α f kind one two e0 e1 e2 c hf tr i = -1) : hrA α f kind one two e0 e1 e2 c hf tr = -1 := by
  unfold hrA
  rw [if_neg (by rw [h 0 (by omega)]; simp), if_neg (by rw [h 1 (by omega)]; simp), if_neg (by rw [h 2 (by omega)]; simp)]
theorem m_hears84 {dd : Nat} {f : Nat → Nat} {c hf0 tr0 : Nat → Int} (w : WF k α) (hf1 : fvA α f) (d1 : (dd : Int) < α 0 6) (hB0 : ∀ t, t < 3 → 0 ≤ c t ∧ c t ≤ 1000 ∧ -1 ≤ hf0 t ∧ hf0 t ≤ 999 ∧ 0 ≤ tr0 t ∧ tr0 t ≤ 255) : ∀ (n t : Nat) (τ : mm_Mem) (hf tr : Nat → Int), t + n = 3 → RepM b (setE α dd c hf tr) τ → mH α f τ → (∀ i, t ≤ i → hf i = hf0 i ∧ tr i = tr0 i) → (∀ i, i < t → hf i = vnH α f (α 5 dd) (α 6 dd) (earA α dd 0) (earA α dd 1) (earA α dd 2) c hf0 i ∧ tr i = vnT (earA α dd 0) (earA α dd 1) (earA α dd 2) tr0 i) → (∀ τ', (∀ o, o ≠ 182 → o ≠ 183 → o ≠ 184 → τ' o = τ o) → RepM b (setE α dd c (vnH α f (α 5 dd) (α 6 dd) (earA α dd 0) (earA α dd 1) (earA α dd 2) c hf0) (vnT (earA α dd 0) (earA α dd 1) (earA α dd 2) tr0)) τ' → Q (some (vI (-1))) τ') → V0 E (d + 4) qX11_hears 84 [some (vR 140), some (vI (dd : Int)), some (vI (t : Int)), none, none] [] τ Q := by
  intro n
  induction n with
  | zero =>
    intro t τ hf tr ht H hm hi lo k1
    have hw := w.le
    obtain ⟨b1, b2, b3⟩ := H.bk
    have ht5 := H.hs.2.2.1
    rw [setE_o (by omega)] at ht5
    refine bX11_hears_84 ⟨by omega, by omega, ⟨by omega, by omega⟩, fun _ => k1 τ (fun _ _ _ _ => rfl) ?_, fun q => by rw [b3, ht5] at q; omega⟩
    refine H.ears (by omega) (fun _ _ _ _ => rfl) (fun i h3 => ?_) (fun _ _ _ => ⟨rfl, rfl, rfl⟩)
    obtain ⟨a1, a2, a3⟩ := H.earsAt (by omega) h3
    obtain ⟨y1, y2⟩ := lo i (by omega)
    exact ⟨a1, a2.trans y1, a3.trans y2⟩
  | succ n ih =>
    intro t τ hf tr ht H hm hi lo k1
    have hw := w.le
    have wd := w.2.2.1 dd d1
    obtain ⟨b1, b2, b3⟩ := H.bk
    have ht5 := H.hs.2.2.1
    rw [setE_o (by omega)] at ht5
    have en : ((t : Int) + 1) = ((t + 1 : Nat) : Int) := by omega
    have hB : ∀ i, i < 3 → 0 ≤ c i ∧ c i ≤ 1000 ∧ -1 ≤ hf i ∧ hf i ≤ 999 ∧ 0 ≤ tr i ∧ tr i ≤ 255 := by
      intro i hi3
      have b := hB0 i hi3
      by_cases q : i < t
      · obtain ⟨y1, y2⟩ := lo i q
        have m := msH_r (α := α) (f := f) (kind := α 5 dd) (one := α 6 dd) (c := c i) (t := i) (hf := hf0 i) (by omega)
        rw [y1, y2]
        refine ⟨b.1, b.2.1, ?_, ?_, ?_, ?_⟩
        · unfold vnH; split <;> omega
        · unfold vnH; split <;> omega
        · unfold vnT msT; split <;> omega
        · unfold vnT msT; split <;> omega
      · obtain ⟨y1, y2⟩ := hi i (by omega)
        rw [y1, y2]; exact b
    obtain ⟨hi1, hi2⟩ := hi t (by omega)
    have skip : earA α dd (t : Int) = false → V0 E (d + 4) qX11_hears 84 [some (vR 140), some (vI (dd : Int)), some (vI ((t : Int) + 1)), none, none] [] τ Q := by
      intro q
      rw [en]
      refine ih (t + 1) τ hf tr (by omega) H hm (fun i h => hi i (by omega)) (fun i h => ?_) k1
      by_cases e : i = t
      · subst e; exact ⟨by rw [hi1, vnH, if_neg (by rw [e3_ear w, q]; decide)], by rw [hi2, vnT, if_neg (by rw [e3_ear w, q]; decide)]⟩
      · exact lo i (by omega)
    have w' : WF k (setE α dd c hf tr) := w.setE hB
    have ec : earA (setE α dd c hf tr) = earA α := earA_cg (by rw [setE_o (by omega)]) (setE_o (by omega)) (setE_o (by omega))
    refine bX11_hears_84 ⟨by omega, by omega, ⟨by omega, by omega⟩, fun q => ?_, fun q => m_isEar w' H ⟨by omega, by omega⟩ ⟨by omega, by omega⟩ ⟨_, rfl, fun r => ?_, fun r => ?_⟩⟩
    · rw [b3, ht5] at q
      refine k1 τ (fun _ _ _ _ => rfl) ?_
      refine H.ears (by omega) (fun _ _ _ _ => rfl) (fun i h3 => ?_) (fun _ _ _ => ⟨rfl, rfl, rfl⟩)
      obtain ⟨a1, a2, a3⟩ := H.earsAt (by omega) h3
      by_cases z : i < t
      · obtain ⟨y1, y2⟩ := lo i z
        exact ⟨a1, a2.trans y1, a3.trans y2⟩
      · obtain ⟨y1, y2⟩ := hi i (by omega)
        have ne : earA α dd (i : Int) = false := by
          by_cases zz : earA α dd (i : Int) = true
          · have := earA_lt w zz; omega
          · exact Bool.eq_false_iff.mpr zz
        refine ⟨a1, ?_, ?_⟩
        · rw [a2, y1, vnH, if_neg (by rw [e3_ear w, ne]; decide)]
        · rw [a3, y2, vnT, if_neg (by rw [e3_ear w, ne]; decide)]
    · rw [ec] at r; exact skip r
    · rw [ec] at r
      rw [b3, ht5] at q
      refine m_misses w hf1 d1 (by omega) hB H hm (fun τ1 F1 H1 => ⟨rfl, ?_⟩)
      rw [en]
      refine ih (t + 1) τ1 _ _ (by omega) H1 (mH_cg rfl (F1 188 (by omega) (by omega) (by omega)) (by rw [F1 140 (by omega) (by omega) (by omega)]) hm) (fun i h => ?_) (fun i h => ?_) (fun τ' F' H' => k1 τ' (fun o o1 o2 o3 => (F' o o1 o2 o3).trans (F1 o o1 o2 o3)) H')
      · rw [u1_n (by omega), u1_n (by omega)]; exact hi i (by omega)
      · by_cases e : i = t
        · subst e; exact ⟨by rw [u1_s, vnH, if_pos (by rw [e3_ear w, r]), hi1], by rw [u1_s, vnT, if_pos (by rw [e3_ear w, r]), hi2]⟩
        · rw [u1_n e, u1_n e]; exact lo i (by omega)
/-- what a door with these ears does at a whistle -/
def hrD (α : mm_Mem) (dd : Nat) (f : Nat → Nat) (c hf tr : Nat → Int) : Int := hrA α f (α 5 dd) (α 6 dd) (α 7 dd) (earA α dd 0) (earA α dd 1) (earA α dd 2) c hf tr
def afD (α : mm_Mem) (dd : Nat) (f : Nat → Nat) (c hf tr : Nat → Int) : mm_Mem := setE α dd (afC α f (α 5 dd) (α 6 dd) (α 7 dd) (earA α dd 0) (earA α dd 1) (earA α dd 2) c hf tr) (afH α f (α 5 dd) (α 6 dd) (α 7 dd) (earA α dd 0) (earA α dd 1) (earA α dd 2) c hf tr) (afT α f (α 5 dd) (α 6 dd) (α 7 dd) (earA α dd 0) (earA α dd 1) (earA α dd 2) c hf tr)
theorem m_hears {dd : Nat} {f : Nat → Nat} {c hf tr : Nat → Int} (w : WF k α) (hf1 : fvA α f) (d1 : (dd : Int) < α 0 6) (hB : ∀ t, t < 3 → 0 ≤ c t ∧ c t ≤ 1000 ∧ -1 ≤ hf t ∧ hf t ≤ 999 ∧ 0 ≤ tr t ∧ tr t ≤ 255) (H : RepM b (setE α dd c hf tr) τ) (hm : mH α f τ) (k1 : ∀ τ', (∀ o, o ≠ 182 → o ≠ 183 → o ≠ 184 → τ' o = τ o) → RepM b (afD α dd f c hf tr) τ' → Q (some (vI (hrD α dd f c hf tr))) τ') : M0 E (d + 4) qX11_hears [vR 140, vI (dd : Int)] τ Q := by
  have hw := w.le
  have wd := w.2.2.1 dd d1
  obtain ⟨b1, b2, b3⟩ := H.bk
  have ht5 := H.hs.2.2.1
  rw [setE_o (by omega)] at ht5
  have w' : WF k (setE α dd c hf tr) := w.setE hB
  have ec : earA (setE α dd c hf tr) = earA α := earA_cg (by rw [setE_o (by omega)]) (setE_o (by omega)) (setE_o (by omega))
  have nOne : (∀ i, i < 3 → oneA α f (α 5 dd) (α 6 dd) (α 7 dd) (earA α dd 0) (earA α dd 1) (earA α dd 2) c hf tr i = -1) → V0 E (d + 4) qX11_hears 84 [some (vR 140), some (vI (dd : Int)), some (vI 0), none, none] [] τ Q := by
    intro z
    have hr := hrA_none z
    have l := m_hears84 (E := E) (d := d) (b := b) (Q := Q) w hf1 d1 hB 3 0 τ hf tr rfl H hm (fun i _ => ⟨rfl, rfl⟩) (fun i hi => absurd hi (Nat.not_lt_zero _)) (fun τ' F' H' => ?_)
    · exact l
    · unfold afD hrD at k1
      rw [hr] at k1
      refine k1 τ' F' ?_
      have e1 : afC α f (α 5 dd) (α 6 dd) (α 7 dd) (earA α dd 0) (earA α dd 1) (earA α dd 2) c hf tr = c := by funext i; unfold afC; rw [hr, if_neg (by omega)]
      have e2 : afH α f (α 5 dd) (α 6 dd) (α 7 dd) (earA α dd 0) (earA α dd 1) (earA α dd 2) c hf tr = vnH α f (α 5 dd) (α 6 dd) (earA α dd 0) (earA α dd 1) (earA α dd 2) c hf := by funext i; unfold afH; rw [hr, if_pos rfl]
      have e3 : afT α f (α 5 dd) (α 6 dd) (α 7 dd) (earA α dd 0) (earA α dd 1) (earA α dd 2) c hf tr = vnT (earA α dd 0) (earA α dd 1) (earA α dd 2) tr := by funext i; unfold afT; rw [hr, if_pos rfl]
      rw [e1, e2, e3]; exact H'
  have noear : ∀ i : Nat, α 0 5 ≤ (i : Int) → oneA α f (α 5 dd) (α 6 dd) (α 7 dd) (earA α dd 0) (earA α dd 1) (earA α dd 2) c hf tr i = -1 := by
    intro i hi
    unfold oneA
    rw [if_neg]
    rw [e3_ear w]
    intro zz
    have := earA_lt w zz
    omega
  have loop : ∀ (n t : Nat), t + n = 3 → (∀ i, i < t → oneA α f (α 5 dd) (α 6 dd) (α 7 dd) (earA α dd 0) (earA α dd 1) (earA α dd 2) c hf tr i = -1) → V0 E (d + 4) qX11_hears 2 [some (vR 140), some (vI (dd : Int)), some (vI (t : Int)), none, none] [] τ Q := by
    intro n
    induction n with
    | zero =>
      intro t ht lo
      refine bX11_hears_2 ⟨by omega, by omega, ⟨by omega, by omega⟩, fun _ => nOne (fun i hi => lo i (by omega)), fun q => by rw [b3, ht5] at q; omega⟩
    | succ n ih =>
      intro t ht lo
      have en : ((t : Int) + 1) = ((t + 1 : Nat) : Int) := by omega
      have bt := hB t (by omega)
      have r1 := opA_r (α := α) (f := f) (kind := α 5 dd) (one := α 6 dd) (two := α 7 dd) (hf := hf t) (tr := tr t) (t := t) bt.1 bt.2.1
      have key : ∀ y : Int, y = oneA α f (α 5 dd) (α 6 dd) (α 7 dd) (earA α dd 0) (earA α dd 1) (earA α dd 2) c hf tr t → V0 E (d + 4) qX11_hears 34 [some (vR 140), some (vI (dd : Int)), some (vI (t : Int)), none, none] [vI y] τ Q := by
        intro y hy
        have yr : y = -1 ∨ (0 ≤ y ∧ y ≤ 1000) := by
          rw [hy]; unfold oneA
          split
          · exact r1
          · exact Or.inl rfl
        have e3n : (3 * (dd : Int) + (t : Int)) = ((3 * dd + t : Nat) : Int) := by omega
        refine bX11_hears_34 ⟨⟨by omega, by omega⟩, fun q => ⟨by omega, by omega, by omega, by omega, by omega, by omega, ?_⟩, fun q => ?_⟩
        · have hr := hrA_first lo (by omega) (by rw [← hy]; exact q)
          unfold hrD afD at k1
          rw [hr] at k1
          rw [e3n, Int.toNat_natCast]
          refine k1 _ (fun o o1 o2 o3 => by rw [wr_obj o3, wr_obj o2, wr_obj o1]) ?_
          refine H.ears (by omega) (fun o o1 o2 o3 => by rw [wr_obj o3, wr_obj o2, wr_obj o1]) (fun i hi => ?_) (fun i hi hn => ⟨?_, ?_, ?_⟩)
          · obtain ⟨a1, a2, a3⟩ := H.earsAt (by omega) hi
            unfold afC afH afT
            rw [hr]
            by_cases e : i = t
            · subst e
              rw [if_pos rfl, if_neg (by omega), if_pos rfl, if_neg (by omega), if_pos rfl]
              exact ⟨by rw [wr_obj (by omega), wr_obj (by omega), wr_same, hy], by rw [wr_obj (by omega), wr_same], by rw [wr_same]⟩
            · rw [if_neg (by omega), if_neg (by omega), if_neg (by omega), if_neg (by omega), if_neg (by omega)]
              exact ⟨by rw [wr_obj (by omega), wr_obj (by omega), wr_row (by omega)]; exact a1, by rw [wr_obj (by omega), wr_row (by omega), wr_obj (by omega)]; exact a2, by rw [wr_row (by omega), wr_obj (by omega), wr_obj (by omega)]; exact a3⟩
          · rw [wr_obj (by omega), wr_obj (by omega), wr_row (by omega)]
          · rw [wr_obj (by omega), wr_row (by omega), wr_obj (by omega)]
          · rw [wr_row (by omega), wr_obj (by omega), wr_obj (by omega)]
        · rw [en]
          refine ih (t + 1) (by omega) (fun i hi => ?_)
          by_cases e : i = t
          · subst e; rw [← hy]; exact q
          · exact lo i (by omega)
      refine bX11_hears_2 ⟨by omega, by omega, ⟨by omega, by omega⟩, fun q => ?_, fun q => m_isEar w' H ⟨by omega, by omega⟩ ⟨by omega, by omega⟩ ⟨_, rfl, fun r => ?_, fun r => ?_⟩⟩
      · rw [b3, ht5] at q
        refine nOne (fun i hi => ?_)
        by_cases z : i < t
        · exact lo i z
        · exact noear i (by omega)
      · rw [ec] at r
        refine key _ ?_
        unfold oneA
        rw [if_neg (by rw [e3_ear w, r]; decide)]
      · rw [ec] at r
        rw [b3, ht5] at q
        refine m_opensTo w' H (mH_cg (setE_o (by omega)) rfl rfl hm) (fvA_cg (setE_o (by omega)) hf1) (by rw [setE_o (by omega)]; exact d1) (by rw [setE_o (by omega)]; omega) ⟨_, rfl, key _ ?_⟩
        obtain ⟨s1, s2, s3⟩ := setE_at (α := α) (dd := dd) (c := c) (hf := hf) (tr := tr) (by omega : t < 3)
        rw [opA_cg (setE_o (by omega)) (setE_o (by omega)), s1, s2, s3, setE_o (by omega), setE_o (by omega), setE_o (by omega)]
        unfold oneA
        rw [if_pos (by rw [e3_ear w, r])]
  exact mX11_hears (loop 3 0 rfl (fun i hi => absurd hi (Nat.not_lt_zero _)))
end MHear2
