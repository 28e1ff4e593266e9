/-! the reference's operand -/
def PF (k p : Nat) (τ : mm_Mem) : Prop := τ 140 8 = (k : Int) ∧ τ 140 9 = (p : Int)
/-- the first operand of a test may be more than a sum's -/
def gdP (r : Nat → Int) (n a : Nat) (K bg : Int) : Prop := (K = 1 ∨ K = 5) → bg ≠ 0 → tWb r n a 20 = false ∧ tSb r n a 91 = false ∧ tWb r n a 21 = false
section MOper
variable {E : mm_Env} {d : Nat} {τ : mm_Mem} {Q : mm_Q0} {r : Nat → Int} {n bi D a m0 zz : Nat} {K ph bg B od : Int}
theorem m_aheadN (hn : n ≤ 1600) (hr : ∀ i, 0 ≤ r i ∧ r i ≤ 255) (ha : a ≤ n) (k2 : 2 ≤ (tk r n a).1) (X : txM r n τ) (W : wdM τ) (h8 : τ 140 8 = 0) (T : TokM r n a τ) (kg : tBb r n (tN r n a) = false → ∀ τ', TokM r n (tN r n a) τ' → τ' 140 8 = 0 → wdM τ' → frA τ τ' → Q none τ') (kb : tBb r n (tN r n a) = true → ∀ τ', PF 1 (tPl r n (tN r n a)) τ' → wdM τ' → frA τ τ' → Q none τ') : M0 E (d + 1) qX11_ahead [vR 140] τ Q := by
  have t := tN_lt ha hr k2
  refine m_ahead (a := tN r n a) hn hr t.2 X W h8 (by rw [T.2.2.1]; rfl) (fun z τ' t1 t2 t3 t4 => kg (decide_eq_false z) τ' t1 t2 t3 t4) (fun z τ' t1 t2 t3 t4 => kb (decide_eq_true z) τ' ⟨t1, t2⟩ t3 t4)
/-- the current token stays, whatever else is written -/
theorem TokM.fr {τ' : mm_Mem} (T : TokM r n a τ) (e : ∀ i, 3 ≤ i → i ≤ 7 → τ' 140 i = τ 140 i) : TokM r n a τ' := by
  unfold TokM at T ⊢
  rw [e 3 (by omega) (by omega), e 4 (by omega) (by omega), e 5 (by omega) (by omega), e 6 (by omega) (by omega), e 7 (by omega) (by omega)]; exact T
theorem PM.hd (H : PM r n bi D K ph bg B a od τ) : (τ 140 45 - 1 = (D : Int)) ∧ (τ 140 45 - 1).toNat = D := by
  have := H.2.2.2.2.2.1
  rw [this]; omega
theorem PM.fr {τ' : mm_Mem} {K' ph' bg' B' od' : Int} (H : PM r n bi D K ph bg B a od τ) (e1 : ∀ i, (i < 10 ∨ i = 39 ∨ i = 45 ∨ i = 46) → τ' 140 i = τ 140 i) (e2 : τ' 141 = τ 141) (hK : τ' 167 D = K') (hp : τ' 168 D = ph') (hb : τ' 169 D = bg') (hB : τ' 171 D = B') (ho : τ' 140 49 = od') : PM r n bi D K' ph' bg' B' a od' τ' := by
  obtain ⟨X, T, h8, W, h39, h45, h46, -⟩ := H
  refine ⟨⟨fun i hi => by rw [e2]; exact X.1 i hi, by rw [e1 2 (by omega)]; exact X.2⟩, T.fr (fun i _ _ => e1 i (by omega)), by rw [e1 8 (by omega)]; exact h8, ?_, by rw [e1 39 (by omega)]; exact h39, by rw [e1 45 (by omega)]; exact h45, by rw [e1 46 (by omega)]; exact h46, hK, hp, hb, hB, ho⟩
  exact fun _ => by rw [e1 9 (by omega)]; exact W h8
/-- a step of the same frame to the next token -/
theorem PM.ah {τ' : mm_Mem} {a' : Nat} (H : PM r n bi D K ph bg B a od τ) (T : TokM r n a' τ') (h8 : τ' 140 8 = 0) (W : wdM τ') (F : frA τ τ') : PM r n bi D K ph bg B a' od τ' := by
  obtain ⟨X, -, -, -, h39, h45, h46, hK, hp, hb, hB, ho⟩ := H
  exact ⟨X.fr F, T, h8, W, by rw [F.2 39 (by omega)]; exact h39, by rw [F.2 45 (by omega)]; exact h45, by rw [F.2 46 (by omega)]; exact h46, by rw [F.1 167 (by omega)]; exact hK, by rw [F.1 168 (by omega)]; exact hp, by rw [F.1 169 (by omega)]; exact hb, by rw [F.1 171 (by omega)]; exact hB, by rw [F.2 49 (by omega)]; exact ho⟩
theorem m_oper121 (hD : D < 20) (ha : a ≤ n) (hr : ∀ i, 0 ≤ r i ∧ r i ≤ 255) (hK : inR K) (H : PM r n bi D K ph bg B a od τ) (g : gdP r n a K bg) (k1 : V0 E (d + 1) qX11_operand 121 [some (vR 140), none, none, none] [] (wr τ 169 D 0) Q) : M0 E (d + 1) qX11_operand [vR 140] τ Q := by
  obtain ⟨e1, e2⟩ := H.hd
  obtain ⟨X, T, h8, W, h39, h45, h46, hk, hp, hb, hB, ho⟩ := H
  have T' : TokM r n a (wr τ 169 D 0) := T.fr (fun i _ _ => by rw [wr_obj (by omega)])
  have W' : wdM (wr τ 169 D 0) := fun _ => by rw [wr_obj (by omega)]; exact W h8
  refine mX11_operand ?_
  rw [e2, e1, hk]
  have g60 : V0 E (d + 1) qX11_operand 60 [some (vR 140), some (vI (D : Int)), some (vI 0), none] [] τ Q := by
    refine bX11_operand_60 ?_
    rw [Int.toNat_natCast]
    exact ⟨by omega, by omega, ⟨by omega, by omega⟩, fun _ => ⟨fun _ => k1, fun q => absurd rfl q⟩, fun q => absurd rfl q⟩
  refine ⟨by omega, by omega, m_isTest hK ⟨_, rfl, fun _ => g60, fun q => ⟨by omega, by omega, ?_⟩⟩⟩
  have q := of_decide_eq_true q
  rw [hb]
  refine ⟨fun _ => g60, fun q2 => ?_⟩
  obtain ⟨g1, g2, g3⟩ := g q q2
  refine m_isWord (i := 20) ha hr (by omega) rfl W T ⟨_, rfl, fun _ => ?_, fun y => by rw [g1] at y; cases y⟩
  refine bX11_operand_60 ?_
  rw [Int.toNat_natCast]
  refine ⟨by omega, by omega, ⟨by omega, by omega⟩, fun y => absurd y (by omega), fun _ => m_isSign ha hr ⟨by omega, by omega⟩ T' ⟨_, rfl, fun _ => ⟨fun y => absurd y (by omega), fun _ => m_isWord (i := 21) ha hr (by omega) rfl W' T' ⟨_, rfl, fun _ => k1, fun y => by rw [g3] at y; cases y⟩⟩, fun y => by rw [g2] at y; cases y⟩⟩
/-- a number or a fact -/
theorem m_operN {z : Nat} {x : Int} (hn : n ≤ 1600) (hb2 : bi < 2) (hD : D < 20) (ha : a ≤ n) (hr : ∀ i, 0 ≤ r i ∧ r i ≤ 255) (hK : inR K) (H : PM r n bi D K ph bg B a od τ) (g : gdP r n a K bg) (n40 : tSb r n a 40 = false) (hx : (tNb r n a = true ∧ x = tV r n a) ∨ (tNb r n a = false ∧ ftP r n a ≠ 0 ∧ x = ftP r n a)) (h38 : 1600 * (bi : Int) + τ 140 38 = (z : Int)) (hz : z < 1600 * bi + 1600) (hz0 : 1600 * bi ≤ z) (kg : tBb r n (tN r n a) = false → ∀ τ', PM r n bi D K ph 0 B (tN r n a) od τ' → τ' 140 48 = τ 140 48 → 1600 * (bi : Int) + τ' 140 38 = ((z + 1 : Nat) : Int) → cdM x (τ' 165 z) (τ' 166 z) → frQ D m0 z τ τ' → τ' 172 = τ 172 → Q (some (vB true)) τ') (kb : tBb r n (tN r n a) = true → ∀ τ', PF 1 (tPl r n (tN r n a)) τ' → frX τ τ' → Q (some (vB true)) τ') : M0 E (d + 2) qX11_operand [vR 140] τ Q := by
  refine m_oper121 (d := d + 1) hD ha hr hK H g ?_
  obtain ⟨X, T, h8, W, h39, h45, h46, hk, hp, hb, hB, ho⟩ := id H
  have T' : TokM r n a (wr τ 169 D 0) := T.fr (fun i _ _ => by rw [wr_obj (by omega)])
  have W' : wdM (wr τ 169 D 0) := fun _ => by rw [wr_obj (by omega)]; exact W h8
  have tr := tk_r (r := r) (n := n) ha hr
  have k2 : 2 ≤ (tk r n a).1 := by
    rcases hx with ⟨h, -⟩ | ⟨-, h, -⟩
    · have := of_decide_eq_true h; omega
    · unfold ftP at h
      by_cases q : (tk r n a).1 = 4
      · omega
      · rw [if_neg (by rw [tW_f q]; decide), if_neg (by rw [tW_f q]; decide), if_neg (by rw [tW_f q]; decide), if_neg (by rw [tW_f q]; decide), if_neg (by rw [tW_f q]; decide), if_neg (by rw [tW_f q]; decide)] at h
        exact absurd rfl h
  -- the code is written, and on
  have fin : ∀ s : Int, inR s → s ≠ -1 → cdM x s (τ 140 6) → V0 E (d + 1 + 1) qX11_operand 321 [some (vR 140), none, none, none] [vI s] (wr τ 169 D 0) Q := fun s hs s1 hc => by
    have e8 : wr τ 169 D 0 140 8 = 0 := by rw [wr_obj (by omega)]; exact h8
    have e6 : wr τ 169 D 0 140 6 = τ 140 6 := by rw [wr_obj (by omega)]
    have e38 : wr τ 169 D 0 140 38 = τ 140 38 := by rw [wr_obj (by omega)]
    have v6 : inR (τ 140 6) := by
      rcases hx with ⟨h, -⟩ | ⟨h, h2, h3⟩
      · have k3 : (tk r n a).1 = 3 := of_decide_eq_true h
        rw [T.2.2.2.1 (Or.inr k3)]
        have := tr.2.2.2.2.2.1 k3
        exact ⟨by omega, by omega⟩
      · have k4 : (tk r n a).1 = 4 := by
          by_cases q : (tk r n a).1 = 4
          · exact q
          · unfold ftP at h2
            rw [if_neg (by rw [tW_f q]; decide), if_neg (by rw [tW_f q]; decide), if_neg (by rw [tW_f q]; decide), if_neg (by rw [tW_f q]; decide), if_neg (by rw [tW_f q]; decide), if_neg (by rw [tW_f q]; decide)] at h2
            exact absurd rfl h2
        rw [(T.2.2.2.2 k4).2]; exact ⟨by omega, by omega⟩
    refine bX11_operand_321 ⟨hs, fun _ => ⟨fun _ => ?_, fun q => by rw [e8] at q; omega⟩, fun q => absurd q s1⟩
    rw [e6]
    refine m_add (z := z) hb2 (by rw [wr_obj (by omega)]; exact h39) (by rw [e38]; exact h38) hz (by rw [e38]; omega) hs v6 ⟨rfl, ?_⟩
    rw [e38]
    have G : ∀ o, o ≠ 140 → o ≠ 165 → o ≠ 166 → o ≠ 169 → wr (wr (wr (wr τ 169 D 0) 165 z s) 166 z (τ 140 6)) 140 38 (τ 140 38 + 1) o = τ o := fun o a b c e => by rw [wr_obj a, wr_obj c, wr_obj b, wr_obj e]
    have G0 : ∀ i, i ≠ 38 → wr (wr (wr (wr τ 169 D 0) 165 z s) 166 z (τ 140 6)) 140 38 (τ 140 38 + 1) 140 i = τ 140 i := fun i hi => by rw [wr_row hi, wr_obj (by omega), wr_obj (by omega), wr_obj (by omega)]
    have G5 : ∀ i, wr (wr (wr (wr τ 169 D 0) 165 z s) 166 z (τ 140 6)) 140 38 (τ 140 38 + 1) 165 i = if i = z then s else τ 165 i := fun i => by
      rw [wr_obj (by omega), wr_obj (by omega)]
      by_cases q : i = z
      · subst q; rw [wr_same, if_pos rfl]
      · rw [wr_row q, wr_obj (by omega), if_neg q]
    have G6 : ∀ i, wr (wr (wr (wr τ 169 D 0) 165 z s) 166 z (τ 140 6)) 140 38 (τ 140 38 + 1) 166 i = if i = z then τ 140 6 else τ 166 i := fun i => by
      rw [wr_obj (by omega)]
      by_cases q : i = z
      · subst q; rw [wr_same, if_pos rfl]
      · rw [wr_row q, wr_obj (by omega), wr_obj (by omega), if_neg q]
    have G9 : ∀ i, wr (wr (wr (wr τ 169 D 0) 165 z s) 166 z (τ 140 6)) 140 38 (τ 140 38 + 1) 169 i = if i = D then 0 else τ 169 i := fun i => by
      rw [wr_obj (by omega), wr_obj (by omega), wr_obj (by omega)]
      by_cases q : i = D
      · subst q; rw [wr_same, if_pos rfl]
      · rw [wr_row q, if_neg q]
    have G38 : wr (wr (wr (wr τ 169 D 0) 165 z s) 166 z (τ 140 6)) 140 38 (τ 140 38 + 1) 140 38 = τ 140 38 + 1 := wr_same
    generalize wr (wr (wr (wr τ 169 D 0) 165 z s) 166 z (τ 140 6)) 140 38 (τ 140 38 + 1) = σ at G G0 G5 G6 G9 G38
    have Hσ : PM r n bi D K ph 0 B a od σ := H.fr (fun i hi => G0 i (by omega)) (G 141 (by omega) (by omega) (by omega) (by omega)) (by rw [G 167 (by omega) (by omega) (by omega) (by omega)]; exact hk) (by rw [G 168 (by omega) (by omega) (by omega) (by omega)]; exact hp) (by rw [G9, if_pos rfl]) (by rw [G 171 (by omega) (by omega) (by omega) (by omega)]; exact hB) (by rw [G0 49 (by omega)]; exact ho)
    have FX : frX τ σ := ⟨fun o x => G o (by omega) (by omega) (by omega) (by omega), fun i x => G0 i (by omega)⟩
    have FQ : frQ D m0 z τ σ := ⟨FX, fun i hi => ⟨by rw [G 168 (by omega) (by omega) (by omega) (by omega)], by rw [G9, if_neg (by omega)]⟩, fun i hi => ⟨by rw [G 167 (by omega) (by omega) (by omega) (by omega)], by rw [G 170 (by omega) (by omega) (by omega) (by omega)], by rw [G 171 (by omega) (by omega) (by omega) (by omega)]⟩, fun i hi => by rw [G 172 (by omega) (by omega) (by omega) (by omega)], fun i hi => ⟨by rw [G5, if_neg (by omega)], by rw [G6, if_neg (by omega)]⟩⟩
    obtain ⟨Xs, Ts, s8, Ws, -⟩ := id Hσ
    refine m_aheadN (d := d) hn hr ha k2 Xs Ws s8 Ts (fun q τ' t1 t2 t3 t4 => ⟨rfl, ?_⟩) (fun q τ' t1 t2 t3 => ⟨rfl, kb q τ' t1 (FX.tr t3.x)⟩)
    refine kg q τ' (Hσ.ah t1 t2 t3 t4) (by rw [t4.2 48 (by omega), G0 48 (by omega)]) (by rw [t4.2 38 (by omega), G38]; omega) ?_ (FQ.tr (Nat.le_refl _) (Nat.le_refl _) t4.q) (by rw [t4.1 172 (by omega), G 172 (by omega) (by omega) (by omega) (by omega)])
    rw [t4.1 165 (by omega), t4.1 166 (by omega), G5, G6, if_pos rfl, if_pos rfl]
    exact hc
  have nf : ∀ i, i < 29 → tWb r n a i = true → (tk r n a).1 = 4 := fun i _ h => (tW_k h).1
  -- which words it is not
  have no2 : tWb r n a 27 = false ∧ tWb r n a 28 = false := by
    rcases hx with ⟨h, -⟩ | ⟨h, h2, -⟩
    · have k3 : (tk r n a).1 = 3 := of_decide_eq_true h
      exact ⟨tW_f (by omega), tW_f (by omega)⟩
    · have ex : ∃ i, (i = 22 ∨ i = 23 ∨ i = 24 ∨ i = 25 ∨ i = 26 ∨ i = 6) ∧ tWb r n a i = true := by
        by_cases q1 : tWb r n a 22 = true
        · exact ⟨22, by omega, q1⟩
        by_cases q2 : tWb r n a 23 = true
        · exact ⟨23, by omega, q2⟩
        by_cases q3 : tWb r n a 24 = true
        · exact ⟨24, by omega, q3⟩
        by_cases q4 : tWb r n a 25 = true
        · exact ⟨25, by omega, q4⟩
        by_cases q5 : tWb r n a 26 = true
        · exact ⟨26, by omega, q5⟩
        by_cases q6 : tWb r n a 6 = true
        · exact ⟨6, by omega, q6⟩
        unfold ftP at h2
        rw [if_neg q1, if_neg q2, if_neg q3, if_neg q4, if_neg q5, if_neg q6] at h2; exact absurd rfl h2
      obtain ⟨i, hi, hw⟩ := ex
      constructor
      · rw [← Bool.not_eq_true]; intro z; have := tW_u (by omega) (by omega) z hw; omega
      · rw [← Bool.not_eq_true]; intro z; have := tW_u (by omega) (by omega) z hw; omega
  refine bX11_operand_121 (m_isSign ha hr ⟨by omega, by omega⟩ T' ⟨_, rfl, fun _ => m_isWord (i := 27) ha hr (by omega) rfl W' T' ⟨_, rfl, fun y => (by rw [no2.1] at y; cases y), fun _ => m_isWord (i := 28) ha hr (by omega) rfl W' T' ⟨_, rfl, fun _ => ?_, fun y => (by rw [no2.2] at y; cases y)⟩⟩, fun y => (by rw [n40] at y; cases y)⟩)
  have e3 : wr τ 169 D 0 140 3 = rfK (tk r n a).1 := by rw [wr_obj (by omega)]; exact T.1
  rw [e3]
  have cf : ∀ {i : Nat} {s : Int}, tNb r n a = false → ftP r n a = -s → 1 ≤ s → s ≤ 6 → cdM x s (τ 140 6) := fun {i s} h1 h2 s1 s2 => by
    rcases hx with ⟨h, -⟩ | ⟨-, -, e⟩
    · rw [h1] at h; cases h
    · exact Or.inr (Or.inr (Or.inl ⟨by omega, by omega, by omega⟩))
  refine ⟨fun q => ?_, fun q => ?_⟩
  · have n3 : tNb r n a = false := tN_f (fun z => q ((rf_s tr.2.1).2.2.1.mpr z))
    have eq : ftP r n a ≠ 0 := by
      rcases hx with ⟨h, -⟩ | ⟨-, h, -⟩
      · rw [n3] at h; cases h
      · exact h
    refine m_isWord (i := 22) ha hr (by omega) rfl W' T' ⟨_, rfl, fun y22 => m_isWord (i := 23) ha hr (by omega) rfl W' T' ⟨_, rfl, fun y23 => m_isWord (i := 24) ha hr (by omega) rfl W' T' ⟨_, rfl, fun y24 => m_isWord (i := 25) ha hr (by omega) rfl W' T' ⟨_, rfl, fun y25 => m_isWord (i := 26) ha hr (by omega) rfl W' T' ⟨_, rfl, fun y26 => m_isWord (i := 6) ha hr (by omega) rfl W' T' ⟨_, rfl, fun y6 => ?_, fun y6 => ?_⟩, fun y26 => ?_⟩, fun y25 => ?_⟩, fun y24 => ?_⟩, fun y23 => ?_⟩, fun y22 => ?_⟩
    · exfalso
      unfold ftP at eq
      rw [if_neg (by rw [y22]; decide), if_neg (by rw [y23]; decide), if_neg (by rw [y24]; decide), if_neg (by rw [y25]; decide), if_neg (by rw [y26]; decide), if_neg (by rw [y6]; decide)] at eq
      exact eq rfl
    · exact fin 6 ⟨by omega, by omega⟩ (by omega) (cf (i := 0) n3 (by unfold ftP; rw [if_neg (by rw [y22]; decide), if_neg (by rw [y23]; decide), if_neg (by rw [y24]; decide), if_neg (by rw [y25]; decide), if_neg (by rw [y26]; decide), if_pos y6]) (by omega) (by omega))
    · exact fin 5 ⟨by omega, by omega⟩ (by omega) (cf (i := 0) n3 (by unfold ftP; rw [if_neg (by rw [y22]; decide), if_neg (by rw [y23]; decide), if_neg (by rw [y24]; decide), if_neg (by rw [y25]; decide), if_pos y26]) (by omega) (by omega))
    · exact fin 4 ⟨by omega, by omega⟩ (by omega) (cf (i := 0) n3 (by unfold ftP; rw [if_neg (by rw [y22]; decide), if_neg (by rw [y23]; decide), if_neg (by rw [y24]; decide), if_pos y25]) (by omega) (by omega))
    · exact fin 3 ⟨by omega, by omega⟩ (by omega) (cf (i := 0) n3 (by unfold ftP; rw [if_neg (by rw [y22]; decide), if_neg (by rw [y23]; decide), if_pos y24]) (by omega) (by omega))
    · exact fin 2 ⟨by omega, by omega⟩ (by omega) (cf (i := 0) n3 (by unfold ftP; rw [if_neg (by rw [y22]; decide), if_pos y23]) (by omega) (by omega))
    · exact fin 1 ⟨by omega, by omega⟩ (by omega) (cf (i := 0) n3 (by unfold ftP; rw [if_pos y22]) (by omega) (by omega))
  · have k3 := (rf_s tr.2.1).2.2.1.mp q
    have e3 : tNb r n a = true := decide_eq_true k3
    refine fin 0 ⟨by omega, by omega⟩ (by omega) (Or.inl ?_)
    rcases hx with ⟨-, e⟩ | ⟨h, -, -⟩
    · rw [T.2.2.2.1 (Or.inr k3), e]
      have := tr.2.2.2.2.2.1 k3
      exact ⟨this.1, rfl, rfl⟩
    · rw [e3] at h; cases h
end MOper
