/-! the reference's operand: brackets, not, all -/
def frD (D : Nat) (τ τ' : mm_Mem) : Prop := frX τ τ' ∧ (∀ i, i ≤ D → τ' 167 i = τ 167 i ∧ τ' 168 i = τ 168 i ∧ τ' 169 i = τ 169 i ∧ τ' 170 i = τ 170 i ∧ τ' 171 i = τ 171 i) ∧ τ' 172 = τ 172 ∧ τ' 165 = τ 165 ∧ τ' 166 = τ 166 ∧ τ' 140 48 = τ 140 48 ∧ τ' 140 38 = τ 140 38
theorem frA.d {D : Nat} {a b : mm_Mem} (h : frA a b) : frD D a b := ⟨h.x, fun i _ => ⟨by rw [h.1 167 (by omega)], by rw [h.1 168 (by omega)], by rw [h.1 169 (by omega)], by rw [h.1 170 (by omega)], by rw [h.1 171 (by omega)]⟩, h.1 172 (by omega), h.1 165 (by omega), h.1 166 (by omega), h.2 48 (by omega), h.2 38 (by omega)⟩
section MOper2
variable {E : mm_Env} {d : Nat} {τ : mm_Mem} {Q : mm_Q0} {r : Nat → Int} {n bi D a m0 zz : Nat} {K ph bg B od : Int}
theorem m_blameF {x y : Int} {k p : Nat} (hk : 1 ≤ k) (P : PF k p τ) (k1 : Q none τ) : M0 E d qX11_blame [vR 140, vI x, vI y] τ Q :=
  mX11_blame ⟨fun q => by have := P.1; omega, fun _ => k1⟩
theorem m_isSignG {c : Int} (hc : inR c) (k1 : ∀ b : Bool, Q (some (vB b)) τ) : M0 E d qX11_isSign [vR 140, vI c] τ Q :=
  mX11_isSign ⟨fun _ => k1 _, fun _ => ⟨hc, fun _ => k1 _, fun _ => k1 _⟩⟩
theorem m_opensF {x : Int} {k p : Nat} (hk : 1 ≤ k) (P : PF k p τ) (k1 : Q none τ) : M0 E (d + 1) qX11_opens [vR 140, vI x] τ Q := by
  have p1 := P.1
  exact mX11_opens ⟨fun _ => ⟨fun q => by omega, fun _ => k1⟩, fun _ => m_blameF hk P ⟨rfl, fun q => by omega, fun _ => k1⟩⟩
theorem m_opens {k' : Int} {m : Nat} (hn : n ≤ 1600) (hr : ∀ i, 0 ≤ r i ∧ r i ≤ 255) (ha : a ≤ n) (hD : D ≤ 8) (hk' : inR k') (k2 : 2 ≤ (tk r n a).1) (H : PM r n bi D K ph bg B a od τ) (h48 : τ 140 48 = (m : Int)) (kg : ¬ 8 ≤ D → tBb r n (tN r n a) = false → ∀ τ', PM r n bi (D + 1) k' 0 1 (m : Int) (tN r n a) od τ' → frD D τ τ' → Q none τ') (kb : ¬ 8 ≤ D → tBb r n (tN r n a) = true → ∀ τ', PF 1 (tPl r n (tN r n a)) τ' → frX τ τ' → Q none τ') (k5 : 8 ≤ D → ∀ τ', PF 5 (tPl r n a) τ' → frX τ τ' → Q none τ') : M0 E (d + 2) qX11_opens [vR 140, vI k'] τ Q := by
  obtain ⟨X, T, h8, W, h39, h45, h46, hk, hp, hb, hB, ho⟩ := id H
  have tr := tk_r (r := r) (n := n) ha hr
  refine mX11_opens ?_
  rw [h46]
  refine ⟨fun q => ⟨fun _ => ⟨⟨by omega, by omega⟩, ?_⟩, fun q2 => by rw [h8] at q2; omega⟩, fun q => ?_⟩
  · have X1 : txM r n (wr τ 140 46 ((D : Int) + 1)) := ⟨fun i hi => by rw [wr_obj (by omega)]; exact X.1 i hi, by rw [wr_row (by omega)]; exact X.2⟩
    have T1 : TokM r n a (wr τ 140 46 ((D : Int) + 1)) := T.fr (fun i _ _ => wr_row (by omega))
    have F0 : frX τ (wr τ 140 46 ((D : Int) + 1)) := frX.rf.w0 (by omega)
    have go : ∀ τ1 : mm_Mem, frA (wr τ 140 46 ((D : Int) + 1)) τ1 → (∀ σ : mm_Mem, (∀ i, i ≠ 45 → σ 140 i = τ1 140 i) → σ 140 45 = (D : Int) + 1 + 1 → (∀ o, o ≠ 140 → o ≠ 167 → o ≠ 168 → o ≠ 169 → o ≠ 171 → σ o = τ1 o) → (∀ i, σ 167 i = if i = D + 1 then k' else τ1 167 i) → (∀ i, σ 168 i = if i = D + 1 then 0 else τ1 168 i) → (∀ i, σ 169 i = if i = D + 1 then 1 else τ1 169 i) → (∀ i, σ 171 i = if i = D + 1 then (m : Int) else τ1 171 i) → Q none σ) → M0 E (d + 1) qX11_pushes [vR 140, vI k'] τ1 (fun v τ6 => v = none ∧ Q none τ6) := fun τ1 F1 kk => by
      have e45 : τ1 140 45 = ((D + 1 : Nat) : Int) := by rw [F1.2 45 (by omega), wr_row (by omega), h45]; omega
      have e48 : τ1 140 48 = (m : Int) := by rw [F1.2 48 (by omega), wr_row (by omega)]; exact h48
      refine mX11_pushes ?_
      rw [e45, e48, Int.toNat_natCast]
      refine ⟨by omega, by omega, hk', by omega, by omega, by omega, by omega, by omega, by omega, ⟨by omega, by omega⟩, rfl, kk _ (fun i hi => ?_) ?_ (fun o a b c e f => ?_) (fun i => ?_) (fun i => ?_) (fun i => ?_) (fun i => ?_)⟩
      · rw [wr_row hi, wr_obj (by omega), wr_obj (by omega), wr_obj (by omega), wr_obj (by omega)]
      · rw [wr_same]; omega
      · rw [wr_obj a, wr_obj f, wr_obj e, wr_obj c, wr_obj b]
      · rw [wr_obj (by omega), wr_obj (by omega), wr_obj (by omega), wr_obj (by omega)]
        by_cases q : i = D + 1
        · subst q; rw [wr_same, if_pos rfl]
        · rw [wr_row q, if_neg q]
      · rw [wr_obj (by omega), wr_obj (by omega), wr_obj (by omega)]
        by_cases q : i = D + 1
        · subst q; rw [wr_same, if_pos rfl]
        · rw [wr_row q, wr_obj (by omega), if_neg q]
      · rw [wr_obj (by omega), wr_obj (by omega)]
        by_cases q : i = D + 1
        · subst q; rw [wr_same, if_pos rfl]
        · rw [wr_row q, wr_obj (by omega), wr_obj (by omega), if_neg q]
      · rw [wr_obj (by omega)]
        by_cases q : i = D + 1
        · subst q; rw [wr_same, if_pos rfl]
        · rw [wr_row q, wr_obj (by omega), wr_obj (by omega), wr_obj (by omega), if_neg q]
    refine m_aheadN (d := d) hn hr ha k2 X1 (fun _ => by rw [wr_row (by omega)]; exact W h8) (by rw [wr_row (by omega)]; exact h8) T1 (fun z τ1 t1 t2 t3 t4 => ⟨rfl, go τ1 t4 (fun σ G0 G45 G G7 G8 G9 G1 => ?_)⟩) (fun z τ1 t1 t2 t3 => ⟨rfl, go τ1 t3 (fun σ G0 G45 G G7 G8 G9 G1 => ?_)⟩)
    · have FX : frX τ σ := ⟨fun o x => by rw [G o (by omega) (by omega) (by omega) (by omega) (by omega), t4.1 o (by omega), wr_obj (by omega)], fun i x => by rw [G0 i (by omega), t4.2 i (by omega), wr_row (by omega)]⟩
      refine kg (by omega) z σ ⟨?_, t1.fr (fun i _ _ => G0 i (by omega)), by rw [G0 8 (by omega)]; exact t2, (fun _ => by rw [G0 9 (by omega)]; exact t3 t2), ?_, ?_, ?_, by rw [G7, if_pos rfl], by rw [G8, if_pos rfl], by rw [G9, if_pos rfl], by rw [G1, if_pos rfl], ?_⟩ ⟨FX, fun i hi => ⟨?_, ?_, ?_, ?_, ?_⟩, ?_, ?_, ?_, ?_, ?_⟩
      · exact ⟨fun i hi => by rw [G 141 (by omega) (by omega) (by omega) (by omega) (by omega)]; exact (X1.fr t4).1 i hi, by rw [G0 2 (by omega)]; exact (X1.fr t4).2⟩
      · rw [G0 39 (by omega), t4.2 39 (by omega), wr_row (by omega)]; exact h39
      · rw [G45]; omega
      · rw [G0 46 (by omega), t4.2 46 (by omega), wr_same]; omega
      · rw [G0 49 (by omega), t4.2 49 (by omega), wr_row (by omega)]; exact ho
      · rw [G7, if_neg (by omega), t4.1 167 (by omega), wr_obj (by omega)]
      · rw [G8, if_neg (by omega), t4.1 168 (by omega), wr_obj (by omega)]
      · rw [G9, if_neg (by omega), t4.1 169 (by omega), wr_obj (by omega)]
      · rw [G 170 (by omega) (by omega) (by omega) (by omega) (by omega), t4.1 170 (by omega), wr_obj (by omega)]
      · rw [G1, if_neg (by omega), t4.1 171 (by omega), wr_obj (by omega)]
      · rw [G 172 (by omega) (by omega) (by omega) (by omega) (by omega), t4.1 172 (by omega), wr_obj (by omega)]
      · rw [G 165 (by omega) (by omega) (by omega) (by omega) (by omega), t4.1 165 (by omega), wr_obj (by omega)]
      · rw [G 166 (by omega) (by omega) (by omega) (by omega) (by omega), t4.1 166 (by omega), wr_obj (by omega)]
      · rw [G0 48 (by omega), t4.2 48 (by omega), wr_row (by omega)]
      · rw [G0 38 (by omega), t4.2 38 (by omega), wr_row (by omega)]
    · exact kb (by omega) z σ ⟨by rw [G0 8 (by omega)]; exact t1.1, by rw [G0 9 (by omega)]; exact t1.2⟩ ⟨fun o x => by rw [G o (by omega) (by omega) (by omega) (by omega) (by omega), t3.1 o (by omega), wr_obj (by omega)], fun i x => by rw [G0 i (by omega), t3.2 i (by omega), wr_row (by omega)]⟩
  · refine m_blame (f := (0, τ 140 9)) (by rw [h8]) (Int.le_refl 0) ⟨by omega, by omega⟩ (by rw [T.2.1]; exact ⟨by omega, by omega⟩) (fun τ' t1 F G => ⟨rfl, ?_⟩)
    rw [if_pos rfl, T.2.1] at t1
    have q8 : τ' 140 8 = 5 := congrArg Prod.fst t1
    have q9 : τ' 140 9 = ((tk r n a).2.1 : Int) := congrArg Prod.snd t1
    exact ⟨fun q => by omega, fun _ => k5 (by omega) τ' ⟨q8, q9⟩ ⟨fun o x => F o (by omega), fun i x => G i (by omega) (by omega)⟩⟩
theorem PM.bg0 (H : PM r n bi D K ph bg B a od τ) : PM r n bi D K ph 0 B a od (wr τ 169 D 0) := by
  obtain ⟨-, -, -, -, -, -, -, hk, hp, hb, hB, ho⟩ := id H
  exact H.fr (fun i hi => by rw [wr_obj (by omega)]) (wr_obj (by omega)) (by rw [wr_obj (by omega)]; exact hk) (by rw [wr_obj (by omega)]; exact hp) wr_same (by rw [wr_obj (by omega)]; exact hB) (by rw [wr_obj (by omega)]; exact ho)
/-- a round bracket opens -/
theorem m_operB {m : Nat} (hn : n ≤ 1600) (hD : D ≤ 8) (ha : a ≤ n) (hr : ∀ i, 0 ≤ r i ∧ r i ≤ 255) (hK : inR K) (H : PM r n bi D K ph bg B a od τ) (g : gdP r n a K bg) (y40 : tSb r n a 40 = true) (h48 : τ 140 48 = (m : Int)) (kg : ¬ 8 ≤ D → tBb r n (tN r n a) = false → ∀ τ', PM r n bi (D + 1) 2 0 1 (m : Int) (tN r n a) od τ' → frD D (wr τ 169 D 0) τ' → Q (some (vB false)) τ') (kb : ¬ 8 ≤ D → tBb r n (tN r n a) = true → ∀ τ', PF 1 (tPl r n (tN r n a)) τ' → frX τ τ' → Q (some (vB false)) τ') (k5 : 8 ≤ D → ∀ τ', PF 5 (tPl r n a) τ' → frX τ τ' → Q (some (vB false)) τ') : M0 E (d + 3) qX11_operand [vR 140] τ Q := by
  refine m_oper121 (d := d + 2) (by omega) ha hr hK H g ?_
  have H0 := H.bg0
  have F0 : frX τ (wr τ 169 D 0) := frX.rf.w1 (by omega)
  refine bX11_operand_121 (m_isSign ha hr ⟨by omega, by omega⟩ H0.2.1 ⟨_, rfl, fun y => (by rw [y40] at y; cases y), fun _ => m_opens (d := d) hn hr ha hD ⟨by omega, by omega⟩ (by rw [(tS_k y40).1]; omega) H0 (by rw [wr_obj (by omega)]; exact h48) (fun z1 z2 τ1 t1 t2 => ⟨rfl, kg z1 z2 τ1 t1 t2⟩) (fun z1 z2 τ1 t1 t2 => ⟨rfl, kb z1 z2 τ1 t1 (F0.tr t2)⟩) (fun z1 τ1 t1 t2 => ⟨rfl, k5 z1 τ1 t1 (F0.tr t2)⟩)⟩)
/-- what is no operand -/
theorem m_operX (hD : D < 20) (ha : a ≤ n) (hr : ∀ i, 0 ≤ r i ∧ r i ≤ 255) (hn : n ≤ 1600) (hK : inR K) (H : PM r n bi D K ph bg B a od τ) (g : gdP r n a K bg) (n40 : tSb r n a 40 = false) (n3 : tNb r n a = false) (nf : ftP r n a = 0) (n27 : tWb r n a 27 = false) (n28 : tWb r n a 28 = false) (k1 : ∀ τ', PF 1 (tPl r n a) τ' → frX τ τ' → Q (some (vB true)) τ') : M0 E (d + 1) qX11_operand [vR 140] τ Q := by
  refine m_oper121 hD ha hr hK H g ?_
  have tr := tk_r (r := r) (n := n) ha hr
  have H0 := H.bg0
  have F0 : frX τ (wr τ 169 D 0) := frX.rf.w1 (by omega)
  obtain ⟨X, T', h8, W', -⟩ := H0
  have nw : ∀ i, (i = 22 ∨ i = 23 ∨ i = 24 ∨ i = 25 ∨ i = 26 ∨ i = 6) → tWb r n a i = false := by
    intro i hi
    rw [← Bool.not_eq_true]
    intro z
    have : ftP r n a ≠ 0 := by
      rcases hi with h | h | h | h | h | h <;> subst h
      · rw [ft_w (by omega) z]; decide
      · rw [ft_w (by omega) z]; decide
      · rw [ft_w (by omega) z]; decide
      · rw [ft_w (by omega) z]; decide
      · rw [ft_w (by omega) z]; decide
      · rw [ft_o (fun j j1 j2 => by rw [← Bool.not_eq_true]; intro y; have := tW_u (by omega) (by omega) y z; omega), if_pos z]; decide
    exact this nf
  refine bX11_operand_121 (m_isSign ha hr ⟨by omega, by omega⟩ T' ⟨_, rfl, fun _ => m_isWord (i := 27) ha hr (by omega) rfl W' T' ⟨_, rfl, fun y => (by rw [n27] at y; cases y), fun _ => m_isWord (i := 28) ha hr (by omega) rfl W' T' ⟨_, rfl, fun _ => ?_, fun y => (by rw [n28] at y; cases y)⟩⟩, fun y => (by rw [n40] at y; cases y)⟩)
  rw [T'.1]
  refine ⟨fun _ => ?_, fun q => ?_⟩
  · refine m_isWord (i := 22) ha hr (by omega) rfl W' T' ⟨_, rfl, fun y22 => m_isWord (i := 23) ha hr (by omega) rfl W' T' ⟨_, rfl, fun y23 => m_isWord (i := 24) ha hr (by omega) rfl W' T' ⟨_, rfl, fun y24 => m_isWord (i := 25) ha hr (by omega) rfl W' T' ⟨_, rfl, fun y25 => m_isWord (i := 26) ha hr (by omega) rfl W' T' ⟨_, rfl, fun y26 => m_isWord (i := 6) ha hr (by omega) rfl W' T' ⟨_, rfl, fun y6 => ?_, fun y => (by rw [nw 6 (by omega)] at y; cases y)⟩, fun y => (by rw [nw 26 (by omega)] at y; cases y)⟩, fun y => (by rw [nw 25 (by omega)] at y; cases y)⟩, fun y => (by rw [nw 24 (by omega)] at y; cases y)⟩, fun y => (by rw [nw 23 (by omega)] at y; cases y)⟩, fun y => (by rw [nw 22 (by omega)] at y; cases y)⟩
    refine bX11_operand_321 ⟨⟨by omega, by omega⟩, fun q => absurd rfl q, fun _ => m_blame (f := (0, wr τ 169 D 0 140 9)) (by rw [h8]) (Int.le_refl 0) ⟨by omega, by omega⟩ (by rw [T'.2.1]; exact ⟨by omega, by omega⟩) (fun τ' t1 F G => ⟨rfl, ?_⟩)⟩
    rw [if_pos rfl, T'.2.1] at t1
    have q8 : τ' 140 8 = 1 := congrArg Prod.fst t1
    have q9 : τ' 140 9 = ((tk r n a).2.1 : Int) := congrArg Prod.snd t1
    exact ⟨fun q => by omega, fun _ => k1 τ' ⟨q8, q9⟩ (F0.tr ⟨fun o x => F o (by omega), fun i x => G i (by omega) (by omega)⟩)⟩
  · have k3 := (rf_s tr.2.1).2.2.1.mp q
    have : tNb r n a = true := decide_eq_true k3
    rw [n3] at this; cases this
/-- the smaller, the greater -/
theorem m_operP {m : Nat} (hn : n ≤ 1600) (hD : D ≤ 8) (ha : a ≤ n) (hr : ∀ i, 0 ≤ r i ∧ r i ≤ 255) (hK : inR K) (H : PM r n bi D K ph bg B a od τ) (g : gdP r n a K bg) (yw : tWb r n a 27 = true ∨ tWb r n a 28 = true) (h48 : τ 140 48 = (m : Int)) (kB : tBb r n (tN r n a) = true → ∀ τ', PF 1 (tPl r n (tN r n a)) τ' → frX τ τ' → Q (some (vB false)) τ') (k1 : tBb r n (tN r n a) = false → tSb r n (tN r n a) 40 = false → ∀ τ', PF 1 (tPl r n (tN r n a)) τ' → frX τ τ' → Q (some (vB false)) τ') (k5 : tBb r n (tN r n a) = false → tSb r n (tN r n a) 40 = true → 8 ≤ D → ∀ τ', PF 5 (tPl r n (tN r n a)) τ' → frX τ τ' → Q (some (vB false)) τ') (kb : tBb r n (tN r n a) = false → tSb r n (tN r n a) 40 = true → ¬ 8 ≤ D → tBb r n (tN r n (tN r n a)) = true → ∀ τ', PF 1 (tPl r n (tN r n (tN r n a))) τ' → frX τ τ' → Q (some (vB false)) τ') (kg : tBb r n (tN r n a) = false → tSb r n (tN r n a) 40 = true → ¬ 8 ≤ D → tBb r n (tN r n (tN r n a)) = false → ∀ τ', PM r n bi (D + 1) 3 0 1 (m : Int) (tN r n (tN r n a)) od τ' → τ' 170 (D + 1) = opS (if tWb r n a 27 = true then -13 else -14) → frD D (wr τ 169 D 0) τ' → Q (some (vB false)) τ') : M0 E (d + 3) qX11_operand [vR 140] τ Q := by
  refine m_oper121 (d := d + 2) (by omega) ha hr hK H g ?_
  have H0 := H.bg0
  have F0 : frX τ (wr τ 169 D 0) := frX.rf.w1 (by omega)
  have h48' : wr τ 169 D 0 140 48 = (m : Int) := by rw [wr_obj (by omega)]; exact h48
  have k4 : (tk r n a).1 = 4 := by
    rcases yw with z | z
    · exact (tW_k z).1
    · exact (tW_k z).1
  have t0 := tN_lt ha hr (show 2 ≤ (tk r n a).1 by omega)
  have n40 : tSb r n a 40 = false := tS_f (by omega)
  have tr1 := tk_r (r := r) (n := n) t0.2 hr
  generalize wr τ 169 D 0 = σ at H0 F0 h48' kg ⊢
  obtain ⟨X, T', h8, W', -⟩ := id H0
  have go : ∀ y0 : Int, inR y0 → y0 = opS (if tWb r n a 27 = true then -13 else -14) → V0 E (d + 2 + 1) qX11_operand 174 [some (vR 140), none, none, none] [vI y0] σ Q := fun y0 hy ey => by
    refine bX11_operand_174 (m_aheadN (d := d + 1) hn hr ha (by omega) X W' h8 T' (fun z τ1 t1 t2 t3 t4 => ⟨rfl, ?_⟩) (fun z τ1 t1 t2 t3 => ⟨rfl, ?_⟩))
    · have H1 := H0.ah t1 t2 t3 t4
      have e48 : τ1 140 48 = (m : Int) := by rw [t4.2 48 (by omega)]; exact h48'
      refine m_isSign t0.2 hr ⟨by omega, by omega⟩ t1 ⟨_, rfl, fun y => ?_, fun y => ?_⟩
      · refine m_opens (d := d) hn hr t0.2 hD ⟨by omega, by omega⟩ (by rw [(tS_k y).1]; omega) H1 e48 (fun z1 z2 τ2 u1 u2 => ⟨rfl, ?_⟩) (fun z1 z2 τ2 u1 u2 => ⟨rfl, ?_⟩) (fun z1 τ2 u1 u2 => ⟨rfl, ?_⟩)
        · have q8 := u1.2.2.1
          obtain ⟨q45, q45'⟩ := u1.hd
          refine ⟨fun q => absurd q8 q, fun _ => ?_⟩
          rw [q45', q45]
          obtain ⟨-, -, -, -, -, -, -, uk, up, ub, uB, uo⟩ := id u1
          obtain ⟨v1, v2, v3, v4, v5, v6, v7⟩ := u2
          obtain ⟨w1, w2, w3, w4, w5, w6, w7⟩ := t4.d (D := D)
          refine ⟨by omega, by omega, hy, kg z y z1 z2 _ (u1.fr (fun i hi => by rw [wr_obj (by omega)]) (wr_obj (by omega)) (by rw [wr_obj (by omega)]; exact uk) (by rw [wr_obj (by omega)]; exact up) (by rw [wr_obj (by omega)]; exact ub) (by rw [wr_obj (by omega)]; exact uB) (by rw [wr_obj (by omega)]; exact uo)) (by rw [wr_same, ey]) ⟨(t4.x.tr v1).w1 (by omega), fun i hi => ?_, ?_, ?_, ?_, ?_, ?_⟩⟩
          · obtain ⟨x1, x2, x3, x4, x5⟩ := v2 i hi
            obtain ⟨y1, y2, y3, y4, y5⟩ := w2 i hi
            refine ⟨?_, ?_, ?_, ?_, ?_⟩
            · rw [wr_obj (by omega), x1, y1]
            · rw [wr_obj (by omega), x2, y2]
            · rw [wr_obj (by omega), x3, y3]
            · rw [wr_row (by omega), x4, y4]
            · rw [wr_obj (by omega), x5, y5]
          · rw [wr_obj (by omega), v3, w3]
          · rw [wr_obj (by omega), v4, w4]
          · rw [wr_obj (by omega), v5, w5]
          · rw [wr_obj (by omega), v6, w6]
          · rw [wr_obj (by omega), v7, w7]
        · exact ⟨fun _ => kb z y z1 z2 τ2 u1 (F0.tr (t4.x.tr u2)), fun q => by have := u1.1; omega⟩
        · exact ⟨fun _ => k5 z y z1 τ2 u1 (F0.tr (t4.x.tr u2)), fun q => by have := u1.1; omega⟩
      · refine m_blame (f := (0, τ1 140 9)) (by rw [t2]) (Int.le_refl 0) ⟨by omega, by omega⟩ (by rw [t1.2.1]; exact ⟨by omega, by omega⟩) (fun τ2 u1 F G => ⟨rfl, ?_⟩)
        rw [if_pos rfl, t1.2.1] at u1
        have q8 : τ2 140 8 = 1 := congrArg Prod.fst u1
        have q9 : τ2 140 9 = ((tk r n (tN r n a)).2.1 : Int) := congrArg Prod.snd u1
        have F2 : frX τ1 τ2 := ⟨fun o x => F o (by omega), fun i x => G i (by omega) (by omega)⟩
        exact m_opensF (k := 1) (p := tPl r n (tN r n a)) (by omega) ⟨q8, q9⟩ ⟨rfl, fun _ => k1 z y τ2 ⟨q8, q9⟩ (F0.tr (t4.x.tr F2)), fun q => by omega⟩
    · have fin : ∃ τ0 : mm_Mem, τ0 = τ1 := ⟨τ1, rfl⟩
      have e : M0 E (d + 2) qX11_opens [vR 140, vI 3] τ1 (fun v τ4 => v = none ∧ (((τ4 140 8) ≠ 0 → Q (some (vB false)) τ4) ∧ ((τ4 140 8) = 0 → 0 ≤ ((τ4 140 45) - 1) ∧ ((τ4 140 45) - 1) < 20 ∧ inR y0 ∧ Q (some (vB false)) (wr τ4 170 ((τ4 140 45) - 1).toNat y0)))) := m_opensF (d := d + 1) (k := 1) (by omega) t1 ⟨rfl, fun _ => kB z τ1 t1 (F0.tr t3.x), fun q => by have := t1.1; omega⟩
      refine m_isSignG ⟨by omega, by omega⟩ (fun b => ⟨_, rfl, fun _ => e, fun _ => m_blameF (k := 1) (by omega) t1 ⟨rfl, e⟩⟩)
  refine bX11_operand_121 (m_isSign ha hr ⟨by omega, by omega⟩ T' ⟨_, rfl, fun _ => m_isWord (i := 27) ha hr (by omega) rfl W' T' ⟨_, rfl, fun y => m_isWord (i := 27) ha hr (by omega) rfl W' T' ⟨_, rfl, fun y2 => (by rw [y] at y2; cases y2), fun _ => go 15 ⟨by omega, by omega⟩ (by rw [if_pos y]; rfl)⟩, fun y => m_isWord (i := 28) ha hr (by omega) rfl W' T' ⟨_, rfl, fun y2 => ?_, fun _ => m_isWord (i := 27) ha hr (by omega) rfl W' T' ⟨_, rfl, fun _ => go 16 ⟨by omega, by omega⟩ (by rw [if_neg (by rw [y]; decide)]; rfl), fun y2 => (by rw [y] at y2; cases y2)⟩⟩⟩, fun y => (by rw [n40] at y; cases y)⟩)
  rcases yw with z | z
  · rw [y] at z; cases z
  · rw [y2] at z; cases z
/-- not -/
theorem m_operN2 {m : Nat} (hn : n ≤ 1600) (hD : D ≤ 8) (hm : m < 500) (ha : a ≤ n) (hr : ∀ i, 0 ≤ r i ∧ r i ≤ 255) (hK : K = 1 ∨ K = 5) (hb1 : bg ≠ 0) (H : PM r n bi D K ph bg B a od τ) (yw : tWb r n a 20 = true) (h48 : τ 140 48 = (m : Int)) (kb : tBb r n (tN r n a) = true → ∀ τ', PF 1 (tPl r n (tN r n a)) τ' → frX τ τ' → Q (some (vB false)) τ') (kg : tBb r n (tN r n a) = false → ∀ τ', PM r n bi D K ph bg B (tN r n a) od τ' → τ' 140 48 = ((m + 1 : Nat) : Int) → τ' 140 38 = τ 140 38 → τ' 172 m = 22 → frQ D m zz τ τ' → Q (some (vB false)) τ') : M0 E (d + 2) qX11_operand [vR 140] τ Q := by
  obtain ⟨e1, e2⟩ := H.hd
  obtain ⟨X, T, h8, W, h39, h45, h46, hk, hp, hb, hB, ho⟩ := id H
  refine mX11_operand ?_
  rw [e2, e1, hk]
  refine ⟨by omega, by omega, m_isTest (by rcases hK with h | h <;> subst h <;> decide) ⟨_, rfl, fun q => absurd hK (of_decide_eq_false q), fun _ => ⟨by omega, by omega, ?_⟩⟩⟩
  rw [hb]
  refine ⟨fun q => absurd q hb1, fun _ => m_isWord (i := 20) ha hr (by omega) rfl W T ⟨_, rfl, fun y => (by rw [yw] at y; cases y), fun _ => mX11_holdsBack ?_⟩⟩
  rw [h48, Int.toNat_natCast]
  refine ⟨by omega, by omega, ⟨by omega, by omega⟩, ⟨by omega, by omega⟩, rfl, ?_⟩
  have H1 : PM r n bi D K ph bg B a od (wr (wr τ 172 m 22) 140 48 ((m : Int) + 1)) := H.fr (fun i hi => by rw [wr_row (by omega), wr_obj (by omega)]) (by rw [wr_obj (by omega), wr_obj (by omega)]) (by rw [wr_obj (by omega), wr_obj (by omega)]; exact hk) (by rw [wr_obj (by omega), wr_obj (by omega)]; exact hp) (by rw [wr_obj (by omega), wr_obj (by omega)]; exact hb) (by rw [wr_obj (by omega), wr_obj (by omega)]; exact hB) (by rw [wr_row (by omega), wr_obj (by omega)]; exact ho)
  have FX : frX τ (wr (wr τ 172 m 22) 140 48 ((m : Int) + 1)) := (frX.rf.w1 (by omega)).w0 (by omega)
  have FQ : frQ D m zz τ (wr (wr τ 172 m 22) 140 48 ((m : Int) + 1)) := ⟨FX, fun i hi => ⟨by rw [wr_obj (by omega), wr_obj (by omega)], by rw [wr_obj (by omega), wr_obj (by omega)]⟩, fun i hi => ⟨by rw [wr_obj (by omega), wr_obj (by omega)], by rw [wr_obj (by omega), wr_obj (by omega)], by rw [wr_obj (by omega), wr_obj (by omega)]⟩, fun i hi => by rw [wr_obj (by omega), wr_row (by omega)], fun i hi => ⟨by rw [wr_obj (by omega), wr_obj (by omega)], by rw [wr_obj (by omega), wr_obj (by omega)]⟩⟩
  have g1 : wr (wr τ 172 m 22) 140 48 ((m : Int) + 1) 140 48 = ((m + 1 : Nat) : Int) := by rw [wr_same]; omega
  have g2 : wr (wr τ 172 m 22) 140 48 ((m : Int) + 1) 140 38 = τ 140 38 := by rw [wr_row (by omega), wr_obj (by omega)]
  have g3 : wr (wr τ 172 m 22) 140 48 ((m : Int) + 1) 172 m = 22 := by rw [wr_obj (by omega), wr_same]
  generalize wr (wr τ 172 m 22) 140 48 ((m : Int) + 1) = σ at H1 FX FQ g1 g2 g3
  obtain ⟨X1, T1, s8, W1, -⟩ := id H1
  exact m_aheadN (d := d) hn hr ha (by rw [(tW_k yw).1]; omega) X1 W1 s8 T1 (fun z τ' t1 t2 t3 t4 => ⟨rfl, kg z τ' (H1.ah t1 t2 t3 t4) (by rw [t4.2 48 (by omega)]; exact g1) (by rw [t4.2 38 (by omega)]; exact g2) (by rw [t4.1 172 (by omega)]; exact g3) (FQ.tr (Nat.le_refl _) (Nat.le_refl _) t4.q)⟩) (fun z τ' t1 t2 t3 => ⟨rfl, kb z τ' t1 (FX.tr t3.x)⟩)
/-- at the first operand of a test that is no not -/
theorem m_oper60 (hD : D < 20) (ha : a ≤ n) (hr : ∀ i, 0 ≤ r i ∧ r i ≤ 255) (hK : K = 1 ∨ K = 5) (hb1 : bg ≠ 0) (H : PM r n bi D K ph bg B a od τ) (nw : tWb r n a 20 = false) (k1 : V0 E (d + 1) qX11_operand 60 [some (vR 140), some (vI (D : Int)), some (vI 1), none] [] τ Q) : M0 E (d + 1) qX11_operand [vR 140] τ Q := by
  obtain ⟨e1, e2⟩ := H.hd
  obtain ⟨X, T, h8, W, h39, h45, h46, hk, hp, hb, hB, ho⟩ := id H
  refine mX11_operand ?_
  rw [e2, e1, hk]
  refine ⟨by omega, by omega, m_isTest (by rcases hK with h | h <;> subst h <;> decide) ⟨_, rfl, fun q => absurd hK (of_decide_eq_false q), fun _ => ⟨by omega, by omega, ?_⟩⟩⟩
  rw [hb]
  exact ⟨fun q => absurd q hb1, fun _ => m_isWord (i := 20) ha hr (by omega) rfl W T ⟨_, rfl, fun _ => k1, fun y => (by rw [nw] at y; cases y)⟩⟩
/-- a square bracket opens -/
theorem m_operS {m : Nat} (hn : n ≤ 1600) (hD : D ≤ 8) (ha : a ≤ n) (hr : ∀ i, 0 ≤ r i ∧ r i ≤ 255) (hK : K = 1 ∨ K = 5) (hb1 : bg ≠ 0) (H : PM r n bi D K ph bg B a od τ) (yw : tSb r n a 91 = true) (h48 : τ 140 48 = (m : Int)) (kg : ¬ 8 ≤ D → tBb r n (tN r n a) = false → ∀ τ', PM r n bi (D + 1) 5 0 1 (m : Int) (tN r n a) od τ' → frD D (wr τ 169 D 0) τ' → Q (some (vB false)) τ') (kb : ¬ 8 ≤ D → tBb r n (tN r n a) = true → ∀ τ', PF 1 (tPl r n (tN r n a)) τ' → frX τ τ' → Q (some (vB false)) τ') (k5 : 8 ≤ D → ∀ τ', PF 5 (tPl r n a) τ' → frX τ τ' → Q (some (vB false)) τ') : M0 E (d + 3) qX11_operand [vR 140] τ Q := by
  have H0 := H.bg0
  have F0 : frX τ (wr τ 169 D 0) := frX.rf.w1 (by omega)
  refine m_oper60 (d := d + 2) (by omega) ha hr hK hb1 H (tW_f (by rw [(tS_k yw).1]; omega)) (bX11_operand_60 ?_)
  rw [Int.toNat_natCast]
  exact ⟨by omega, by omega, ⟨by omega, by omega⟩, fun q => absurd q (by omega), fun _ => m_isSign ha hr ⟨by omega, by omega⟩ H0.2.1 ⟨_, rfl, fun y => (by rw [yw] at y; cases y), fun _ => m_opens (d := d) hn hr ha hD ⟨by omega, by omega⟩ (by rw [(tS_k yw).1]; omega) H0 (by rw [wr_obj (by omega)]; exact h48) (fun z1 z2 τ1 t1 t2 => ⟨rfl, kg z1 z2 τ1 t1 t2⟩) (fun z1 z2 τ1 t1 t2 => ⟨rfl, kb z1 z2 τ1 t1 (F0.tr t2)⟩) (fun z1 τ1 t1 t2 => ⟨rfl, k5 z1 τ1 t1 (F0.tr t2)⟩)⟩⟩
/-- all -/
theorem m_operA {z : Nat} (hn : n ≤ 1600) (hb2 : bi < 2) (hD : D ≤ 8) (ha : a ≤ n) (hr : ∀ i, 0 ≤ r i ∧ r i ≤ 255) (hK : K = 1 ∨ K = 5) (hb1 : bg ≠ 0) (H : PM r n bi D K ph bg B a od τ) (yw : tWb r n a 21 = true) (h38 : 1600 * (bi : Int) + τ 140 38 = (z : Int)) (hz : z < 1600 * bi + 1600) (hz0 : 1600 * bi ≤ z) (kg : tBb r n (tN r n a) = false → ∀ τ', PM r n bi D K 2 0 B (tN r n a) od τ' → τ' 140 48 = τ 140 48 → 1600 * (bi : Int) + τ' 140 38 = ((z + 1 : Nat) : Int) → cdM 1 (τ' 165 z) (τ' 166 z) → frQ D m0 z τ τ' → τ' 172 = τ 172 → Q (some (vB true)) τ') (kb : tBb r n (tN r n a) = true → ∀ τ', PF 1 (tPl r n (tN r n a)) τ' → frX τ τ' → Q (some (vB true)) τ') : M0 E (d + 2) qX11_operand [vR 140] τ Q := by
  have nw : tWb r n a 20 = false := by
    rw [← Bool.not_eq_true]; intro y; have := tW_u (by omega) (by omega) y yw; omega
  refine m_oper60 (d := d + 1) (by omega) ha hr hK hb1 H nw (bX11_operand_60 ?_)
  have H0 := H.bg0
  have F0 : frX τ (wr τ 169 D 0) := frX.rf.w1 (by omega)
  obtain ⟨X0, T0, z8, W0, z39, z45, z46, zk, zp, zb, zB, zo⟩ := id H0
  have z38 : 1600 * (bi : Int) + wr τ 169 D 0 140 38 = (z : Int) := by rw [wr_obj (by omega)]; exact h38
  rw [Int.toNat_natCast]
  refine ⟨by omega, by omega, ⟨by omega, by omega⟩, fun q => absurd q (by omega), fun _ => m_isSign ha hr ⟨by omega, by omega⟩ T0 ⟨_, rfl, fun _ => ⟨fun q => absurd q (by omega), fun _ => m_isWord (i := 21) ha hr (by omega) rfl W0 T0 ⟨_, rfl, fun y => (by rw [yw] at y; cases y), fun _ => m_add (z := z) hb2 z39 z38 hz (by omega) ⟨by omega, by omega⟩ ⟨by omega, by omega⟩ ⟨rfl, by omega, by omega, ?_⟩⟩⟩, fun y => ?_⟩⟩
  · have G : ∀ o, o ≠ 140 → o ≠ 165 → o ≠ 166 → o ≠ 168 → o ≠ 169 → wr (wr (wr (wr (wr τ 169 D 0) 165 z 9) 166 z 0) 140 38 (wr τ 169 D 0 140 38 + 1)) 168 D 2 o = τ o := fun o a b c e f => by rw [wr_obj e, wr_obj a, wr_obj c, wr_obj b, wr_obj f]
    have G0 : ∀ i, i ≠ 38 → wr (wr (wr (wr (wr τ 169 D 0) 165 z 9) 166 z 0) 140 38 (wr τ 169 D 0 140 38 + 1)) 168 D 2 140 i = τ 140 i := fun i hi => by rw [wr_obj (by omega), wr_row hi, wr_obj (by omega), wr_obj (by omega), wr_obj (by omega)]
    have G38 : wr (wr (wr (wr (wr τ 169 D 0) 165 z 9) 166 z 0) 140 38 (wr τ 169 D 0 140 38 + 1)) 168 D 2 140 38 = τ 140 38 + 1 := by rw [wr_obj (by omega), wr_same, wr_obj (by omega)]
    have G5 : ∀ i, wr (wr (wr (wr (wr τ 169 D 0) 165 z 9) 166 z 0) 140 38 (wr τ 169 D 0 140 38 + 1)) 168 D 2 165 i = if i = z then 9 else τ 165 i := fun i => by
      rw [wr_obj (by omega), wr_obj (by omega), wr_obj (by omega)]
      by_cases q : i = z
      · subst q; rw [wr_same, if_pos rfl]
      · rw [wr_row q, wr_obj (by omega), if_neg q]
    have G6 : ∀ i, i ≠ z → wr (wr (wr (wr (wr τ 169 D 0) 165 z 9) 166 z 0) 140 38 (wr τ 169 D 0 140 38 + 1)) 168 D 2 166 i = τ 166 i := fun i hi => by
      rw [wr_obj (by omega), wr_obj (by omega), wr_row hi, wr_obj (by omega), wr_obj (by omega)]
    have G8 : ∀ i, wr (wr (wr (wr (wr τ 169 D 0) 165 z 9) 166 z 0) 140 38 (wr τ 169 D 0 140 38 + 1)) 168 D 2 168 i = if i = D then 2 else τ 168 i := fun i => by
      by_cases q : i = D
      · subst q; rw [wr_same, if_pos rfl]
      · rw [wr_row q, wr_obj (by omega), wr_obj (by omega), wr_obj (by omega), wr_obj (by omega), if_neg q]
    have G9 : ∀ i, wr (wr (wr (wr (wr τ 169 D 0) 165 z 9) 166 z 0) 140 38 (wr τ 169 D 0 140 38 + 1)) 168 D 2 169 i = if i = D then 0 else τ 169 i := fun i => by
      rw [wr_obj (by omega), wr_obj (by omega), wr_obj (by omega), wr_obj (by omega)]
      by_cases q : i = D
      · subst q; rw [wr_same, if_pos rfl]
      · rw [wr_row q, if_neg q]
    generalize wr (wr (wr (wr (wr τ 169 D 0) 165 z 9) 166 z 0) 140 38 (wr τ 169 D 0 140 38 + 1)) 168 D 2 = σ at G G0 G38 G5 G6 G8 G9
    obtain ⟨X, T, h8, W, h39, h45, h46, hk, hp, hb, hB, ho⟩ := id H
    have H1 : PM r n bi D K 2 0 B a od σ := H.fr (fun i hi => G0 i (by omega)) (G 141 (by omega) (by omega) (by omega) (by omega) (by omega)) (by rw [G 167 (by omega) (by omega) (by omega) (by omega) (by omega)]; exact hk) (by rw [G8, if_pos rfl]) (by rw [G9, if_pos rfl]) (by rw [G 171 (by omega) (by omega) (by omega) (by omega) (by omega)]; exact hB) (by rw [G0 49 (by omega)]; exact ho)
    have FX : frX τ σ := ⟨fun o x => G o (by omega) (by omega) (by omega) (by omega) (by omega), fun i x => G0 i (by omega)⟩
    have FQ : frQ D m0 z τ σ := ⟨FX, fun i hi => ⟨by rw [G8, if_neg (by omega)], by rw [G9, if_neg (by omega)]⟩, fun i hi => ⟨by rw [G 167 (by omega) (by omega) (by omega) (by omega) (by omega)], by rw [G 170 (by omega) (by omega) (by omega) (by omega) (by omega)], by rw [G 171 (by omega) (by omega) (by omega) (by omega) (by omega)]⟩, fun i hi => by rw [G 172 (by omega) (by omega) (by omega) (by omega) (by omega)], fun i hi => ⟨by rw [G5, if_neg (by omega)], by rw [G6 i (by omega)]⟩⟩
    obtain ⟨X1, T1, s8, W1, -⟩ := id H1
    refine m_aheadN (d := d) hn hr ha (by rw [(tW_k yw).1]; omega) X1 W1 s8 T1 (fun q τ' t1 t2 t3 t4 => ⟨rfl, ?_⟩) (fun q τ' t1 t2 t3 => ⟨rfl, kb q τ' t1 (FX.tr t3.x)⟩)
    refine kg q τ' (H1.ah t1 t2 t3 t4) (by rw [t4.2 48 (by omega), G0 48 (by omega)]) (by rw [t4.2 38 (by omega), G38]; omega) ?_ (FQ.tr (Nat.le_refl _) (Nat.le_refl _) t4.q) (by rw [t4.1 172 (by omega), G 172 (by omega) (by omega) (by omega) (by omega) (by omega)])
    rw [t4.1 165 (by omega), G5, if_pos rfl]
    exact Or.inr (Or.inl ⟨rfl, rfl⟩)
  · rw [tS_f (by rw [(tW_k yw).1]; omega)] at y; cases y
end MOper2
