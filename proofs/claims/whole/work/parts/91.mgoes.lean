/-! the reference goes on -/
section MGoes
variable {E : mm_Env} {d : Nat} {τ : mm_Mem} {Q : mm_Q0} {r : Nat → Int} {n bi D a m0 zz : Nat} {K ph bg B od : Int}
theorem add0 (h : addP r n a = 0) : tSb r n a 43 = false ∧ tSb r n a 45 = false := by
  unfold addP at h
  by_cases q1 : tSb r n a 43 = true
  · rw [if_pos q1] at h; exact absurd h (by decide)
  by_cases q2 : tSb r n a 45 = true
  · rw [if_neg q1, if_pos q2] at h; exact absurd h (by decide)
  exact ⟨by simpa using q1, by simpa using q2⟩
theorem mul0 (h : mulP r n a = 0) : tSb r n a 42 = false ∧ tSb r n a 47 = false ∧ tSb r n a 37 = false := by
  unfold mulP at h
  by_cases q1 : tSb r n a 42 = true
  · rw [if_pos q1] at h; exact absurd h (by decide)
  by_cases q2 : tSb r n a 47 = true
  · rw [if_neg q1, if_pos q2] at h; exact absurd h (by decide)
  by_cases q3 : tSb r n a 37 = true
  · rw [if_neg q1, if_neg q2, if_pos q3] at h; exact absurd h (by decide)
  exact ⟨by simpa using q1, by simpa using q2, by simpa using q3⟩
theorem cmp0 (h : cmpP r n a = 0) : tSb r n a 60 = false ∧ tSb r n a 62 = false ∧ tSb r n a 61 = false := by
  unfold cmpP at h
  by_cases q1 : tSb r n a 60 = true
  · rw [if_pos q1] at h; exact absurd h (by decide)
  by_cases q2 : tSb r n a 62 = true
  · rw [if_neg q1, if_pos q2] at h; exact absurd h (by decide)
  by_cases q3 : tSb r n a 61 = true
  · rw [if_neg q1, if_neg q2, if_pos q3] at h; exact absurd h (by decide)
  exact ⟨by simpa using q1, by simpa using q2, by simpa using q3⟩
theorem tS_u {c c' : Int} (h : tSb r n a c = true) (hne : c ≠ c') : tSb r n a c' = false := by
  rw [← Bool.not_eq_true]
  intro y
  exact hne ((tS_k h).2.symm.trans (tS_k y).2)
/-- the three ways on -/
theorem m_goes (hD : D < 20) (ha : a ≤ n) (hr : ∀ i, 0 ≤ r i ∧ r i ≤ 255) (hK : inR K) (H : PM r n bi D K ph bg B a od τ) (kA : ph < 2 → (addP r n a ≠ 0 ∨ mulP r n a ≠ 0) → V0 E (d + 1) qX11_goesOn 99 [some (vR 140), none, none, none, none] [vI (if addP r n a ≠ 0 then 5 else 6), vR 140] τ Q) (kC : (K = 1 ∨ K = 5) → ph = 0 → addP r n a = 0 → mulP r n a = 0 → cmpP r n a ≠ 0 → V0 E (d + 1) qX11_goesOn 215 [some (vR 140), some (vI (D : Int)), none, none, none] [] τ Q) (kE : (ph < 2 → addP r n a = 0 ∧ mulP r n a = 0) → ((K = 1 ∨ K = 5) → ph = 0 → cmpP r n a = 0) → V0 E (d + 1) qX11_goesOn 272 [some (vR 140), some (vI (D : Int)), some (vI K), some (vB (decide (K = 1 ∨ K = 5))), none] [] τ Q) : M0 E (d + 1) qX11_goesOn [vR 140] τ Q := by
  obtain ⟨e1, e2⟩ := H.hd
  obtain ⟨X, T, h8, W, h39, h45, h46, hk, hp, hb, hB, ho⟩ := id H
  have i43 : inR (43 : Int) := by decide
  have i45 : inR (45 : Int) := by decide
  have i42 : inR (42 : Int) := by decide
  have i47 : inR (47 : Int) := by decide
  have i37 : inR (37 : Int) := by decide
  have i60 : inR (60 : Int) := by decide
  have i62 : inR (62 : Int) := by decide
  have i61 : inR (61 : Int) := by decide
  -- a comparison, or further
  have cmpx : (ph < 2 → addP r n a = 0 ∧ mulP r n a = 0) → ((decide (K = 1 ∨ K = 5) = false → V0 E (d + 1) qX11_goesOn 272 [some (vR 140), some (vI (D : Int)), some (vI K), some (vB (decide (K = 1 ∨ K = 5))), none] [] τ Q) ∧ (decide (K = 1 ∨ K = 5) = true → 0 ≤ (D : Int) ∧ (D : Int) < 20 ∧ (((τ 168 D) ≠ 0 → V0 E (d + 1) qX11_goesOn 272 [some (vR 140), some (vI (D : Int)), some (vI K), some (vB (decide (K = 1 ∨ K = 5))), none] [] τ Q) ∧ ((τ 168 D) = 0 → M0 E d qX11_isSign [vR 140, vI 60] τ (fun v τ13 => ∃ b14 : Bool, v = some (vB b14) ∧ ((b14 = true → V0 E (d + 1) qX11_goesOn 215 [some (vR 140), some (vI (D : Int)), none, none, none] [] τ13 Q) ∧ (b14 = false → M0 E d qX11_isSign [vR 140, vI 62] τ13 (fun v τ15 => ∃ b16 : Bool, v = some (vB b16) ∧ ((b16 = true → V0 E (d + 1) qX11_goesOn 215 [some (vR 140), some (vI (D : Int)), none, none, none] [] τ15 Q) ∧ (b16 = false → M0 E d qX11_isSign [vR 140, vI 61] τ15 (fun v τ17 => ∃ b18 : Bool, v = some (vB b18) ∧ ((b18 = false → V0 E (d + 1) qX11_goesOn 272 [some (vR 140), some (vI (D : Int)), some (vI K), some (vB (decide (K = 1 ∨ K = 5))), none] [] τ17 Q) ∧ (b18 = true → V0 E (d + 1) qX11_goesOn 215 [some (vR 140), some (vI (D : Int)), none, none, none] [] τ17 Q))))))))))))) := fun am => by
    refine ⟨fun q => kE am (fun y => absurd y (of_decide_eq_false q)), fun q => ⟨by omega, by omega, ?_⟩⟩
    rw [hp]
    have q := of_decide_eq_true q
    refine ⟨fun z => kE am (fun _ y => absurd y z), fun z => ?_⟩
    obtain ⟨a1, a2⟩ := am (by omega)
    refine m_isSign ha hr i60 T ⟨_, rfl, fun y => kC q z a1 a2 (by unfold cmpP; rw [if_pos y]; decide), fun y => m_isSign ha hr i62 T ⟨_, rfl, fun y2 => kC q z a1 a2 (by unfold cmpP; rw [if_neg (by rw [y]; decide), if_pos y2]; decide), fun y2 => m_isSign ha hr i61 T ⟨_, rfl, fun y3 => kE am (fun _ _ => by unfold cmpP; rw [if_neg (by rw [y]; decide), if_neg (by rw [y2]; decide), if_neg (by rw [y3]; decide)]), fun y3 => kC q z a1 a2 (by unfold cmpP; rw [if_neg (by rw [y]; decide), if_neg (by rw [y2]; decide), if_pos y3]; decide)⟩⟩⟩
  -- which of the two ranks
  have rk : ph < 2 → (addP r n a ≠ 0 ∨ mulP r n a ≠ 0) → M0 E d qX11_isSign [vR 140, vI 43] τ (fun v τ21 => ∃ b22 : Bool, v = some (vB b22) ∧ ((b22 = true → V0 E (d + 1) qX11_goesOn 99 [some (vR 140), none, none, none, none] [vI 5, vR 140] τ21 Q) ∧ (b22 = false → M0 E d qX11_isSign [vR 140, vI 45] τ21 (fun v τ23 => ∃ b24 : Bool, v = some (vB b24) ∧ ((b24 = false → V0 E (d + 1) qX11_goesOn 99 [some (vR 140), none, none, none, none] [vI 6, vR 140] τ23 Q) ∧ (b24 = true → V0 E (d + 1) qX11_goesOn 99 [some (vR 140), none, none, none, none] [vI 5, vR 140] τ23 Q)))))) := fun p2 am => by
    have k := kA p2 am
    refine m_isSign ha hr i43 T ⟨_, rfl, fun y => ?_, fun y => m_isSign ha hr i45 T ⟨_, rfl, fun y2 => ?_, fun y2 => ?_⟩⟩
    · rw [if_pos (by unfold addP; rw [if_pos y]; decide)] at k; exact k
    · rw [if_neg (by unfold addP; rw [if_neg (by rw [y]; decide), if_neg (by rw [y2]; decide)]; exact fun z => z rfl)] at k; exact k
    · rw [if_pos (by unfold addP; rw [if_neg (by rw [y]; decide), if_pos y2]; decide)] at k; exact k
  refine mX11_goesOn ?_
  rw [e2, e1, hk]
  refine ⟨by omega, by omega, m_isTest hK ⟨_, rfl, by omega, by omega, fun q => ?_, fun q => ?_⟩⟩
  · rw [hp] at q
    exact cmpx (fun y => by omega)
  · rw [hp] at q
    have p2 : ph < 2 := by omega
    refine m_isSign ha hr i43 T ⟨_, rfl, fun y43 => rk p2 (Or.inl (by unfold addP; rw [if_pos y43]; decide)), fun y43 => m_isSign ha hr i45 T ⟨_, rfl, fun y45 => rk p2 (Or.inl (by unfold addP; rw [if_neg (by rw [y43]; decide), if_pos y45]; decide)), fun y45 => m_isSign ha hr i42 T ⟨_, rfl, fun y42 => rk p2 (Or.inr (by unfold mulP; rw [if_pos y42]; decide)), fun y42 => m_isSign ha hr i47 T ⟨_, rfl, fun y47 => rk p2 (Or.inr (by unfold mulP; rw [if_neg (by rw [y42]; decide), if_pos y47]; decide)), fun y47 => m_isSign ha hr i37 T ⟨_, rfl, fun y37 => cmpx (fun _ => ⟨?_, ?_⟩), fun y37 => rk p2 (Or.inr (by unfold mulP; rw [if_neg (by rw [y42]; decide), if_neg (by rw [y47]; decide), if_pos y37]; decide))⟩⟩⟩⟩⟩
    · unfold addP; rw [if_neg (by rw [y43]; decide), if_neg (by rw [y45]; decide)]
    · unfold mulP; rw [if_neg (by rw [y42]; decide), if_neg (by rw [y47]; decide), if_neg (by rw [y37]; decide)]
/-- the same frame, all but these -/
def frH (D : Nat) (τ τ' : mm_Mem) : Prop := (∀ o, o ≠ 140 → o ≠ 168 → o ≠ 169 → o ≠ 172 → τ' o = τ o) ∧ (∀ i, (i < 3 ∨ 9 < i) → i ≠ 48 → i ≠ 49 → τ' 140 i = τ 140 i) ∧ ∀ i, i ≠ D → τ' 168 i = τ 168 i ∧ τ' 169 i = τ 169 i
theorem frH.q {τ' : mm_Mem} (h : frH D τ τ') (e : ∀ i, i < m0 → τ' 172 i = τ 172 i) : frQ D m0 zz τ τ' := ⟨⟨fun o x => h.1 o (by omega) (by omega) (by omega) (by omega), fun i x => h.2.1 i (by omega) (by omega) (by omega)⟩, fun i hi => h.2.2 i (by omega), fun i _ => ⟨by rw [h.1 167 (by omega) (by omega) (by omega) (by omega)], by rw [h.1 170 (by omega) (by omega) (by omega) (by omega)], by rw [h.1 171 (by omega) (by omega) (by omega) (by omega)]⟩, e, fun i _ => ⟨by rw [h.1 165 (by omega) (by omega) (by omega) (by omega)], by rw [h.1 166 (by omega) (by omega) (by omega) (by omega)]⟩⟩
/-- behind an operation held back: what the frame is then, and the next token -/
theorem wr_48 (σ : mm_Mem) (m : Nat) (x v : Int) : wr (wr σ 172 m x) 140 48 v 140 = wr σ 140 48 v 140 := by
  funext i
  by_cases q : i = 48
  · subst q; rw [wr_same, wr_same]
  · rw [wr_row q, wr_row q, wr_obj (by omega)]
theorem m_tail {x ph' bg' : Int} {σ σ2 : mm_Mem} (hn : n ≤ 1600) (hr : ∀ i, 0 ≤ r i ∧ r i ≤ 255) (ha : a ≤ n) (k2 : 2 ≤ (tk r n a).1) (H : PM r n bi D K ph bg B a od σ) (e2 : σ2 140 = wr σ 140 48 ((m0 : Int) + 1) 140) (e172 : ∀ i, σ2 172 i = if i = m0 then opS x else σ 172 i) (e168 : ∀ i, σ2 168 i = if i = D then ph' else σ 168 i) (e169 : ∀ i, σ2 169 i = if i = D then bg' else σ 169 i) (eo : ∀ o, o ≠ 140 → o ≠ 168 → o ≠ 169 → o ≠ 172 → σ2 o = σ o) (kg : tBb r n (tN r n a) = false → ∀ τ', PM r n bi D K ph' bg' B (tN r n a) 0 τ' → τ' 140 48 = ((m0 + 1 : Nat) : Int) → τ' 140 38 = σ 140 38 → τ' 172 m0 = opS x → (∀ i, i < m0 → τ' 172 i = σ 172 i) → frH D σ τ' → Q (some (vB true)) τ') (kb : tBb r n (tN r n a) = true → ∀ τ', PF 1 (tPl r n (tN r n a)) τ' → frX σ τ' → Q (some (vB true)) τ') : M0 E (d + 1) qX11_ahead [vR 140] σ2 (fun v τ11 => v = none ∧ Q (some (vB true)) (wr τ11 140 49 0)) := by
  obtain ⟨X, T, h8, W, h39, h45, h46, hk, hp, hb, hB, ho⟩ := id H
  have f : ∀ i, i ≠ 48 → σ2 140 i = σ 140 i := fun i hi => by rw [e2, wr_row hi]
  have f48 : σ2 140 48 = ((m0 + 1 : Nat) : Int) := by rw [e2, wr_same]; omega
  have H2 : PM r n bi D K ph' bg' B a od σ2 := H.fr (fun i hi => f i (by omega)) (eo 141 (by omega) (by omega) (by omega) (by omega)) (by rw [eo 167 (by omega) (by omega) (by omega) (by omega)]; exact hk) (by rw [e168, if_pos rfl]) (by rw [e169, if_pos rfl]) (by rw [eo 171 (by omega) (by omega) (by omega) (by omega)]; exact hB) (by rw [f 49 (by omega)]; exact ho)
  have F2 : frX σ σ2 := ⟨fun o x => eo o (by omega) (by omega) (by omega) (by omega), fun i x => f i (by omega)⟩
  obtain ⟨X2, T2, s8, W2, -⟩ := id H2
  refine m_aheadN (d := d) hn hr ha k2 X2 W2 s8 T2 (fun z τ1 t1 t2 t3 t4 => ⟨rfl, ?_⟩) (fun z τ1 t1 t2 t3 => ⟨rfl, kb z _ ⟨by rw [wr_row (by omega)]; exact t1.1, by rw [wr_row (by omega)]; exact t1.2⟩ ((F2.tr t3.x).w0 (by omega))⟩)
  have H3 := H2.ah t1 t2 t3 t4
  obtain ⟨-, -, -, -, -, -, -, uk, up, ub, uB, -⟩ := id H3
  have o : ∀ o, o ≠ 140 → wr τ1 140 49 0 o = σ2 o := fun o ho => by rw [wr_obj ho, t4.1 o ho]
  refine kg z _ (H3.fr (fun i hi => wr_row (by omega)) (wr_obj (by omega)) (by rw [wr_obj (by omega)]; exact uk) (by rw [wr_obj (by omega)]; exact up) (by rw [wr_obj (by omega)]; exact ub) (by rw [wr_obj (by omega)]; exact uB) wr_same) ?_ ?_ ?_ (fun i hi => ?_) ⟨fun o' a b c e => ?_, fun i a b c => ?_, fun i hi => ⟨?_, ?_⟩⟩
  · rw [wr_row (by omega), t4.2 48 (by omega)]; exact f48
  · rw [wr_row (by omega), t4.2 38 (by omega)]; exact f 38 (by omega)
  · rw [o 172 (by omega), e172, if_pos rfl]
  · rw [o 172 (by omega), e172, if_neg (by omega)]
  · rw [o o' a]; exact eo o' a b c e
  · rw [wr_row c, t4.2 i a]; exact f i b
  · rw [o 168 (by omega), e168, if_neg hi]
  · rw [o 169 (by omega), e169, if_neg hi]
theorem m_hold {x : Int} {σ : mm_Mem} (hm : m0 < 500) (hx : isO x) (h48 : σ 140 48 = (m0 : Int)) (k1 : Q none (wr (wr σ 172 m0 (opS x)) 140 48 ((m0 : Int) + 1))) : M0 E d qX11_holdsBack [vR 140, vI (opS x)] σ Q := by
  refine mX11_holdsBack ?_
  rw [h48, Int.toNat_natCast]
  refine ⟨by omega, by omega, ?_, ⟨by omega, by omega⟩, k1⟩
  unfold opS isO at *
  split
  · decide
  · exact ⟨by omega, by omega⟩
/-- what a step to the next operand leaves -/
def nxQ (bi D : Nat) (m0 zz : Nat) (x : Int) (c : List Int) (τ τ' : mm_Mem) : Prop := τ' 140 48 = ((m0 + 1 : Nat) : Int) ∧ 1600 * (bi : Int) + τ' 140 38 = ((zz + c.length : Nat) : Int) ∧ CodeM zz c τ' ∧ τ' 172 m0 = opS x ∧ frQ D m0 zz τ τ'
theorem PM.j {τ' : mm_Mem} (H : PM r n bi D K ph bg B a od τ) (F : frJ zz τ τ') : PM r n bi D K ph bg B a od τ' := by
  obtain ⟨-, -, -, -, -, -, -, hk, hp, hb, hB, ho⟩ := id H
  exact H.fr (fun i hi => F.2.1 i (by omega) (by omega)) (F.1 141 (by omega) (by omega) (by omega)) (by rw [F.1 167 (by omega) (by omega) (by omega)]; exact hk) (by rw [F.1 168 (by omega) (by omega) (by omega)]; exact hp) (by rw [F.1 169 (by omega) (by omega) (by omega)]; exact hb) (by rw [F.1 171 (by omega) (by omega) (by omega)]; exact hB) (by rw [F.2.1 49 (by omega) (by omega)]; exact ho)
theorem nx_of {x : Int} {c : List Int} {τ1 τ' : mm_Mem} (h48 : τ' 140 48 = ((m0 + 1 : Nat) : Int)) (h38 : τ' 140 38 = τ1 140 38) (c38 : 1600 * (bi : Int) + τ1 140 38 = ((zz + c.length : Nat) : Int)) (C : CodeM zz c τ1) (e : τ' 172 m0 = opS x) (F : frJ zz τ τ1) (G : frH D τ1 τ') (e' : ∀ i, i < m0 → τ' 172 i = τ1 172 i) : nxQ bi D m0 zz x c τ τ' :=
  ⟨h48, by rw [h38]; exact c38, C.fr (fun i _ _ => ⟨by rw [G.1 165 (by omega) (by omega) (by omega) (by omega)], by rw [G.1 166 (by omega) (by omega) (by omega) (by omega)]⟩), e, F.q.tr (Nat.le_refl _) (Nat.le_refl _) (G.q (zz := zz) e')⟩
theorem mul_o (h : mulP r n a ≠ 0) : isO (mulP r n a) ∧ rkP (mulP r n a) = 6 := by
  unfold mulP at h ⊢
  by_cases q1 : tSb r n a 42 = true
  · rw [if_pos q1]; exact ⟨by unfold isO; omega, by decide⟩
  by_cases q2 : tSb r n a 47 = true
  · rw [if_neg q1, if_pos q2]; exact ⟨by unfold isO; omega, by decide⟩
  by_cases q3 : tSb r n a 37 = true
  · rw [if_neg q1, if_neg q2, if_pos q3]; exact ⟨by unfold isO; omega, by decide⟩
  rw [if_neg q1, if_neg q2, if_neg q3] at h; exact absurd rfl h
theorem add_o (h : addP r n a ≠ 0) : isO (addP r n a) ∧ rkP (addP r n a) = 5 := by
  unfold addP at h ⊢
  by_cases q1 : tSb r n a 43 = true
  · rw [if_pos q1]; exact ⟨by unfold isO; omega, by decide⟩
  by_cases q2 : tSb r n a 45 = true
  · rw [if_neg q1, if_pos q2]; exact ⟨by unfold isO; omega, by decide⟩
  rw [if_neg q1, if_neg q2] at h; exact absurd rfl h
theorem add_mul (h : addP r n a ≠ 0) : mulP r n a = 0 := by
  have : tSb r n a 43 = true ∨ tSb r n a 45 = true := by
    unfold addP at h
    by_cases q1 : tSb r n a 43 = true
    · exact Or.inl q1
    by_cases q2 : tSb r n a 45 = true
    · exact Or.inr q2
    rw [if_neg q1, if_neg q2] at h; exact absurd rfl h
  have no : ∀ c : Int, c ≠ 43 → c ≠ 45 → tSb r n a c = false := fun c h1 h2 => by
    rcases this with y | y
    · exact tS_u y (Ne.symm h1)
    · exact tS_u y (Ne.symm h2)
  unfold mulP
  rw [if_neg (by rw [no 42 (by omega) (by omega)]; decide), if_neg (by rw [no 47 (by omega) (by omega)]; decide), if_neg (by rw [no 37 (by omega) (by omega)]; decide)]
/-- plus, minus, times, over, rest -/
theorem m_goArith {x ρ : Int} {c : List Int} (hn : n ≤ 1600) (hb2 : bi < 2) (hD : D ≤ 8) (ha : a ≤ n) (hr : ∀ i, 0 ≤ r i ∧ r i ≤ 255) (hK : inR K) (hz0 : 1600 * bi ≤ zz) (hB : B ≤ (m0 : Int)) (hl : zz + c.length ≤ 1600 * bi + 1600) (hm : m0 < 500) (h5 : τ 140 48 ≤ 500) (H : PM r n bi D K ph bg B a od τ) (p2 : ph < 2) (hx : (addP r n a ≠ 0 ∧ x = addP r n a ∧ ρ = 5) ∨ (mulP r n a ≠ 0 ∧ x = mulP r n a ∧ ρ = 6)) (bl : belP ρ B m0 τ) (P : PSt bi ρ m0 zz c τ) (kg : tBb r n (tN r n a) = false → ∀ τ', PM r n bi D K ph bg B (tN r n a) 0 τ' → nxQ bi D m0 zz x c τ τ' → Q (some (vB true)) τ') (kb : tBb r n (tN r n a) = true → ∀ τ', PF 1 (tPl r n (tN r n a)) τ' → frX τ τ' → Q (some (vB true)) τ') : M0 E (d + 2) qX11_goesOn [vR 140] τ Q := by
  have xo : isO x ∧ 2 ≤ (tk r n a).1 := by
    rcases hx with ⟨h, e, -⟩ | ⟨h, e, -⟩
    · rw [e]; exact ⟨(add_o h).1, (add_s h).1⟩
    · rw [e]; exact ⟨(mul_o h).1, (mul_s h).1⟩
  have eρ : (if addP r n a ≠ 0 then (5 : Int) else 6) = ρ := by
    rcases hx with ⟨h, -, e⟩ | ⟨h, -, e⟩
    · rw [if_pos h, e]
    · rw [if_neg (fun y => h (add_mul y)), e]
  have ρr : inR ρ := by rcases hx with ⟨-, -, e⟩ | ⟨-, -, e⟩ <;> rw [e] <;> decide
  refine m_goes (d := d + 1) (by omega) ha hr hK H (fun _ _ => ?_) (fun _ _ y1 y2 => ?_) (fun y _ => ?_)
  · rw [eρ]
    refine bX11_goesOn_99 (m_joins (d := d) hb2 (by omega) ρr hz0 hB hl (Or.inr h5) H.2.2.2.2.1 H.2.2.2.2.2.1 H.2.2.2.2.2.2.2.2.2.2.1 bl P (fun τ1 j1 j2 j3 j4 => ⟨rfl, ?_⟩))
    have H1 := H.j j4
    have T1 := H1.2.1
    have go : M0 E (d + 1) qX11_holdsBack [vR 140, vI (opS x)] τ1 (fun v τ10 => v = none ∧ M0 E (d + 1) qX11_ahead [vR 140] τ10 (fun v τ11 => v = none ∧ Q (some (vB true)) (wr τ11 140 49 0))) := by
      refine m_hold hm xo.1 j1 ⟨rfl, m_tail (d := d) (x := x) (ph' := ph) (bg' := bg) hn hr ha xo.2 H1 (wr_48 _ _ _ _) (fun i => ?_) (fun i => ?_) (fun i => ?_) (fun o a b c e => by rw [wr_obj a, wr_obj e]) (fun z τ' t1 t2 t3 t4 t5 t6 => kg z τ' t1 (nx_of t2 t3 j2 j3 t4 j4 t6 t5)) (fun z τ' t1 t2 => kb z τ' t1 ((j4.q (D := D) (m0 := m0)).1.tr t2))⟩
      · rw [wr_obj (by omega)]
        by_cases q : i = m0
        · subst q; rw [wr_same, if_pos rfl]
        · rw [wr_row q, if_neg q]
      · rw [wr_obj (by omega), wr_obj (by omega)]
        by_cases q : i = D
        · subst q; rw [if_pos rfl]; exact H1.2.2.2.2.2.2.2.2.1
        · rw [if_neg q]
      · rw [wr_obj (by omega), wr_obj (by omega)]
        by_cases q : i = D
        · subst q; rw [if_pos rfl]; exact H1.2.2.2.2.2.2.2.2.2.1
        · rw [if_neg q]
    -- which sign it is
    have sg : ∀ {s : Int} {y : Int}, opS x = s → y = s → M0 E (d + 1) qX11_holdsBack [vR 140, vI y] τ1 (fun v τ10 => v = none ∧ M0 E (d + 1) qX11_ahead [vR 140] τ10 (fun v τ11 => v = none ∧ Q (some (vB true)) (wr τ11 140 49 0))) := fun e1 e2 => by rw [e2, ← e1]; exact go
    refine m_isSign ha hr (by decide) T1 ⟨_, rfl, fun y43 => m_isSign ha hr (by decide) T1 ⟨_, rfl, fun y45 => m_isSign ha hr (by decide) T1 ⟨_, rfl, fun y42 => m_isSign ha hr (by decide) T1 ⟨_, rfl, fun y47 => sg (s := 14) ?_ rfl, fun y47 => sg (s := 13) ?_ rfl⟩, fun y42 => sg (s := 12) ?_ rfl⟩, fun y45 => sg (s := 11) ?_ rfl⟩, fun y43 => sg (s := 10) ?_ rfl⟩
    · have a0 : addP r n a = 0 := by unfold addP; rw [if_neg (by rw [y43]; decide), if_neg (by rw [y45]; decide)]
      rcases hx with ⟨h, -, -⟩ | ⟨h, e, -⟩
      · exact absurd a0 h
      · rw [e]
        unfold mulP at h ⊢
        rw [if_neg (by rw [y42]; decide), if_neg (by rw [y47]; decide)] at h ⊢
        by_cases y37 : tSb r n a 37 = true
        · rw [if_pos y37]; decide
        · rw [if_neg y37] at h; exact absurd rfl h
    · have a0 : addP r n a = 0 := by unfold addP; rw [if_neg (by rw [y43]; decide), if_neg (by rw [y45]; decide)]
      rcases hx with ⟨h, -, -⟩ | ⟨h, e, -⟩
      · exact absurd a0 h
      · rw [e]; unfold mulP; rw [if_neg (by rw [y42]; decide), if_pos y47]; decide
    · have a0 : addP r n a = 0 := by unfold addP; rw [if_neg (by rw [y43]; decide), if_neg (by rw [y45]; decide)]
      rcases hx with ⟨h, -, -⟩ | ⟨h, e, -⟩
      · exact absurd a0 h
      · rw [e]; unfold mulP; rw [if_pos y42]; decide
    · have ax : addP r n a = -9 := by unfold addP; rw [if_neg (by rw [y43]; decide), if_pos y45]
      rcases hx with ⟨h, e, -⟩ | ⟨h, e, -⟩
      · rw [e, ax]; decide
      · exact absurd (add_mul (by rw [ax]; decide)) h
    · have ax : addP r n a = -8 := by unfold addP; rw [if_pos y43]
      rcases hx with ⟨h, e, -⟩ | ⟨h, e, -⟩
      · rw [e, ax]; decide
      · exact absurd (add_mul (by rw [ax]; decide)) h
  · rcases hx with ⟨h, -, -⟩ | ⟨h, -, -⟩
    · exact absurd y1 h
    · exact absurd y2 h
  · obtain ⟨y1, y2⟩ := y p2
    rcases hx with ⟨h, -, -⟩ | ⟨h, -, -⟩
    · exact absurd y1 h
    · exact absurd y2 h
end MGoes
