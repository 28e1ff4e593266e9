/-! the reference goes on: tests and brackets -/
section MGoes2
variable {E : mm_Env} {d : Nat} {τ : mm_Mem} {Q : mm_Q0} {r : Nat → Int} {n bi D a m0 zz : Nat} {K ph bg B od : Int}
theorem cmp_o (h : cmpP r n a ≠ 0) : isO (cmpP r n a) ∧ rkP (cmpP r n a) = 4 ∧ 2 ≤ (tk r n a).1 := by
  unfold cmpP at h ⊢
  by_cases q1 : tSb r n a 60 = true
  · rw [if_pos q1]; exact ⟨by unfold isO; omega, by decide, by rw [(tS_k q1).1]; omega⟩
  by_cases q2 : tSb r n a 62 = true
  · rw [if_neg q1, if_pos q2]; exact ⟨by unfold isO; omega, by decide, by rw [(tS_k q2).1]; omega⟩
  by_cases q3 : tSb r n a 61 = true
  · rw [if_neg q1, if_neg q2, if_pos q3]; exact ⟨by unfold isO; omega, by decide, by rw [(tS_k q3).1]; omega⟩
  rw [if_neg q1, if_neg q2, if_neg q3] at h; exact absurd rfl h
theorem cmp_am (h : cmpP r n a ≠ 0) : addP r n a = 0 ∧ mulP r n a = 0 := by
  have : tSb r n a 60 = true ∨ tSb r n a 62 = true ∨ tSb r n a 61 = true := by
    unfold cmpP at h
    by_cases q1 : tSb r n a 60 = true
    · exact Or.inl q1
    by_cases q2 : tSb r n a 62 = true
    · exact Or.inr (Or.inl q2)
    by_cases q3 : tSb r n a 61 = true
    · exact Or.inr (Or.inr q3)
    rw [if_neg q1, if_neg q2, if_neg q3] at h; exact absurd rfl h
  have no : ∀ c : Int, c < 60 → tSb r n a c = false := fun c h1 => by
    rcases this with y | y | y
    · exact tS_u y (by omega)
    · exact tS_u y (by omega)
    · exact tS_u y (by omega)
  constructor
  · unfold addP
    rw [if_neg (by rw [no 43 (by omega)]; decide), if_neg (by rw [no 45 (by omega)]; decide)]
  · unfold mulP
    rw [if_neg (by rw [no 42 (by omega)]; decide), if_neg (by rw [no 47 (by omega)]; decide), if_neg (by rw [no 37 (by omega)]; decide)]
/-- less, more, like -/
theorem m_goCmp {c : List Int} (hn : n ≤ 1600) (hb2 : bi < 2) (hD : D ≤ 8) (ha : a ≤ n) (hr : ∀ i, 0 ≤ r i ∧ r i ≤ 255) (hK : K = 1 ∨ K = 5) (hz0 : 1600 * bi ≤ zz) (hB : B ≤ (m0 : Int)) (hl : zz + c.length ≤ 1600 * bi + 1600) (hm : m0 < 500) (h5 : τ 140 48 ≤ 500) (H : PM r n bi D K 0 bg B a od τ) (hx : cmpP r n a ≠ 0) (bl : belP 5 B m0 τ) (P : PSt bi 5 m0 zz c τ) (kg : tBb r n (tN r n a) = false → ∀ τ', PM r n bi D K 1 bg B (tN r n a) 0 τ' → nxQ bi D m0 zz (cmpP r n a) c τ τ' → Q (some (vB true)) τ') (kb : tBb r n (tN r n a) = true → ∀ τ', PF 1 (tPl r n (tN r n a)) τ' → frX τ τ' → Q (some (vB true)) τ') : M0 E (d + 2) qX11_goesOn [vR 140] τ Q := by
  obtain ⟨xo, -, k2⟩ := cmp_o hx
  obtain ⟨am1, am2⟩ := cmp_am hx
  have Kr : inR K := by rcases hK with h | h <;> subst h <;> decide
  refine m_goes (d := d + 1) (by omega) ha hr Kr H (fun _ y => ?_) (fun _ _ _ _ _ => ?_) (fun _ y => absurd (y hK rfl) hx)
  · rcases y with y | y
    · exact absurd am1 y
    · exact absurd am2 y
  · refine bX11_goesOn_215 (m_joins (d := d) hb2 (by omega) (by decide) hz0 hB hl (Or.inr h5) H.2.2.2.2.1 H.2.2.2.2.2.1 H.2.2.2.2.2.2.2.2.2.2.1 bl P (fun τ1 j1 j2 j3 j4 => ⟨rfl, ?_⟩))
    have H1 := H.j j4
    have T1 := H1.2.1
    have go : ∀ {s : Int}, opS (cmpP r n a) = s → M0 E (d + 1) qX11_holdsBack [vR 140, vI s] τ1 (fun v τ6 => v = none ∧ 0 ≤ (D : Int) ∧ (D : Int) < 20 ∧ M0 E (d + 1) qX11_ahead [vR 140] (wr τ6 168 (D : Int).toNat 1) (fun v τ9 => v = none ∧ Q (some (vB true)) (wr τ9 140 49 0))) := fun {s} es => by
      rw [← es]
      refine m_hold hm xo j1 ⟨rfl, by omega, by omega, ?_⟩
      rw [Int.toNat_natCast]
      refine m_tail (d := d) (x := cmpP r n a) (ph' := 1) (bg' := bg) hn hr ha k2 H1 (by rw [wr_obj (by omega)]; exact wr_48 _ _ _ _) (fun i => ?_) (fun i => ?_) (fun i => ?_) (fun o a b c e => by rw [wr_obj b, wr_obj a, wr_obj e]) (fun z τ' t1 t2 t3 t4 t5 t6 => kg z τ' t1 (nx_of t2 t3 j2 j3 t4 j4 t6 t5)) (fun z τ' t1 t2 => kb z τ' t1 ((j4.q (D := D) (m0 := m0)).1.tr t2))
      · rw [wr_obj (by omega), wr_obj (by omega)]
        by_cases q : i = m0
        · subst q; rw [wr_same, if_pos rfl]
        · rw [wr_row q, if_neg q]
      · by_cases q : i = D
        · subst q; rw [wr_same, if_pos rfl]
        · rw [wr_row q, wr_obj (by omega), wr_obj (by omega), if_neg q]
      · rw [wr_obj (by omega), wr_obj (by omega), wr_obj (by omega)]
        by_cases q : i = D
        · subst q; rw [if_pos rfl]; exact H1.2.2.2.2.2.2.2.2.2.1
        · rw [if_neg q]
    refine m_isSign ha hr (by decide) T1 ⟨_, rfl, fun y60 => m_isSign ha hr (by decide) T1 ⟨_, rfl, fun y62 => go ?_, fun y62 => go ?_⟩, fun y60 => go ?_⟩
    · unfold cmpP at hx ⊢
      rw [if_neg (by rw [y60]; decide), if_neg (by rw [y62]; decide)] at hx ⊢
      by_cases y61 : tSb r n a 61 = true
      · rw [if_pos y61]; decide
      · rw [if_neg y61] at hx; exact absurd rfl hx
    · unfold cmpP; rw [if_neg (by rw [y60]; decide), if_pos y62]; decide
    · unfold cmpP; rw [if_pos y60]; decide
/-- and, or -/
theorem m_goAnd {x ρ : Int} {i : Nat} {c : List Int} (hn : n ≤ 1600) (hb2 : bi < 2) (hD : D ≤ 8) (ha : a ≤ n) (hr : ∀ i, 0 ≤ r i ∧ r i ≤ 255) (hK : K = 1 ∨ K = 5) (hz0 : 1600 * bi ≤ zz) (hB : B ≤ (m0 : Int)) (hl : zz + c.length ≤ 1600 * bi + 1600) (hm : m0 < 500) (h5 : τ 140 48 ≤ 500) (H : PM r n bi D K ph bg B a od τ) (p0 : ph ≠ 0) (hi : (i = 19 ∧ x = -18 ∧ ρ = 2) ∨ (i = 18 ∧ x = -19 ∧ ρ = 1)) (hw : tWb r n a i = true) (bl : belP ρ B m0 τ) (P : PSt bi ρ m0 zz c τ) (kg : tBb r n (tN r n a) = false → ∀ τ', PM r n bi D K 0 1 B (tN r n a) 0 τ' → nxQ bi D m0 zz x c τ τ' → Q (some (vB true)) τ') (kb : tBb r n (tN r n a) = true → ∀ τ', PF 1 (tPl r n (tN r n a)) τ' → frX τ τ' → Q (some (vB true)) τ') : M0 E (d + 2) qX11_goesOn [vR 140] τ Q := by
  have k4 := (tW_k hw).1
  have n2 : (tk r n a).1 ≠ 2 := by omega
  have Kr : inR K := by rcases hK with h | h <;> subst h <;> decide
  have xo : isO x := by rcases hi with ⟨-, e, -⟩ | ⟨-, e, -⟩ <;> rw [e] <;> unfold isO <;> omega
  have ρr : inR ρ := by rcases hi with ⟨-, -, e⟩ | ⟨-, -, e⟩ <;> rw [e] <;> decide
  have am1 : addP r n a = 0 := by unfold addP; rw [if_neg (by rw [tS_f n2]; decide), if_neg (by rw [tS_f n2]; decide)]
  have am2 : mulP r n a = 0 := by unfold mulP; rw [if_neg (by rw [tS_f n2]; decide), if_neg (by rw [tS_f n2]; decide), if_neg (by rw [tS_f n2]; decide)]
  have e8 := H.2.2.1
  have W := H.2.2.2.1
  have T := H.2.1
  have hp := H.2.2.2.2.2.2.2.2.1
  refine m_goes (d := d + 1) (by omega) ha hr Kr H (fun _ y => ?_) (fun _ y => absurd y p0) (fun _ _ => ?_)
  · rcases y with y | y
    · exact absurd am1 y
    · exact absurd am2 y
  · have g343 : ∀ b : Bool, (b = true ↔ i = 19) → V0 E (d + 1 + 1) qX11_goesOn 343 [some (vR 140), some (vI (D : Int)), none, none, some (vB b)] [vI ρ, vR 140] τ Q := fun b hb => by
      refine bX11_goesOn_343 (m_joins (d := d) hb2 (by omega) ρr hz0 hB hl (Or.inr h5) H.2.2.2.2.1 H.2.2.2.2.2.1 H.2.2.2.2.2.2.2.2.2.2.1 bl P (fun τ1 j1 j2 j3 j4 => ⟨rfl, ?_⟩))
      have H1 := H.j j4
      have go : ∀ {s : Int}, opS x = s → M0 E (d + 1) qX11_holdsBack [vR 140, vI s] τ1 (fun v τ2 => v = none ∧ 0 ≤ (D : Int) ∧ (D : Int) < 20 ∧ 0 ≤ (D : Int) ∧ (D : Int) < 20 ∧ M0 E (d + 1) qX11_ahead [vR 140] (wr (wr τ2 168 (D : Int).toNat 0) 169 (D : Int).toNat 1) (fun v τ7 => v = none ∧ Q (some (vB true)) (wr τ7 140 49 0))) := fun {s} es => by
        rw [← es]
        refine m_hold hm xo j1 ⟨rfl, by omega, by omega, by omega, by omega, ?_⟩
        rw [Int.toNat_natCast]
        refine m_tail (d := d) (x := x) (ph' := 0) (bg' := 1) hn hr ha (by omega) H1 (by rw [wr_obj (by omega), wr_obj (by omega)]; exact wr_48 _ _ _ _) (fun i => ?_) (fun i => ?_) (fun i => ?_) (fun o a b c e => by rw [wr_obj c, wr_obj b, wr_obj a, wr_obj e]) (fun z τ' t1 t2 t3 t4 t5 t6 => kg z τ' t1 (nx_of t2 t3 j2 j3 t4 j4 t6 t5)) (fun z τ' t1 t2 => kb z τ' t1 ((j4.q (D := D) (m0 := m0)).1.tr t2))
        · rw [wr_obj (by omega), wr_obj (by omega), wr_obj (by omega)]
          by_cases q : i = m0
          · subst q; rw [wr_same, if_pos rfl]
          · rw [wr_row q, if_neg q]
        · rw [wr_obj (by omega)]
          by_cases q : i = D
          · subst q; rw [wr_same, if_pos rfl]
          · rw [wr_row q, wr_obj (by omega), wr_obj (by omega), if_neg q]
        · by_cases q : i = D
          · subst q; rw [wr_same, if_pos rfl]
          · rw [wr_row q, wr_obj (by omega), wr_obj (by omega), wr_obj (by omega), if_neg q]
      refine ⟨fun y => go ?_, fun y => go ?_⟩
      · rcases hi with ⟨e1, e2, -⟩ | ⟨e1, e2, -⟩
        · have := hb.mpr e1; rw [y] at this; cases this
        · rw [e2]; decide
      · rcases hi with ⟨e1, e2, -⟩ | ⟨e1, e2, -⟩
        · rw [e2]; decide
        · have := hb.mp y; omega
    have g296 : V0 E (d + 1 + 1) qX11_goesOn 296 [some (vR 140), some (vI (D : Int)), none, none, none] [] τ Q := by
      refine bX11_goesOn_296 ?_
      rw [Int.toNat_natCast, hp]
      refine ⟨by omega, by omega, fun _ => ⟨fun _ => m_isWord (i := 19) ha hr (by omega) rfl W T ⟨_, rfl, fun y => ?_, fun y => ?_⟩, fun q => by omega⟩, fun q => absurd q p0⟩
      · have i18 : i = 18 := by
          rcases hi with ⟨e1, -, -⟩ | ⟨e1, -, -⟩
          · rw [e1, y] at hw; cases hw
          · exact e1
        have e1 : ρ = 1 := by omega
        rw [y, ← e1]; exact g343 false ⟨fun z => (by cases z), fun z => by omega⟩
      · have i19 : i = 19 := tW_u (by omega) (by omega) hw y
        have e1 : ρ = 2 := by omega
        rw [y, ← e1]; exact g343 true ⟨fun _ => i19, fun _ => rfl⟩
    rw [decide_eq_true hK]
    refine bX11_goesOn_272 ⟨fun y => (by cases y), fun _ => m_isWord (i := 19) ha hr (by omega) rfl W T ⟨_, rfl, fun _ => g296, fun y => m_isWord (i := 18) ha hr (by omega) rfl W T ⟨_, rfl, fun y2 => ?_, fun _ => g296⟩⟩⟩
    rcases hi with ⟨e1, -, -⟩ | ⟨e1, -, -⟩
    · rw [e1, y] at hw; cases hw
    · rw [e1, y2] at hw; cases hw
/-- neither and nor or: what ends the frame -/
theorem m_go409 (hD : D ≤ 8) (ha : a ≤ n) (hr : ∀ i, 0 ≤ r i ∧ r i ≤ 255) (hK : inR K) (H : PM r n bi D K ph bg B a od τ) (am : ph < 2 → addP r n a = 0 ∧ mulP r n a = 0) (tp : (K = 1 ∨ K = 5) → ph ≠ 0 ∧ tWb r n a 19 = false ∧ tWb r n a 18 = false) (k1 : V0 E (d + 1) qX11_goesOn 409 [some (vR 140), some (vI (D : Int)), some (vI K), none, none] [] τ Q) : M0 E (d + 1) qX11_goesOn [vR 140] τ Q := by
  refine m_goes (by omega) ha hr hK H (fun p y => ?_) (fun z y => absurd y (tp z).1) (fun _ _ => ?_)
  · obtain ⟨y1, y2⟩ := am p
    rcases y with y | y
    · exact absurd y1 y
    · exact absurd y2 y
  · by_cases t : K = 1 ∨ K = 5
    · obtain ⟨t1, t2, t3⟩ := tp t
      rw [decide_eq_true t]
      refine bX11_goesOn_272 ⟨fun y => (by cases y), fun _ => m_isWord (i := 19) ha hr (by omega) rfl H.2.2.2.1 H.2.1 ⟨_, rfl, fun y => (by rw [t2] at y; cases y), fun _ => m_isWord (i := 18) ha hr (by omega) rfl H.2.2.2.1 H.2.1 ⟨_, rfl, fun _ => ⟨fun y => (by cases y), fun _ => ⟨by omega, by omega, ?_⟩⟩, fun y => (by rw [t3] at y; cases y)⟩⟩⟩
      rw [Int.toNat_natCast, H.2.2.2.2.2.2.2.2.1]
      exact ⟨fun _ => k1, fun q => absurd q t1⟩
    · rw [decide_eq_false t]
      exact bX11_goesOn_272 ⟨fun _ => ⟨fun _ => k1, fun y => (by cases y)⟩, fun y => (by cases y)⟩
/-- a test without comparison -/
theorem m_goNo (hn : n ≤ 1600) (hD : D ≤ 8) (ha : a ≤ n) (hr : ∀ i, 0 ≤ r i ∧ r i ≤ 255) (hK : K = 1 ∨ K = 5) (H : PM r n bi D K 0 bg B a od τ) (a1 : addP r n a = 0) (a2 : mulP r n a = 0) (a3 : cmpP r n a = 0) (k1 : ∀ τ', PF 1 (tPl r n a) τ' → frX τ τ' → Q (some (vB false)) τ') : M0 E (d + 1) qX11_goesOn [vR 140] τ Q := by
  have Kr : inR K := by rcases hK with h | h <;> subst h <;> decide
  have tr := tk_r (r := r) (n := n) ha hr
  obtain ⟨X, T, h8, W, h39, h45, h46, hk, hp, hb, hB, ho⟩ := id H
  have bl : ∀ {Q2 : mm_Q0}, (∀ τ', PF 1 (tPl r n a) τ' → frX τ τ' → Q2 none τ') → M0 E d qX11_blame [vR 140, vI 1, vI (τ 140 4)] τ Q2 := fun k => by
    refine m_blame (f := (0, τ 140 9)) (by rw [h8]) (Int.le_refl 0) ⟨by omega, by omega⟩ (by rw [T.2.1]; exact ⟨by omega, by omega⟩) (fun τ2 u1 F G => ?_)
    rw [if_pos rfl, T.2.1] at u1
    exact k τ2 ⟨congrArg Prod.fst u1, congrArg Prod.snd u1⟩ ⟨fun o x => F o (by omega), fun i x => G i (by omega) (by omega)⟩
  have g409 : ∀ τ' : mm_Mem, PF 1 (tPl r n a) τ' → frX τ τ' → V0 E (d + 1) qX11_goesOn 409 [some (vR 140), some (vI (D : Int)), some (vI K), none, none] [] τ' Q := fun τ' p F => by
    have k := k1 τ' p F
    have g511 : V0 E (d + 1) qX11_goesOn 511 [some (vR 140), some (vI (D : Int)), some (vI K), none, none] [] τ' Q := bX11_goesOn_511 ⟨fun q => by have := p.1; omega, fun _ => k⟩
    refine bX11_goesOn_409 ⟨Kr, fun q => ⟨fun _ => ⟨fun q5 => by omega, fun _ => m_isSignG (by decide) (fun b => ⟨_, rfl, fun _ => g511, fun _ => m_blameF (k := 1) (by omega) p ⟨rfl, g511⟩⟩)⟩, fun q3 => by omega⟩, fun q => ⟨fun _ => k, fun q2 => by have := p.1; omega⟩⟩
  have g296 : V0 E (d + 1) qX11_goesOn 296 [some (vR 140), some (vI (D : Int)), none, none, none] [] τ Q := by
    refine bX11_goesOn_296 ?_
    rw [Int.toNat_natCast, hp]
    exact ⟨by omega, by omega, fun q => absurd rfl q, fun _ => bl (fun τ' p F => ⟨rfl, fun q => by have := p.1; omega, fun _ => k1 τ' p F⟩)⟩
  refine m_goes (by omega) ha hr Kr H (fun p y => ?_) (fun _ _ _ _ y => absurd a3 y) (fun _ _ => ?_)
  · rcases y with y | y
    · exact absurd a1 y
    · exact absurd a2 y
  · rw [decide_eq_true hK]
    refine bX11_goesOn_272 ⟨fun y => (by cases y), fun _ => m_isWord (i := 19) ha hr (by omega) rfl W T ⟨_, rfl, fun _ => g296, fun _ => m_isWord (i := 18) ha hr (by omega) rfl W T ⟨_, rfl, fun _ => ⟨fun y => (by cases y), fun _ => ⟨by omega, by omega, ?_⟩⟩, fun _ => g296⟩⟩⟩
    rw [Int.toNat_natCast, hp]
    exact ⟨fun q => absurd rfl q, fun _ => bl (fun τ' p F => ⟨rfl, g409 τ' p F⟩)⟩
/-- the frame that ends a reading -/
theorem m_goEnd {c : List Int} (hb2 : bi < 2) (hD : D ≤ 8) (ha : a ≤ n) (hr : ∀ i, 0 ≤ r i ∧ r i ≤ 255) (hK : K = 0 ∨ K = 1) (hz0 : 1600 * bi ≤ zz) (hB : B = (m0 : Int)) (hl : zz + c.length ≤ 1600 * bi + 1600) (h5 : τ 140 48 ≤ 500) (H : PM r n bi D K ph bg B a od τ) (am : ph < 2 → addP r n a = 0 ∧ mulP r n a = 0) (tp : K = 1 → ph ≠ 0 ∧ tWb r n a 19 = false ∧ tWb r n a 18 = false) (P : PSt bi 1 m0 zz c τ) (k1 : ∀ τ', PM r n bi D K ph bg B a od τ' → τ' 140 48 = (m0 : Int) → 1600 * (bi : Int) + τ' 140 38 = ((zz + c.length : Nat) : Int) → CodeM zz c τ' → frJ zz τ τ' → Q (some (vB false)) τ') : M0 E (d + 2) qX11_goesOn [vR 140] τ Q := by
  refine m_go409 (d := d + 1) hD ha hr (by rcases hK with h | h <;> subst h <;> decide) H am (fun y => tp (by omega)) (bX11_goesOn_409 ⟨by rcases hK with h | h <;> subst h <;> decide, fun q => by omega, fun _ => ⟨fun q => absurd H.2.2.1 q, fun _ => ?_⟩⟩)
  exact m_joins (d := d) hb2 (by omega) (by decide) hz0 (by omega) hl (Or.inr h5) H.2.2.2.2.1 H.2.2.2.2.2.1 H.2.2.2.2.2.2.2.2.2.2.1 (Or.inl hB) P (fun τ1 j1 j2 j3 j4 => ⟨rfl, k1 τ1 (H.j j4) j1 j2 j3 j4⟩)
/-- the frame's sign is wanting -/
theorem m_goMiss (hn : n ≤ 1600) (hD : D ≤ 8) (ha : a ≤ n) (hr : ∀ i, 0 ≤ r i ∧ r i ≤ 255) (hK : K = 2 ∨ K = 3 ∨ K = 4 ∨ K = 5) (H : PM r n bi D K ph bg B a od τ) (am : ph < 2 → addP r n a = 0 ∧ mulP r n a = 0) (tp : K = 5 → ph ≠ 0 ∧ tWb r n a 19 = false ∧ tWb r n a 18 = false) (no : tSb r n a (if K = 5 then 93 else if K = 3 then 44 else 41) = false) (k1 : ∀ τ', PF 1 (tPl r n a) τ' → frX τ τ' → Q (some (vB false)) τ') : M0 E (d + 1) qX11_goesOn [vR 140] τ Q := by
  have tr := tk_r (r := r) (n := n) ha hr
  obtain ⟨X, T, h8, W, h39, h45, h46, hk, hp, hb, hB, ho⟩ := id H
  have Kr : inR K := by rcases hK with h | h | h | h <;> subst h <;> decide
  have bl : ∀ {Q2 : mm_Q0}, (∀ τ', PF 1 (tPl r n a) τ' → frX τ τ' → Q2 none τ') → M0 E d qX11_blame [vR 140, vI 1, vI (τ 140 4)] τ Q2 := fun k => by
    refine m_blame (f := (0, τ 140 9)) (by rw [h8]) (Int.le_refl 0) ⟨by omega, by omega⟩ (by rw [T.2.1]; exact ⟨by omega, by omega⟩) (fun τ2 u1 F G => ?_)
    rw [if_pos rfl, T.2.1] at u1
    exact k τ2 ⟨congrArg Prod.fst u1, congrArg Prod.snd u1⟩ ⟨fun o x => F o (by omega), fun i x => G i (by omega) (by omega)⟩
  have g511 : ∀ τ' : mm_Mem, PF 1 (tPl r n a) τ' → frX τ τ' → V0 E (d + 1) qX11_goesOn 511 [some (vR 140), some (vI (D : Int)), some (vI K), none, none] [] τ' Q := fun τ' p F => bX11_goesOn_511 ⟨fun q => by have := p.1; omega, fun _ => k1 τ' p F⟩
  refine m_go409 hD ha hr Kr H am (fun y => tp (by omega)) (bX11_goesOn_409 ⟨Kr, fun _ => ⟨fun n3 => ⟨fun n5 => ?_, fun y5 => ?_⟩, fun y3 => ?_⟩, fun q => by omega⟩)
  · rw [if_neg n5, if_neg n3] at no
    exact m_isSign ha hr (by decide) T ⟨_, rfl, fun y => (by rw [no] at y; cases y), fun _ => bl (fun τ' p F => ⟨rfl, g511 τ' p F⟩)⟩
  · rw [if_pos y5] at no
    exact m_isSign ha hr (by decide) T ⟨_, rfl, fun y => (by rw [no] at y; cases y), fun _ => bl (fun τ' p F => ⟨rfl, g511 τ' p F⟩)⟩
  · rw [if_neg (by omega), if_pos y3] at no
    exact m_isSign ha hr (by decide) T ⟨_, rfl, fun y => (by rw [no] at y; cases y), fun _ => bl (fun τ' p F => ⟨rfl, fun q => by have := p.1; omega, fun _ => k1 τ' p F⟩)⟩
/-- the comma of a pair -/
theorem m_goComma {c : List Int} (hn : n ≤ 1600) (hb2 : bi < 2) (hD : D ≤ 8) (ha : a ≤ n) (hr : ∀ i, 0 ≤ r i ∧ r i ≤ 255) (hz0 : 1600 * bi ≤ zz) (hB : B = (m0 : Int)) (hl : zz + c.length ≤ 1600 * bi + 1600) (h5 : τ 140 48 ≤ 500) (H : PM r n bi D 3 ph bg B a od τ) (am : ph < 2 → addP r n a = 0 ∧ mulP r n a = 0) (yes : tSb r n a 44 = true) (P : PSt bi 1 m0 zz c τ) (kg : tBb r n (tN r n a) = false → ∀ τ', PM r n bi D 4 ph bg B (tN r n a) 0 τ' → τ' 140 48 = (m0 : Int) → 1600 * (bi : Int) + τ' 140 38 = ((zz + c.length : Nat) : Int) → CodeM zz c τ' → frX τ τ' → (∀ i, i ≤ D → τ' 168 i = τ 168 i ∧ τ' 169 i = τ 169 i ∧ τ' 170 i = τ 170 i ∧ τ' 171 i = τ 171 i) → (∀ i, i < D → τ' 167 i = τ 167 i) → τ' 172 = τ 172 → (∀ i, i < zz → τ' 165 i = τ 165 i ∧ τ' 166 i = τ 166 i) → Q (some (vB true)) τ') (kb : tBb r n (tN r n a) = true → ∀ τ', PF 1 (tPl r n (tN r n a)) τ' → frX τ τ' → Q (some (vB true)) τ') : M0 E (d + 2) qX11_goesOn [vR 140] τ Q := by
  refine m_go409 (d := d + 1) hD ha hr (by decide) H am (fun y => by omega) (bX11_goesOn_409 ⟨by decide, fun _ => ⟨fun n3 => absurd rfl n3, fun _ => m_isSign ha hr (by decide) H.2.1 ⟨_, rfl, fun _ => ⟨fun _ => ?_, fun q => by have := H.2.2.1; omega⟩, fun y => (by rw [yes] at y; cases y)⟩⟩, fun q => by omega⟩)
  refine m_joins (d := d) hb2 (by omega) (by decide) hz0 (by omega) hl (Or.inr h5) H.2.2.2.2.1 H.2.2.2.2.2.1 H.2.2.2.2.2.2.2.2.2.2.1 (Or.inl hB) P (fun τ1 j1 j2 j3 j4 => ⟨rfl, by omega, by omega, ?_⟩)
  rw [Int.toNat_natCast]
  have H1 := H.j j4
  obtain ⟨X1, T1, s8, W1, -, -, -, uk, up, ub, uB, uo⟩ := id H1
  have H2 : PM r n bi D 4 ph bg B a od (wr τ1 167 D 4) := H1.fr (fun i hi => by rw [wr_obj (by omega)]) (wr_obj (by omega)) wr_same (by rw [wr_obj (by omega)]; exact up) (by rw [wr_obj (by omega)]; exact ub) (by rw [wr_obj (by omega)]; exact uB) (by rw [wr_obj (by omega)]; exact uo)
  have F2 : frX τ (wr τ1 167 D 4) := ((j4.q (D := D) (m0 := m0)).1).w1 (by omega)
  obtain ⟨X2, T2, v8, W2, -⟩ := id H2
  refine m_aheadN (d := d) hn hr ha (by rw [(tS_k yes).1]; omega) X2 W2 v8 T2 (fun z τ2 t1 t2 t3 t4 => ⟨rfl, ?_⟩) (fun z τ2 t1 t2 t3 => ⟨rfl, kb z _ ⟨by rw [wr_row (by omega)]; exact t1.1, by rw [wr_row (by omega)]; exact t1.2⟩ ((F2.tr t3.x).w0 (by omega))⟩)
  have H3 := H2.ah t1 t2 t3 t4
  obtain ⟨-, -, -, -, -, -, -, wk, wp, wb, wB, -⟩ := id H3
  have o : ∀ o, o ≠ 140 → o ≠ 167 → wr τ2 140 49 0 o = τ1 o := fun o a b => by rw [wr_obj a, t4.1 o a, wr_obj b]
  refine kg z _ (H3.fr (fun i hi => wr_row (by omega)) (wr_obj (by omega)) (by rw [wr_obj (by omega)]; exact wk) (by rw [wr_obj (by omega)]; exact wp) (by rw [wr_obj (by omega)]; exact wb) (by rw [wr_obj (by omega)]; exact wB) wr_same) ?_ ?_ ?_ ((F2.tr t4.x).w0 (by omega)) (fun i hi => ⟨?_, ?_, ?_, ?_⟩) (fun i hi => ?_) ?_ (fun i hi => ⟨?_, ?_⟩)
  · rw [wr_row (by omega), t4.2 48 (by omega), wr_obj (by omega)]; exact j1
  · rw [wr_row (by omega), t4.2 38 (by omega), wr_obj (by omega)]; exact j2
  · exact j3.fr (fun i _ _ => ⟨by rw [o 165 (by omega) (by omega)], by rw [o 166 (by omega) (by omega)]⟩)
  · rw [o 168 (by omega) (by omega), j4.1 168 (by omega) (by omega) (by omega)]
  · rw [o 169 (by omega) (by omega), j4.1 169 (by omega) (by omega) (by omega)]
  · rw [o 170 (by omega) (by omega), j4.1 170 (by omega) (by omega) (by omega)]
  · rw [o 171 (by omega) (by omega), j4.1 171 (by omega) (by omega) (by omega)]
  · rw [wr_obj (by omega), t4.1 167 (by omega), wr_row (by omega), j4.1 167 (by omega) (by omega) (by omega)]
  · rw [o 172 (by omega) (by omega), j4.1 172 (by omega) (by omega) (by omega)]
  · rw [o 165 (by omega) (by omega)]; exact (j4.2.2 i hi).1
  · rw [o 166 (by omega) (by omega)]; exact (j4.2.2 i hi).2
/-- a bracket closes: the frame below goes on -/
theorem m_goClose {K0 ph0 bg0 B0 : Int} {c : List Int} {x : Int} (hn : n ≤ 1600) (hb2 : bi < 2) (hD : D + 1 ≤ 8) (ha : a ≤ n) (hr : ∀ i, 0 ≤ r i ∧ r i ≤ 255) (hK : K = 2 ∨ K = 4 ∨ K = 5) (hz0 : 1600 * bi ≤ zz) (hB : B = (m0 : Int)) (hl : zz + c.length + 1 ≤ 1600 * bi + 1600) (h5 : τ 140 48 ≤ 500) (H : PM r n bi (D + 1) K ph bg B a od τ) (am : ph < 2 → addP r n a = 0 ∧ mulP r n a = 0) (tp : K = 5 → ph ≠ 0 ∧ tWb r n a 19 = false ∧ tWb r n a 18 = false) (yes : tSb r n a (if K = 5 then 93 else 41) = true) (hp : K = 4 → τ 170 (D + 1) = opS x ∧ isO x) (g1 : τ 167 D = K0) (g2 : τ 168 D = ph0) (g3 : τ 169 D = bg0) (g4 : τ 171 D = B0) (P : PSt bi 1 m0 zz c τ) (kg : tBb r n (tN r n a) = false → ∀ τ', PM r n bi D K0 (if K = 5 then 2 else ph0) bg0 B0 (tN r n a) od τ' → τ' 140 48 = (m0 : Int) → 1600 * (bi : Int) + τ' 140 38 = ((zz + (c ++ (if K = 4 then [x] else [])).length : Nat) : Int) → CodeM zz (c ++ (if K = 4 then [x] else [])) τ' → frX τ τ' → (∀ i, i < D → τ' 168 i = τ 168 i) → (∀ i, i ≤ D → τ' 167 i = τ 167 i ∧ τ' 169 i = τ 169 i ∧ τ' 170 i = τ 170 i ∧ τ' 171 i = τ 171 i) → τ' 172 = τ 172 → (∀ i, i < zz → τ' 165 i = τ 165 i ∧ τ' 166 i = τ 166 i) → Q (some (vB true)) τ') (kb : tBb r n (tN r n a) = true → ∀ τ', PF 1 (tPl r n (tN r n a)) τ' → frX τ τ' → Q (some (vB true)) τ') : M0 E (d + 2) qX11_goesOn [vR 140] τ Q := by
  have Kr : inR K := by rcases hK with h | h | h <;> subst h <;> decide
  have k2 : 2 ≤ (tk r n a).1 := by rw [(tS_k yes).1]; omega
  have T := H.2.1
  -- behind the sign
  have g511 : V0 E (d + 1 + 1) qX11_goesOn 511 [some (vR 140), some (vI ((D + 1 : Nat) : Int)), some (vI K), none, none] [] τ Q := by
    refine bX11_goesOn_511 ⟨fun _ => ?_, fun q => by have := H.2.2.1; omega⟩
    refine m_joins (d := d) (D := D + 1) hb2 (by omega) (by decide) hz0 (by omega) (by omega) (Or.inr h5) H.2.2.2.2.1 H.2.2.2.2.2.1 H.2.2.2.2.2.2.2.2.2.2.1 (Or.inl hB) P (fun τ1 j1 j2 j3 j4 => ⟨rfl, ?_⟩)
    have H1 := H.j j4
    obtain ⟨X1, T1, s8, W1, s39, s45, s46, uk, up, ub, uB, uo⟩ := id H1
    rw [s45, s46, show ((D + 1 : Nat) : Int) + 1 - 1 = (D : Int) + 1 by omega, show ((D + 1 : Nat) : Int) - 1 = (D : Int) by omega]
    -- the next token, from a memory that differs in what is known
    have ah : ∀ (σ : mm_Mem) (c2 : List Int), (∀ i, i ≠ 38 → i ≠ 45 → i ≠ 46 → σ 140 i = τ1 140 i) → σ 140 45 = (D : Int) + 1 → σ 140 46 = (D : Int) → (∀ o, o ≠ 140 → o ≠ 165 → o ≠ 166 → o ≠ 168 → σ o = τ1 o) → (∀ i, σ 168 i = if K = 5 ∧ i = D then 2 else τ1 168 i) → (∀ i, i < zz → σ 165 i = τ1 165 i ∧ σ 166 i = τ1 166 i) → c2 = c ++ (if K = 4 then [x] else []) → 1600 * (bi : Int) + σ 140 38 = ((zz + c2.length : Nat) : Int) → CodeM zz c2 σ → M0 E (d + 1) qX11_ahead [vR 140] σ (fun v τ8 => v = none ∧ Q (some (vB true)) τ8) := fun σ c2 f0 f45 f46 f f8 f5 ec c38 C => by
      subst ec
      have Hσ : PM r n bi D K0 (if K = 5 then 2 else ph0) bg0 B0 a od σ := by
        refine ⟨⟨fun i hi => by rw [f 141 (by omega) (by omega) (by omega) (by omega)]; exact X1.1 i hi, by rw [f0 2 (by omega) (by omega) (by omega)]; exact X1.2⟩, T1.fr (fun i _ _ => f0 i (by omega) (by omega) (by omega)), by rw [f0 8 (by omega) (by omega) (by omega)]; exact s8, (fun _ => by rw [f0 9 (by omega) (by omega) (by omega)]; exact W1 s8), by rw [f0 39 (by omega) (by omega) (by omega)]; exact s39, f45, f46, ?_, ?_, ?_, ?_, by rw [f0 49 (by omega) (by omega) (by omega)]; exact uo⟩
        · rw [f 167 (by omega) (by omega) (by omega) (by omega), j4.1 167 (by omega) (by omega) (by omega)]; exact g1
        · rw [f8]
          by_cases q : K = 5
          · rw [if_pos ⟨q, rfl⟩, if_pos q]
          · rw [if_neg (fun y => q y.1), if_neg q, j4.1 168 (by omega) (by omega) (by omega)]; exact g2
        · rw [f 169 (by omega) (by omega) (by omega) (by omega), j4.1 169 (by omega) (by omega) (by omega)]; exact g3
        · rw [f 171 (by omega) (by omega) (by omega) (by omega), j4.1 171 (by omega) (by omega) (by omega)]; exact g4
      have FX : frX τ σ := ⟨fun o x => by rw [f o (by omega) (by omega) (by omega) (by omega), j4.1 o (by omega) (by omega) (by omega)], fun i x => by rw [f0 i (by omega) (by omega) (by omega), j4.2.1 i (by omega) (by omega)]⟩
      obtain ⟨X2, T2, v8, W2, -⟩ := id Hσ
      refine m_aheadN (d := d) hn hr ha k2 X2 W2 v8 T2 (fun z τ2 t1 t2 t3 t4 => ⟨rfl, ?_⟩) (fun z τ2 t1 t2 t3 => ⟨rfl, kb z τ2 t1 (FX.tr t3.x)⟩)
      have o : ∀ o, o ≠ 140 → o ≠ 165 → o ≠ 166 → o ≠ 168 → τ2 o = τ o := fun o a b c e => by rw [t4.1 o a, f o a b c e, j4.1 o a b c]
      refine kg z τ2 (Hσ.ah t1 t2 t3 t4) ?_ ?_ (C.fr (fun i _ _ => ⟨by rw [t4.1 165 (by omega)], by rw [t4.1 166 (by omega)]⟩)) (FX.tr t4.x) (fun i hi => ?_) (fun i hi => ⟨?_, ?_, ?_, ?_⟩) ?_ (fun i hi => ⟨?_, ?_⟩)
      · rw [t4.2 48 (by omega), f0 48 (by omega) (by omega) (by omega)]; exact j1
      · rw [t4.2 38 (by omega)]; exact c38
      · rw [t4.1 168 (by omega), f8, if_neg (fun y => by omega), j4.1 168 (by omega) (by omega) (by omega)]
      · rw [o 167 (by omega) (by omega) (by omega) (by omega)]
      · rw [o 169 (by omega) (by omega) (by omega) (by omega)]
      · rw [o 170 (by omega) (by omega) (by omega) (by omega)]
      · rw [o 171 (by omega) (by omega) (by omega) (by omega)]
      · rw [o 172 (by omega) (by omega) (by omega) (by omega)]
      · rw [t4.1 165 (by omega), (f5 i hi).1]; exact (j4.2.2 i hi).1
      · rw [t4.1 166 (by omega), (f5 i hi).2]; exact (j4.2.2 i hi).2
    have w38 : wr (wr τ1 140 45 ((D : Int) + 1)) 140 46 (D : Int) 140 38 = τ1 140 38 := by rw [wr_row (by omega), wr_row (by omega)]
    have w45 : wr (wr τ1 140 45 ((D : Int) + 1)) 140 46 (D : Int) 140 45 = (D : Int) + 1 := by rw [wr_row (by omega), wr_same]
    have w46 : wr (wr τ1 140 45 ((D : Int) + 1)) 140 46 (D : Int) 140 46 = (D : Int) := wr_same
    have wf : ∀ i, i ≠ 45 → i ≠ 46 → wr (wr τ1 140 45 ((D : Int) + 1)) 140 46 (D : Int) 140 i = τ1 140 i := fun i a b => by rw [wr_row b, wr_row a]
    have wo : ∀ o, o ≠ 140 → wr (wr τ1 140 45 ((D : Int) + 1)) 140 46 (D : Int) o = τ1 o := fun o a => by rw [wr_obj a, wr_obj a]
    generalize wr (wr τ1 140 45 ((D : Int) + 1)) 140 46 (D : Int) = ρ at w38 w45 w46 wf wo ⊢
    refine ⟨⟨by omega, by omega⟩, ⟨by omega, by omega⟩, Kr, fun n4 => ⟨fun n5 => ?_, fun y5 => ?_⟩, fun y4 => ?_⟩
    · refine ah ρ c (fun i a b c => wf i b c) w45 w46 (fun o a _ _ _ => wo o a) (fun i => ?_) (fun i hi => ⟨by rw [wo 165 (by omega)], by rw [wo 166 (by omega)]⟩) (by rw [if_neg n4, List.append_nil]) (by rw [w38]; exact j2) (j3.fr (fun i _ _ => ⟨by rw [wo 165 (by omega)], by rw [wo 166 (by omega)]⟩))
      rw [if_neg (fun y => n5 y.1), wo 168 (by omega)]
    · rw [show ((D : Int) + 1 - 1).toNat = D by omega]
      refine ⟨by omega, by omega, ah (wr ρ 168 D 2) c (fun i a b c => by rw [wr_obj (by omega)]; exact wf i b c) (by rw [wr_obj (by omega)]; exact w45) (by rw [wr_obj (by omega)]; exact w46) (fun o a _ _ e => by rw [wr_obj e]; exact wo o a) (fun i => ?_) (fun i hi => ⟨by rw [wr_obj (by omega), wo 165 (by omega)], by rw [wr_obj (by omega), wo 166 (by omega)]⟩) (by rw [if_neg n4, List.append_nil]) (by rw [wr_obj (by omega), w38]; exact j2) (j3.fr (fun i _ _ => ⟨by rw [wr_obj (by omega), wo 165 (by omega)], by rw [wr_obj (by omega), wo 166 (by omega)]⟩))⟩
      by_cases q : i = D
      · subst q; rw [wr_same, if_pos ⟨y5, rfl⟩]
      · rw [wr_row q, if_neg (fun y => q y.2), wo 168 (by omega)]
    · obtain ⟨p1, p2⟩ := hp y4
      have ox : inR (opS x) := by unfold opS; split <;> exact ⟨by unfold isO at p2; omega, by unfold isO at p2; omega⟩
      rw [Int.toNat_natCast, j4.1 170 (by omega) (by omega) (by omega), p1]
      refine ⟨by omega, by omega, m_add (z := zz + c.length) hb2 (by rw [wf 39 (by omega) (by omega)]; exact s39) (by rw [w38]; exact j2) (by omega) (by rw [w38]; omega) ox ⟨by omega, by omega⟩ ⟨rfl, fun _ => ?_, fun y5 => by omega⟩⟩
      refine ah _ (c ++ [x]) (fun i a b e => ?_) ?_ ?_ (fun o a b e f => ?_) (fun i => ?_) (fun i hi => ⟨?_, ?_⟩) (by rw [if_pos y4]) ?_ ?_
      · rw [wr_row a, wr_obj (by omega), wr_obj (by omega)]; exact wf i b e
      · rw [wr_row (by omega), wr_obj (by omega), wr_obj (by omega)]; exact w45
      · rw [wr_row (by omega), wr_obj (by omega), wr_obj (by omega)]; exact w46
      · rw [wr_obj a, wr_obj e, wr_obj b]; exact wo o a
      · rw [if_neg (fun y => by omega), wr_obj (by omega), wr_obj (by omega), wr_obj (by omega), wo 168 (by omega)]
      · rw [wr_obj (by omega), wr_obj (by omega), wr_row (by omega), wo 165 (by omega)]
      · rw [wr_obj (by omega), wr_row (by omega), wr_obj (by omega), wo 166 (by omega)]
      · rw [wr_same, w38, List.length_append]; show _ = ((zz + (c.length + 1) : Nat) : Int); omega
      · refine (j3.fr (fun i h1 h2 => ⟨?_, ?_⟩)).app (CodeM.one ?_)
        · rw [wr_obj (by omega), wr_obj (by omega), wr_row (by omega), wo 165 (by omega)]
        · rw [wr_obj (by omega), wr_row (by omega), wr_obj (by omega), wo 166 (by omega)]
        · rw [wr_obj (by omega), wr_obj (by omega), wr_same]; exact Or.inr (Or.inr (Or.inr ⟨p2, rfl⟩))
  refine m_go409 (d := d + 1) (D := D + 1) (by omega) ha hr Kr H am (fun y => tp (by omega)) (bX11_goesOn_409 ⟨Kr, fun _ => ⟨fun n3 => ⟨fun n5 => ?_, fun y5 => ?_⟩, fun y3 => by omega⟩, fun q => by omega⟩)
  · rw [if_neg n5] at yes
    exact m_isSign ha hr (by decide) T ⟨_, rfl, fun _ => g511, fun y => (by rw [yes] at y; cases y)⟩
  · rw [if_pos y5] at yes
    exact m_isSign ha hr (by decide) T ⟨_, rfl, fun _ => g511, fun y => (by rw [yes] at y; cases y)⟩
end MGoes2
