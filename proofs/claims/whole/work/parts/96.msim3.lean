/-! the reference reads facts and tests as the parser does -/
def bnF (r : Nat → Int) (κ m0 a D : Nat) : Prop := 4 * m0 + κ + 1 ≤ a + 24 * (D + 1) + 1 ∨ (0 < a ∧ isAN (r (a - 1)) = true ∧ 4 * m0 + κ ≤ a + 24 * (D + 1) + 1)
/-- a fact, both, a test -/
def mF (E : mm_Env) (d : Nat) (r : Nat → Int) (n bi q : Nat) (ρ σ : Int) (κ f : Nat) : Prop := ∀ (D a m0 zz : Nat) (K B : Int) (τ : mm_Mem) (Q : mm_Q0), D ≤ 8 → a ≤ n → tBb r n a = false → (K = 1 ∨ K = 5) → 1600 * bi ≤ zz → zz + m0 ≤ 1600 * bi + a → bnF r κ m0 a D → B ≤ (m0 : Int) → belP σ B m0 τ → PM r n bi D K 0 1 B a 0 τ → τ 140 48 = (m0 : Int) → 1600 * (bi : Int) + τ 140 38 = (zz : Int) → pz r n true f q a D ≠ .inl (0, 0) → (∀ a' c c', pz r n true f q a D = .inr (a', c, c') → ∀ τ' ph, ph ≠ 0 → (ph < 2 → addP r n a' = 0 ∧ mulP r n a' = 0) → PM r n bi D K ph 0 B a' 1 τ' → PSt bi ρ m0 zz c' τ' → τ' 140 48 ≤ 500 → frQ D m0 zz τ τ' → LH E d τ' Q) → (∀ k p, pz r n true f q a D = .inl (k, p) → ∀ τ', PF k p τ' → frX τ τ' → Q none τ') → LH E d τ Q
/-- what follows in both, in a test -/
def mG (E : mm_Env) (d : Nat) (r : Nat → Int) (n bi q : Nat) (ρ : Int) (κ f : Nat) : Prop := ∀ (D a m0 zz : Nat) (K ph B : Int) (c0 : List Int) (τ : mm_Mem) (Q : mm_Q0), D ≤ 8 → a ≤ n → tBb r n a = false → (K = 1 ∨ K = 5) → ph ≠ 0 → (ph < 2 → addP r n a = 0 ∧ mulP r n a = 0) → 1600 * bi ≤ zz → zz + c0.length + m0 ≤ 1600 * bi + a → 4 * m0 + κ ≤ a + 24 * (D + 1) + 1 → B ≤ (m0 : Int) → belP ρ B m0 τ → PM r n bi D K ph 0 B a 1 τ → PSt bi ρ m0 zz c0 τ → τ 140 48 ≤ 500 → pz r n true f q a D ≠ .inl (0, 0) → (∀ a' c c', pz r n true f q a D = .inr (a', c, c') → ∀ τ' ph, ph ≠ 0 → (ph < 2 → addP r n a' = 0 ∧ mulP r n a' = 0) → PM r n bi D K ph 0 B a' 1 τ' → PSt bi ρ m0 zz (c0 ++ c') τ' → τ' 140 48 ≤ 500 → frQ D m0 zz τ τ' → LH E d τ' Q) → (∀ k p, pz r n true f q a D = .inl (k, p) → ∀ τ', PF k p τ' → frX τ τ' → Q none τ') → LH E d τ Q
section MSim4
variable {E : mm_Env} {d : Nat} {r : Nat → Int} {n bi : Nat}
theorem bnF.b {κ m0 a D : Nat} (h : bnF r κ m0 a D) : 4 * m0 + κ ≤ a + 24 * (D + 1) + 1 := by
  rcases h with h | ⟨-, -, h⟩ <;> omega
theorem bnF.weak {κ κ1 m0 a D : Nat} (h : bnF r κ m0 a D) (hk : κ1 ≤ κ) : bnF r κ1 m0 a D := by
  rcases h with h | ⟨h1, h2, h⟩
  · left; omega
  · right; exact ⟨h1, h2, by omega⟩
theorem m_seqF {q p l : Nat} {ρ ρ1 σ σ1 : Int} {κ κ1 f : Nat} (hr : ∀ i, 0 ≤ r i ∧ r i ≤ 255) (hq : p ≤ 10 ∧ l ≤ 10 ∧ p ≠ 10) (hρ : ρ ≤ ρ1) (hσ : σ ≤ σ1 ∧ σ ≤ ρ) (hκ : κ1 ≤ κ) (eq : ∀ a op, pz r n true (f + 1) q a op = bdP (pz r n true f p a op) (fun a1 c c' => bdP (pz r n true f l a1 op) (fun a2 k k' => .inr (a2, c ++ k, c' ++ k')))) (S : mF E d r n bi p ρ1 σ1 κ1 f) (L : mG E d r n bi l ρ κ f) : mF E d r n bi q ρ σ κ (f + 1) := by
  intro D a m0 zz K B τ Q hD ha hnb hK hz0 hz hm hB bl H h48 h38 ne kT kF
  rw [eq] at ne
  refine S D a m0 zz K B τ Q hD ha hnb hK hz0 hz (hm.weak hκ) hB (bl.weak hσ.1) H h48 h38 (fun z => ne (by rw [z]; rfl)) (fun a1 c c' e1 τ1 ph p0 am H1 P1 h5 F1 => ?_) (fun k p e1 τ1 R1 F1 => kF k p (by rw [eq, e1]; rfl) τ1 R1 F1)
  rw [e1, bd_r] at ne
  obtain ⟨x1, x2, x3, x4, x5⟩ := pz_ln hr f p a D a1 c c' (by omega) ha e1
  have hm := hm.b
  exact L D a1 m0 zz K ph B c' τ1 Q hD x1 (pz_nb f p a D a1 c c' (by omega) hnb e1) hK p0 am hz0 (by omega) (by omega) hB ((bl.fr F1).weak hσ.2) H1 (P1.weak hρ) h5 (fun z => ne (by rw [z]; rfl)) (fun a2 k k' e2 τ2 ph2 q0 am2 H2 P2 h52 F2 => kT a2 (c ++ k) (c' ++ k') (by rw [eq, e1, bd_r, e2, bd_r]) τ2 ph2 q0 am2 H2 P2 h52 (F1.tr (Nat.le_refl _) (Nat.le_refl _) F2)) (fun k p e2 τ2 R2 F2 => kF k p (by rw [eq, e1, bd_r, e2, bd_l]) τ2 R2 (F1.1.tr F2))
theorem m_lopF {q p i : Nat} {x ρ ρ1 σ1 : Int} {κ κ1 f : Nat} (hn : n ≤ 1600) (hb2 : bi < 2) (hr : ∀ i, 0 ≤ r i ∧ r i ≤ 255) (hq : p ≤ 10 ∧ q ≤ 10 ∧ p ≠ 10) (hi : (i = 19 ∧ x = -18 ∧ ρ = 2) ∨ (i = 18 ∧ x = -19 ∧ ρ = 1)) (hρ : ρ ≤ ρ1 ∧ ρ < σ1) (hκ : κ1 + 4 ≤ κ) (eq : ∀ a op, pz r n true (f + 1) q a op = (if tWb r n a i = true then avP r n true a (fun a1 => bdP (pz r n true f p a1 op) (fun a2 c c' => bdP (pz r n true f q a2 op) (fun a3 k k' => .inr (a3, c ++ x :: k, c' ++ x :: k')))) else .inr (a, [], []))) (S : mF E d r n bi p ρ1 σ1 κ1 f) (L : mG E d r n bi q ρ κ f) : mG E d r n bi q ρ κ (f + 1) := by
  intro D a m0 zz K ph B c0 τ Q hD ha hnb hK p0 am hz0 hz hm hB bl H P h5 ne kT kF
  rw [eq] at ne kT kF
  by_cases y : tWb r n a i = true
  · have xo : isO x ∧ rkP x = ρ := by
      rcases hi with ⟨h, e, e2⟩ | ⟨h, e, e2⟩ <;> subst e <;> subst e2 <;> exact ⟨by unfold isO; omega, rfl⟩
    have t := tW_n ha hr y
    rw [if_pos y] at ne kT kF
    refine m_lhG H.2.2.2.2.2.2.2.2.2.2.2 (fun Qo hF hT => m_goAnd (d := d + 1) (x := x) (ρ := ρ) hn hb2 hD ha hr hK hz0 hB (by omega) (by omega) h5 H p0 hi y bl P (fun z τ1 H1 N1 => hT τ1 (fun q => absurd H1.2.2.1 q) (fun _ => ?_)) (fun z τ1 R1 F1 => hT τ1 (fun _ => kF 1 _ (by rw [av_b z]) τ1 R1 F1) (fun q => by have := R1.1; omega)))
    obtain ⟨n48, n38, nC, n172, nF⟩ := N1
    rw [av_t z] at ne kT kF
    refine S D _ (m0 + 1) (zz + c0.length) K B τ1 Q hD t.2 z hK (by omega) (by omega) (Or.inl (by omega)) (by omega) (Or.inr ⟨by omega, x, xo.1, by omega, n172⟩) H1 n48 n38 (fun q => ne (by rw [q]; rfl)) (fun a2 c c' e2 τ2 ph2 q0 am2 H2 P2 h52 F2 => ?_) (fun k p' e2 τ2 R2 F2 => kF k p' (by rw [e2, bd_l]) τ2 R2 (nF.1.tr F2))
    rw [e2, bd_r] at ne kT kF
    obtain ⟨x1, x2, x3, x4, x5⟩ := pz_ln hr f p _ D a2 c c' (by omega) t.2 e2
    have F12 : frQ D m0 zz τ τ2 := nF.tr (by omega) (by omega) F2
    have C2 : CodeM zz c0 τ2 := nC.fr (fun i _ h => F2.2.2.2.2 i h)
    have P3 : PSt bi ρ m0 zz (c0 ++ c' ++ [x]) τ2 := PSt.op ⟨by omega, xo.1⟩ hρ.1 C2 (by rw [F2.2.2.2.1 m0 (by omega)]; exact n172) P2
    refine L D a2 m0 zz K ph2 B (c0 ++ c' ++ [x]) τ2 Q hD x1 (pz_nb f p _ D a2 c c' (by omega) z e2) hK q0 am2 hz0 (by rw [List.length_append, List.length_append]; show zz + (c0.length + c'.length + 1) + m0 ≤ _; omega) (by omega) hB (bl.fr F12) H2 P3 h52 (fun q => ne (by rw [q]; rfl)) (fun a3 k k' e3 τ3 ph3 r0 am3 H3 P4 h53 F3 => kT a3 _ _ (by rw [e3, bd_r]) τ3 ph3 r0 am3 H3 ?_ h53 (F12.tr (Nat.le_refl _) (Nat.le_refl _) F3)) (fun k p' e3 τ3 R3 F3 => kF k p' (by rw [e3, bd_l]) τ3 R3 (F12.1.tr F3))
    rw [List.append_assoc, List.append_assoc] at P4
    exact P4
  · rw [if_neg y] at kT
    exact kT a [] [] rfl τ ph p0 am H (by rw [List.append_nil]; exact P) h5 frQ.rf
theorem m_fact {f q : Nat} (hq : q = 3 ∨ q = 10) (hn : n ≤ 1600) (hb2 : bi < 2) (hr : ∀ i, 0 ≤ r i ∧ r i ≤ 255) (S : mS E d r n bi 2 5 8 f) (T : mF E d r n bi 5 1 1 20 f) (L : mF E d r n bi (13 - q) 3 5 12 f) : mF E d r n bi q 3 5 12 (f + 1) := by
  intro D a m0 zz K B τ Q hD ha hnb hK hz0 hz hm hB bl H h48 h38 ne kT kF
  rw [pz_3 hq] at ne kT kF
  have hmb := hm.b
  have h49 := H.2.2.2.2.2.2.2.2.2.2.2
  have hKr : inR K := by rcases hK with h | h <;> subst h <;> decide
  obtain ⟨-, -, -, -, -, -, -, hk, hph, hbg, hBB, -⟩ := id H
  have es : ∀ o, o ≠ 169 → wr τ 169 D 0 o = τ o := fun o ho => wr_obj ho
  have e9 : ∀ i, i ≠ D → wr τ 169 D 0 169 i = τ 169 i := fun i hi => wr_row hi
  have e9D : wr τ 169 D 0 169 D = 0 := wr_same
  by_cases z1 : tWb r n a 20 = true
  · have t1 := tW_n ha hr z1
    obtain ⟨l3, an, l4⟩ := not_n ha z1
    rw [if_pos z1] at ne kT kF
    refine m_lhO h49 (fun Qo hQ => m_operN2 (d := d + 1) (m := m0) (zz := zz) hn hD (by omega) ha hr hK (by omega) H z1 h48 (fun z τ1 R1 F1 => hQ false τ1 (fun _ => kF 1 _ (by rw [av_b z]) _ R1.od1 (F1.w0 (by omega))) (fun q => by have := R1.1; omega)) (fun z τ1 H1 u48 u38 u172 F1 => hQ false τ1 (fun q => absurd H1.2.2.1 q) (fun _ => ?_)))
    rw [bI_f]
    rw [av_t z] at ne kT kF
    have G1 : frQ D m0 zz τ (wr τ1 140 49 0) := F1.od1
    have e172 : wr τ1 140 49 0 172 m0 = opS (-7) := by rw [wr_obj (by omega)]; exact u172
    refine L D (tN r n a) (m0 + 1) zz K B _ Q hD t1.2 z hK hz0 (by omega) (Or.inr ⟨by omega, an, ?_⟩) (by omega) (Or.inr ⟨by omega, -7, by unfold isO; omega, by show (3 : Int) < 5; omega, e172⟩) H1.od1 (by rw [wr_row (by omega)]; exact u48) (by rw [wr_row (by omega), u38]; exact h38) (fun q => ne (by rw [q]; rfl)) (fun a2 c c' e2 τ2 ph2 q0 am2 H2 P2 h52 F2 => ?_) (fun k p e2 τ2 R2 F2 => kF k p (by rw [e2, bd_l]) τ2 R2 (G1.1.tr F2))
    · rcases hm with hm | ⟨h0, ha1, hm⟩
      · omega
      · have := l4 h0 ha1; omega
    · rw [e2, bd_r] at kT
      have P3 : PSt bi 3 m0 zz ([] ++ c' ++ [-7]) τ2 := PSt.op (ρ1 := 3) ⟨by show (3 : Int) ≤ 3; omega, by unfold isO; omega⟩ (by omega) (fun i hi => absurd hi (Nat.not_lt_zero _)) (by rw [F2.2.2.2.1 m0 (by omega)]; exact e172) P2
      rw [List.nil_append] at P3
      exact kT a2 c (c' ++ [-7]) rfl τ2 ph2 q0 am2 H2 P3 h52 (G1.tr (Nat.le_refl _) (Nat.le_refl _) ⟨F2.1, F2.2.1, F2.2.2.1, fun i hi => F2.2.2.2.1 i (by omega), F2.2.2.2.2⟩)
  · have n20 : tWb r n a 20 = false := by simpa using z1
    rw [if_neg z1] at ne kT kF
    by_cases z2 : tSb r n a 91 = true
    · have t1 := tS_n ha hr z2
      rw [if_pos z2] at ne kT kF
      by_cases z8 : 8 ≤ D
      · rw [if_pos z8] at kF
        exact m_lhO h49 (fun Qo hQ => m_operS (d := d) (m := m0) hn hD ha hr hK (by omega) H z2 h48 (fun q => absurd z8 q) (fun q => absurd z8 q) (fun _ τ1 R1 F1 => hQ false τ1 (fun _ => kF 5 _ rfl _ R1.od1 (F1.w0 (by omega))) (fun q => by have := R1.1; omega)))
      · rw [if_neg z8] at ne kT kF
        refine m_lhO h49 (fun Qo hQ => m_operS (d := d) (m := m0) hn hD ha hr hK (by omega) H z2 h48 (fun _ z τ1 H1 F1 => hQ false τ1 (fun q => absurd H1.2.2.1 q) (fun _ => ?_)) (fun _ z τ1 R1 F1 => hQ false τ1 (fun _ => kF 1 _ (by rw [av_b z]) _ R1.od1 (F1.w0 (by omega))) (fun q => by have := R1.1; omega)) (fun q => absurd q z8))
        rw [bI_f]
        rw [av_t z] at ne kT kF
        have G1 : frQ D m0 zz τ (wr τ1 140 49 0) := (frQ.up F1 es e9).od1
        have v9 : wr τ1 140 49 0 169 D = 0 := by rw [wr_obj (by omega), (F1.2.1 D (Nat.le_refl _)).2.2.1]; exact e9D
        refine T (D + 1) (tN r n a) m0 zz 5 (m0 : Int) _ Q (by omega) t1.2 z (Or.inr rfl) hz0 (by omega) (Or.inl (by omega)) (Int.le_refl _) (Or.inl rfl) H1.od1 (by rw [wr_row (by omega), F1.2.2.2.2.2.1, es 140 (by omega)]; exact h48) (by rw [wr_row (by omega), F1.2.2.2.2.2.2, es 140 (by omega)]; exact h38) (fun q => ne (by rw [q]; rfl)) (fun a2 c c' e2 τ2 ph2 q0 am2 H2 P2 h52 F2 => ?_) (fun k p e2 τ2 R2 F2 => kF k p (by rw [e2, bd_l]) τ2 R2 (G1.1.tr F2))
        rw [e2, bd_r] at ne kT kF
        obtain ⟨x1, x2, x3, x4, x5⟩ := pz_ln hr f 5 _ (D + 1) a2 c c' (by omega) t1.2 e2
        have en := (pz_en f 5 _ (D + 1) a2 c c' e2).2.2.2.2.1 rfl
        refine m_clo (x := 0) (c := c') (K0 := K) (bg0 := 0) (B0 := B) (ph0 := τ2 168 D) hn hb2 (by omega) x1 hr (Or.inr (Or.inr rfl)) hz0 rfl (by omega) h52 H2 am2 (fun _ => ⟨q0, en.1, en.2⟩) (fun y => by omega) (by rw [(F2.2.2.1 D (by omega)).1, (G1.2.2.1 D (Nat.le_refl _)).1]; exact hk) rfl (by rw [(F2.2.1 D (by omega)).2]; exact v9) (by rw [(F2.2.2.1 D (by omega)).2.2, (G1.2.2.1 D (Nat.le_refl _)).2.2]; exact hBB) (P2.weak (by omega)) (fun (y : tSb r n a2 93 = true) w τ3 H3 u48 u38 uC F3 => ?_) (fun (y : tSb r n a2 93 = true) w τ3 R3 F3 => kF 1 _ (by rw [if_pos y, av_b w]) τ3 R3 (G1.1.tr (F2.1.tr F3))) (fun (y : tSb r n a2 93 = false) τ3 R3 F3 => kF 1 _ (by rw [if_neg (by rw [y]; decide)]) τ3 R3 (G1.1.tr (F2.1.tr F3)))
        have ec : c' ++ (if (5 : Int) = 4 then [(0 : Int)] else []) = c' := by rw [if_neg (by decide), List.append_nil]
        rw [ec] at u38 uC
        rw [if_pos rfl] at H3
        exact kT _ _ c' (by rw [if_pos y, av_t w]) τ3 2 (by omega) (fun q => by omega) H3 (PSt.nil u48 u38 uC) (by omega) (G1.tr (Nat.le_refl _) (Nat.le_refl _) (F2.dn.tr (Nat.le_refl _) (Nat.le_refl _) F3))
    · have n91 : tSb r n a 91 = false := by simpa using z2
      rw [if_neg z2] at ne kT kF
      by_cases z3 : tWb r n a 21 = true
      · rw [if_pos z3] at kT kF
        have t3 := tW_n ha hr z3
        refine m_lhO h49 (fun Qo hQ => m_operA (d := d + 1) (m0 := m0) (z := zz) hn hb2 hD ha hr hK (by omega) H z3 h38 (by omega) hz0 (fun z τ1 H1 u48 u38 uc F1 u172 => hQ true τ1 (fun q => absurd H1.2.2.1 q) (fun _ => ?_)) (fun z τ1 R1 F1 => hQ true τ1 (fun _ => kF 1 _ (by rw [av_b z]) _ R1.od1 (F1.w0 (by omega))) (fun q => by have := R1.1; omega)))
        rw [bI_t]
        exact kT _ _ _ (by rw [av_t z]) _ 2 (by omega) (fun q => by omega) H1.od1 (PSt.nil (by rw [wr_row (by omega), u48]; exact h48) (by rw [wr_row (by omega)]; exact u38) (CodeM.one (by rw [wr_obj (by omega), wr_obj (by omega)]; exact uc))) (by rw [wr_row (by omega), u48]; omega) F1.od1
      · have n21 : tWb r n a 21 = false := by simpa using z3
        rw [if_neg z3] at ne kT kF
        refine S D a m0 zz K 0 1 B τ Q hD ha hnb hKr (by omega) (fun _ _ => ⟨n20, n91, n21⟩) hz0 hz (by omega) hB (fun _ => bl) H h48 h38 (fun q => ne (by rw [q]; rfl)) (fun a1 c c' e1 τ1 H1 P1 h51 F1 => ?_) (fun k p e1 τ1 R1 F1 => kF k p (by rw [e1, bd_l]) τ1 R1 F1)
        rw [e1, bd_r] at ne kT kF
        obtain ⟨x1, x2, x3, x4, x5⟩ := pz_ln hr f 2 a D a1 c c' (by omega) ha e1
        have en := (pz_en f 2 a D a1 c c' e1).2.1 rfl
        by_cases z4 : cmpP r n a1 ≠ 0
        · rw [if_pos z4] at ne kT kF
          have t1 := cmp_n x1 hr z4
          have co := cmp_o z4
          refine m_lhG H1.2.2.2.2.2.2.2.2.2.2.2 (fun Qo hF hT => m_goCmp (d := d + 1) hn hb2 hD x1 hr hK hz0 hB (by omega) (by omega) h51 H1 z4 (bl.fr F1) P1 (fun z τ2 H2 N2 => hT τ2 (fun q => absurd H2.2.2.1 q) (fun _ => ?_)) (fun z τ2 R2 F2 => hT τ2 (fun _ => kF 1 _ (by rw [av_b z]) τ2 R2 (F1.1.tr F2)) (fun q => by have := R2.1; omega)))
          obtain ⟨n48, n38, nC, n172, nF⟩ := N2
          rw [av_t z] at ne kT kF
          refine S D _ (m0 + 1) (zz + c'.length) K 1 0 B τ2 Q hD t1.2 z hKr (by omega) (fun _ y2 => absurd rfl y2) (by omega) (by omega) (by omega) (by omega) (fun _ => Or.inr ⟨by omega, _, co.1, by omega, n172⟩) H2 n48 n38 (fun q => ne (by rw [q]; rfl)) (fun a3 k k' e3 τ3 H3 P3 h53 F3 => ?_) (fun k p e3 τ3 R3 F3 => kF k p (by rw [e3, bd_l]) τ3 R3 (F1.1.tr (nF.1.tr F3)))
          rw [e3, bd_r] at kT
          have en3 := (pz_en f 2 _ D a3 k k' e3).2.1 rfl
          have C3 : CodeM zz c' τ3 := nC.fr (fun i _ h => F3.2.2.2.2 i h)
          have P4 : PSt bi 3 m0 zz (c' ++ k' ++ [cmpP r n a1]) τ3 := PSt.op ⟨by omega, co.1⟩ (by omega) C3 (by rw [F3.2.2.2.1 m0 (by omega)]; exact n172) P3
          exact kT a3 _ _ rfl τ3 1 (by omega) (fun _ => ⟨en3.2, en3.1⟩) H3 P4 h53 (F1.tr (Nat.le_refl _) (Nat.le_refl _) (nF.tr (by omega) (by omega) F3))
        · rw [if_neg z4] at kF
          exact m_lhG H1.2.2.2.2.2.2.2.2.2.2.2 (fun Qo hF hT => m_goNo (d := d + 2) hn hD x1 hr hK H1 en.2 en.1 (by omega) (fun τ2 R2 F2 => hF τ2 (kF 1 _ rfl τ2 R2 (F1.1.tr F2))))
/-- everything together -/
theorem m_exp (hn : n ≤ 1600) (hb2 : bi < 2) (hr : ∀ i, 0 ≤ r i ∧ r i ≤ 255) : ∀ f, mS E d r n bi 0 7 0 f ∧ mS E d r n bi 1 6 4 f ∧ mS E d r n bi 2 5 8 f ∧ mL E d r n bi 6 6 4 f ∧ mL E d r n bi 7 5 8 f ∧ mF E d r n bi 3 3 5 12 f ∧ mF E d r n bi 10 3 5 12 f ∧ mF E d r n bi 4 2 2 16 f ∧ mF E d r n bi 5 1 1 20 f ∧ mG E d r n bi 8 2 16 f ∧ mG E d r n bi 9 1 20 f
  | 0 => by
    refine ⟨?_, ?_, ?_, ?_, ?_, ?_, ?_, ?_, ?_, ?_, ?_⟩
    · intro D a m0 zz K ph bg B τ Q _ _ _ _ _ _ _ _ _ _ _ _ _ _ ne; exact absurd rfl ne
    · intro D a m0 zz K ph bg B τ Q _ _ _ _ _ _ _ _ _ _ _ _ _ _ ne; exact absurd rfl ne
    · intro D a m0 zz K ph bg B τ Q _ _ _ _ _ _ _ _ _ _ _ _ _ _ ne; exact absurd rfl ne
    · intro D a m0 zz K ph B c0 τ Q _ _ _ _ _ _ _ _ _ _ _ _ _ ne; exact absurd rfl ne
    · intro D a m0 zz K ph B c0 τ Q _ _ _ _ _ _ _ _ _ _ _ _ _ ne; exact absurd rfl ne
    · intro D a m0 zz K B τ Q _ _ _ _ _ _ _ _ _ _ _ _ ne; exact absurd rfl ne
    · intro D a m0 zz K B τ Q _ _ _ _ _ _ _ _ _ _ _ _ ne; exact absurd rfl ne
    · intro D a m0 zz K B τ Q _ _ _ _ _ _ _ _ _ _ _ _ ne; exact absurd rfl ne
    · intro D a m0 zz K B τ Q _ _ _ _ _ _ _ _ _ _ _ _ ne; exact absurd rfl ne
    · intro D a m0 zz K ph B c0 τ Q _ _ _ _ _ _ _ _ _ _ _ _ _ _ ne; exact absurd rfl ne
    · intro D a m0 zz K ph B c0 τ Q _ _ _ _ _ _ _ _ _ _ _ _ _ _ ne; exact absurd rfl ne
  | f + 1 => by
    obtain ⟨i0, i1, i2, i6, i7, i3, i10, i4, i5, i8, i9⟩ := m_exp hn hb2 hr f
    refine ⟨m_part hn hb2 hr i2, ?_, ?_, ?_, ?_, ?_, ?_, ?_, ?_, ?_, ?_⟩
    · exact m_seq hr (by omega) (by omega) (by omega) (fun a op => pz_1) i0 i6
    · exact m_seq hr (by omega) (by omega) (by omega) (fun a op => pz_2) i1 i7
    · exact m_lop (x := fun a => mulP r n a) hn hb2 hr (by omega) (by omega) (by omega) (fun a h => Or.inr ⟨h, rfl, rfl⟩) (fun a op => pz_6) i0 i6
    · exact m_lop (x := fun a => addP r n a) hn hb2 hr (by omega) (by omega) (by omega) (fun a h => Or.inl ⟨h, rfl, rfl⟩) (fun a op => pz_7) i1 i7
    · exact m_fact (Or.inl rfl) hn hb2 hr i2 i5 i10
    · exact m_fact (Or.inr rfl) hn hb2 hr i2 i5 i3
    · exact m_seqF hr (by omega) (by omega) (by omega) (by omega) (fun a op => pz_4) i3 i8
    · exact m_seqF hr (by omega) (by omega) (by omega) (by omega) (fun a op => pz_5) i4 i9
    · exact m_lopF (i := 19) hn hb2 hr (by omega) (Or.inl ⟨rfl, rfl, rfl⟩) (by omega) (by omega) (fun a op => pz_8) i3 i8
    · exact m_lopF (i := 18) hn hb2 hr (by omega) (Or.inr ⟨rfl, rfl, rfl⟩) (by omega) (by omega) (fun a op => pz_9) i4 i9
end MSim4
