/-! the reference reads parts, facts and tests as the parser does -/
section MSim3
variable {E : mm_Env} {d : Nat} {r : Nat → Int} {n bi : Nat}
theorem av_t {a : Nat} {K0 : Nat → Sum (Nat × Nat) (Nat × List Int × List Int)} (z : tBb r n (tN r n a) = false) : avP r n true a K0 = K0 (tN r n a) := by unfold avP; rw [z]; rfl
theorem av_b {a : Nat} {K0 : Nat → Sum (Nat × Nat) (Nat × List Int × List Int)} (z : tBb r n (tN r n a) = true) : avP r n true a K0 = .inl (1, tPl r n (tN r n a)) := by unfold avP; rw [z]; rfl
/-- back from a frame above -/
theorem frQ.up {D m0 zz : Nat} {τ σ τ2 : mm_Mem} (h : frD D σ τ2) (es : ∀ o, o ≠ 169 → σ o = τ o) (e9 : ∀ i, i ≠ D → σ 169 i = τ 169 i) : frQ D m0 zz τ τ2 := by
  obtain ⟨a1, a2, a3, a4, a5, a6, a7⟩ := h
  refine ⟨⟨fun o x => (a1.1 o x).trans (es o (by omega)), fun i x => by rw [a1.2 i x, es 140 (by omega)]⟩, fun i hi => ?_, fun i hi => ?_, fun i hi => ?_, fun i hi => ?_⟩
  · obtain ⟨x1, x2, x3, x4, x5⟩ := a2 i (by omega)
    exact ⟨by rw [x2, es 168 (by omega)], by rw [x3, e9 i (by omega)]⟩
  · obtain ⟨x1, x2, x3, x4, x5⟩ := a2 i hi
    exact ⟨by rw [x1, es 167 (by omega)], by rw [x4, es 170 (by omega)], by rw [x5, es 171 (by omega)]⟩
  · rw [a3, es 172 (by omega)]
  · exact ⟨by rw [a4, es 165 (by omega)], by rw [a5, es 166 (by omega)]⟩
theorem frQ.dn {D m0 zz : Nat} {τ τ' : mm_Mem} (h : frQ (D + 1) m0 zz τ τ') : frQ D m0 zz τ τ' := ⟨h.1, fun i hi => h.2.1 i (by omega), fun i hi => h.2.2.1 i (by omega), h.2.2.2.1, h.2.2.2.2⟩
/-- what was read ahead stands in front -/
theorem PSt.pre {m0 zz : Nat} {ρ : Int} {c0 c : List Int} {τ : mm_Mem} (C : CodeM zz c0 τ) (P : PSt bi ρ m0 (zz + c0.length) c τ) : PSt bi ρ m0 zz (c0 ++ c) τ := by
  obtain ⟨em, rp, ec, hr, h48, ho, h38, C1⟩ := P
  subst ec
  exact ⟨c0 ++ em, rp, by simp, hr, h48, ho, by rw [h38, List.length_append]; omega, C.app C1⟩
/-- a bracket closes or is missed -/
theorem m_clo {D a m0 zz : Nat} {K ph bg B K0 ph0 bg0 B0 x : Int} {c : List Int} {τ : mm_Mem} {Q : mm_Q0} (hn : n ≤ 1600) (hb2 : bi < 2) (hD : D + 1 ≤ 8) (ha : a ≤ n) (hr : ∀ i, 0 ≤ r i ∧ r i ≤ 255) (hK : K = 2 ∨ K = 4 ∨ K = 5) (hz0 : 1600 * bi ≤ zz) (hB : B = (m0 : Int)) (hl : zz + c.length + 1 ≤ 1600 * bi + 1600) (h5 : τ 140 48 ≤ 500) (H : PM r n bi (D + 1) K ph bg B a 1 τ) (am : ph < 2 → addP r n a = 0 ∧ mulP r n a = 0) (tp : K = 5 → ph ≠ 0 ∧ tWb r n a 19 = false ∧ tWb r n a 18 = false) (hp : K = 4 → τ 170 (D + 1) = opS x ∧ isO x) (g1 : τ 167 D = K0) (g2 : τ 168 D = ph0) (g3 : τ 169 D = bg0) (g4 : τ 171 D = B0) (P : PSt bi 1 m0 zz c τ) (kT : tSb r n a (if K = 5 then 93 else 41) = true → tBb r n (tN r n a) = false → ∀ τ', PM r n bi D K0 (if K = 5 then 2 else ph0) bg0 B0 (tN r n a) 1 τ' → τ' 140 48 = (m0 : Int) → 1600 * (bi : Int) + τ' 140 38 = ((zz + (c ++ (if K = 4 then [x] else [])).length : Nat) : Int) → CodeM zz (c ++ (if K = 4 then [x] else [])) τ' → frQ D m0 zz τ τ' → LH E d τ' Q) (kB : tSb r n a (if K = 5 then 93 else 41) = true → tBb r n (tN r n a) = true → ∀ τ', PF 1 (tPl r n (tN r n a)) τ' → frX τ τ' → Q none τ') (kN : tSb r n a (if K = 5 then 93 else 41) = false → ∀ τ', PF 1 (tPl r n a) τ' → frX τ τ' → Q none τ') : LH E d τ Q := by
  by_cases y : tSb r n a (if K = 5 then 93 else 41) = true
  · refine m_lhG H.2.2.2.2.2.2.2.2.2.2.2 (fun Qo hF hT => m_goClose (d := d + 1) (x := x) hn hb2 hD ha hr hK hz0 hB hl h5 H am tp y hp g1 g2 g3 g4 P (fun z τ1 H1 u48 u38 uC uF u8 u7 u2 u5 => hT τ1 (fun q => absurd H1.2.2.1 q) (fun _ => kT y z τ1 H1 u48 u38 uC ⟨uF, fun i hi => ⟨u8 i hi, (u7 i (by omega)).2.1⟩, fun i hi => ⟨(u7 i hi).1, (u7 i hi).2.2.1, (u7 i hi).2.2.2⟩, fun i _ => by rw [u2], u5⟩)) (fun z τ1 R1 F1 => hT τ1 (fun _ => kB y z τ1 R1 F1) (fun q => by have := R1.1; omega)))
  · have y : tSb r n a (if K = 5 then 93 else 41) = false := by simpa using y
    refine m_lhG H.2.2.2.2.2.2.2.2.2.2.2 (fun Qo hF hT => m_goMiss (d := d + 2) hn (by omega) ha hr (by omega) H am tp ?_ (fun τ1 R1 F1 => hF τ1 (kN y τ1 R1 F1)))
    rcases hK with h | h | h <;> subst h <;> exact y
theorem m_part {f : Nat} (hn : n ≤ 1600) (hb2 : bi < 2) (hr : ∀ i, 0 ≤ r i ∧ r i ≤ 255) (S : mS E d r n bi 2 5 8 f) : mS E d r n bi 0 7 0 (f + 1) := by
  intro D a m0 zz K ph bg B τ Q hD ha hnb hK hp g hz0 hz hm hB bl H h48 h38 ne kT kF
  rw [pz_0] at ne kT kF
  have h49 := H.2.2.2.2.2.2.2.2.2.2.2
  obtain ⟨-, -, -, -, -, -, -, hk, hph, hbg, hBB, -⟩ := id H
  have es : ∀ o, o ≠ 169 → wr τ 169 D 0 o = τ o := fun o ho => wr_obj ho
  have e9 : ∀ i, i ≠ D → wr τ 169 D 0 169 i = τ 169 i := fun i hi => wr_row hi
  have e9D : wr τ 169 D 0 169 D = 0 := wr_same
  by_cases z1 : tSb r n a 40 = true
  · have t1 := tS_n ha hr z1
    rw [if_pos z1] at ne kT kF
    by_cases z8 : 8 ≤ D
    · rw [if_pos z8] at kF
      exact m_lhO h49 (fun Qo hQ => m_operB (d := d) (m := m0) hn hD ha hr hK H g z1 h48 (fun q => absurd z8 q) (fun q => absurd z8 q) (fun _ τ1 R1 F1 => hQ false τ1 (fun _ => kF 5 _ rfl _ R1.od1 (F1.w0 (by omega))) (fun q => by have := R1.1; omega)))
    · rw [if_neg z8] at ne kT kF
      refine m_lhO h49 (fun Qo hQ => m_operB (d := d) (m := m0) hn hD ha hr hK H g z1 h48 (fun _ z τ1 H1 F1 => hQ false τ1 (fun q => absurd H1.2.2.1 q) (fun _ => ?_)) (fun _ z τ1 R1 F1 => hQ false τ1 (fun _ => kF 1 _ (by rw [av_b z]) _ R1.od1 (F1.w0 (by omega))) (fun q => by have := R1.1; omega)) (fun q => absurd q z8))
      rw [bI_f]
      rw [av_t z] at ne kT kF
      have G1 : frQ D m0 zz τ (wr τ1 140 49 0) := (frQ.up F1 es e9).od1
      have v8 : wr τ1 140 49 0 168 D = ph := by rw [wr_obj (by omega), (F1.2.1 D (Nat.le_refl _)).2.1, es 168 (by omega)]; exact hph
      have v9 : wr τ1 140 49 0 169 D = 0 := by rw [wr_obj (by omega), (F1.2.1 D (Nat.le_refl _)).2.2.1]; exact e9D
      refine S (D + 1) (tN r n a) m0 zz 2 0 1 (m0 : Int) _ Q (by omega) t1.2 z (by decide) (by omega) (fun y => by omega) hz0 (by omega) (by omega) (Int.le_refl _) (fun _ => Or.inl rfl) H1.od1 (by rw [wr_row (by omega), F1.2.2.2.2.2.1, es 140 (by omega)]; exact h48) (by rw [wr_row (by omega), F1.2.2.2.2.2.2, es 140 (by omega)]; exact h38) (fun q => ne (by rw [q]; rfl)) (fun a2 c c' e2 τ2 H2 P2 h52 F2 => ?_) (fun k p e2 τ2 R2 F2 => kF k p (by rw [e2, bd_l]) τ2 R2 (G1.1.tr F2))
      rw [e2, bd_r] at ne kT kF
      obtain ⟨x1, x2, x3, x4, x5⟩ := pz_ln hr f 2 _ (D + 1) a2 c c' (by omega) t1.2 e2
      have en := (pz_en f 2 _ (D + 1) a2 c c' e2).2.1 rfl
      refine m_clo (x := 0) (c := c') (K0 := K) (ph0 := ph) (bg0 := 0) (B0 := B) hn hb2 (by omega) x1 hr (Or.inl rfl) hz0 rfl (by omega) h52 H2 (fun _ => ⟨en.2, en.1⟩) (fun y => by omega) (fun y => by omega) (by rw [(F2.2.2.1 D (by omega)).1, (G1.2.2.1 D (Nat.le_refl _)).1]; exact hk) (by rw [(F2.2.1 D (by omega)).1]; exact v8) (by rw [(F2.2.1 D (by omega)).2]; exact v9) (by rw [(F2.2.2.1 D (by omega)).2.2, (G1.2.2.1 D (Nat.le_refl _)).2.2]; exact hBB) (P2.weak (by omega)) (fun (y : tSb r n a2 41 = true) w τ3 H3 u48 u38 uC F3 => ?_) (fun (y : tSb r n a2 41 = true) w τ3 R3 F3 => kF 1 _ (by rw [if_pos y, av_b w]) τ3 R3 (G1.1.tr (F2.1.tr F3))) (fun (y : tSb r n a2 41 = false) τ3 R3 F3 => kF 1 _ (by rw [if_neg (by rw [y]; decide)]) τ3 R3 (G1.1.tr (F2.1.tr F3)))
      have ec : c' ++ (if (2 : Int) = 4 then [(0 : Int)] else []) = c' := by rw [if_neg (by decide), List.append_nil]
      rw [ec] at u38 uC
      exact kT _ c c' (by rw [if_pos y, av_t w]) τ3 H3 (PSt.nil u48 u38 uC) (by omega) (G1.tr (Nat.le_refl _) (Nat.le_refl _) (F2.dn.tr (Nat.le_refl _) (Nat.le_refl _) F3))
  · have n40 : tSb r n a 40 = false := by simpa using z1
    rw [if_neg z1] at ne kT kF
    have num : ∀ {x : Int}, ((tNb r n a = true ∧ x = tV r n a) ∨ (tNb r n a = false ∧ ftP r n a ≠ 0 ∧ x = ftP r n a)) → (a < tN r n a ∧ tN r n a ≤ n) → (∀ a' c c', avP r n true a (fun a1 => .inr (a1, [x], [x])) = .inr (a', c, c') → ∀ τ', PM r n bi D K ph 0 B a' 1 τ' → PSt bi 7 m0 zz c' τ' → τ' 140 48 ≤ 500 → frQ D m0 zz τ τ' → LH E d τ' Q) → (∀ k p, avP r n true a (fun a1 => .inr (a1, [x], [x])) = .inl (k, p) → ∀ τ', PF k p τ' → frX τ τ' → Q none τ') → LH E d τ Q := fun {x} hx t kT kF => by
      refine m_lhO h49 (fun Qo hQ => m_operN (d := d + 1) (m0 := m0) (z := zz) hn hb2 (by omega) ha hr hK H g n40 hx h38 (by omega) hz0 (fun z τ1 H1 u48 u38 uc F1 u172 => hQ true τ1 (fun q => absurd H1.2.2.1 q) (fun _ => ?_)) (fun z τ1 R1 F1 => hQ true τ1 (fun _ => kF 1 _ (by rw [av_b z]) _ R1.od1 (F1.w0 (by omega))) (fun q => by have := R1.1; omega)))
      rw [bI_t]
      refine kT _ _ _ (by rw [av_t z]) _ H1.od1 (PSt.nil (by rw [wr_row (by omega), u48]; exact h48) (by rw [wr_row (by omega)]; exact u38) (CodeM.one (by rw [wr_obj (by omega), wr_obj (by omega)]; exact uc))) (by rw [wr_row (by omega), u48]; omega) F1.od1
    by_cases z2 : tNb r n a = true
    · rw [if_pos z2] at kT kF
      exact num (Or.inl ⟨z2, rfl⟩) (tN_lt ha hr (by have := of_decide_eq_true z2; omega)) kT kF
    · rw [if_neg z2] at ne kT kF
      by_cases z3 : ftP r n a ≠ 0
      · rw [if_pos z3] at kT kF
        exact num (Or.inr ⟨by simpa using z2, z3, rfl⟩) (ft_n ha hr z3) kT kF
      · rw [if_neg z3] at ne kT kF
        have z3 : ftP r n a = 0 := by omega
        by_cases z4 : tWb r n a 27 = true ∨ tWb r n a 28 = true
        · rw [if_pos z4] at ne kT kF
          have t0 : a < tN r n a ∧ tN r n a ≤ n := by
            rcases z4 with z4 | z4
            · exact tW_n ha hr z4
            · exact tW_n ha hr z4
          have fl : ∀ {k p : Nat}, avP r n true a (fun a1 => if tSb r n a1 40 = true then (if 8 ≤ D then .inl (5, tPl r n a1) else
          avP r n true a1 (fun a2 => bdP (pz r n true f 2 a2 (D + 1)) (fun a3 c c' => if tSb r n a3 44 = true then
            avP r n true a3 (fun a4 => bdP (pz r n true f 2 a4 (D + 1)) (fun a5 k k' => if tSb r n a5 41 = true then
              avP r n true a5 (fun a6 => .inr (a6, c ++ k ++ [if tWb r n a 27 = true then -13 else -14], c' ++ k' ++ [if tWb r n a 27 = true then -13 else -14]))
              else .inl (1, tPl r n a5)))
            else .inl (1, tPl r n a3))))
          else .inl (1, tPl r n a1)) = .inl (k, p) → k ≠ 0 → ∀ (Qo : mm_Q0), (∀ (b : Bool) (τ6 : mm_Mem), (τ6 140 8 ≠ 0 → Q none (wr τ6 140 49 (bI b))) → (τ6 140 8 = 0 → LH E d (wr τ6 140 49 (bI b)) Q) → Qo (some (vB b)) τ6) → ∀ τ', PF k p τ' → frX τ τ' → Qo (some (vB false)) τ' := fun {k p} e k0 Qo hQ τ' R F => hQ false τ' (fun _ => kF k p e _ R.od1 (F.w0 (by omega))) (fun q => by have := R.1; omega)
          refine m_lhO h49 (fun Qo hQ => m_operP (d := d) (m := m0) hn hD ha hr hK H g z4 h48 (fun z τ1 R1 F1 => fl (by rw [av_b z]) (by omega) Qo hQ τ1 R1 F1) (fun z y τ1 R1 F1 => fl (by rw [av_t z, if_neg (by rw [y]; decide)]) (by omega) Qo hQ τ1 R1 F1) (fun z y z8 τ1 R1 F1 => fl (by rw [av_t z, if_pos y, if_pos z8]) (by omega) Qo hQ τ1 R1 F1) (fun z y z8 w τ1 R1 F1 => fl (by rw [av_t z, if_pos y, if_neg z8, av_b w]) (by omega) Qo hQ τ1 R1 F1) (fun z y z8 w τ1 H1 u0 F1 => hQ false τ1 (fun q => absurd H1.2.2.1 q) (fun _ => ?_)))
          have t1 := tS_n t0.2 hr y
          clear fl
          generalize hX : (if tWb r n a 27 = true then (-13 : Int) else -14) = X at u0 kT kF ne
          have hXo : isO X := by rw [← hX]; split <;> (unfold isO; omega)
          rw [bI_f]
          rw [av_t z, if_pos y, if_neg z8, av_t w] at ne kT kF
          have G1 : frQ D m0 zz τ (wr τ1 140 49 0) := (frQ.up F1 es e9).od1
          have v8 : wr τ1 140 49 0 168 D = ph := by rw [wr_obj (by omega), (F1.2.1 D (Nat.le_refl _)).2.1, es 168 (by omega)]; exact hph
          have v9 : wr τ1 140 49 0 169 D = 0 := by rw [wr_obj (by omega), (F1.2.1 D (Nat.le_refl _)).2.2.1]; exact e9D
          refine S (D + 1) (tN r n (tN r n a)) m0 zz 3 0 1 (m0 : Int) _ Q (by omega) t1.2 w (by decide) (by omega) (fun y => by omega) hz0 (by omega) (by omega) (Int.le_refl _) (fun _ => Or.inl rfl) H1.od1 (by rw [wr_row (by omega), F1.2.2.2.2.2.1, es 140 (by omega)]; exact h48) (by rw [wr_row (by omega), F1.2.2.2.2.2.2, es 140 (by omega)]; exact h38) (fun q => ne (by rw [q]; rfl)) (fun a2 c c' e2 τ2 H2 P2 h52 F2 => ?_) (fun k p e2 τ2 R2 F2 => kF k p (by rw [e2, bd_l]) τ2 R2 (G1.1.tr F2))
          rw [e2, bd_r] at ne kT kF
          obtain ⟨x1, x2, x3, x4, x5⟩ := pz_ln hr f 2 _ (D + 1) a2 c c' (by omega) t1.2 e2
          have en := (pz_en f 2 _ (D + 1) a2 c c' e2).2.1 rfl
          have G2 := G1.1.tr F2.1
          by_cases y7 : tSb r n a2 44 = true
          · rw [if_pos y7] at ne kT kF
            have t2 := tS_n x1 hr y7
            refine m_lhG H2.2.2.2.2.2.2.2.2.2.2.2 (fun Qo hF hT => m_goComma (d := d + 1) (c := c') hn hb2 (by omega) x1 hr hz0 rfl (by omega) h52 H2 (fun _ => ⟨en.2, en.1⟩) y7 (P2.weak (by omega)) (fun w3 τ3 H3 u48 u38 uC uF u8 u7 u2 u5 => hT τ3 (fun q => absurd H3.2.2.1 q) (fun _ => ?_)) (fun w3 τ3 R3 F3 => hT τ3 (fun _ => kF 1 _ (by rw [av_b w3]) τ3 R3 (G2.tr F3)) (fun q => by have := R3.1; omega)))
            rw [av_t w3] at ne kT kF
            have G3 := G2.tr uF
            refine S (D + 1) (tN r n a2) m0 (zz + c'.length) 4 0 0 (m0 : Int) _ Q (by omega) t2.2 w3 (by decide) (by omega) (fun y => by omega) (by omega) (by omega) (by omega) (Int.le_refl _) (fun _ => Or.inl rfl) H3 u48 u38 (fun q => ne (by rw [q]; rfl)) (fun a5 k k' e5 τ5 H5 P5 h55 F5 => ?_) (fun k p e5 τ5 R5 F5 => kF k p (by rw [e5, bd_l]) τ5 R5 (G3.tr F5))
            rw [e5, bd_r] at ne kT kF
            obtain ⟨y1, y2, y3, y4, y5⟩ := pz_ln hr f 2 _ (D + 1) a5 k k' (by omega) t2.2 e5
            have en5 := (pz_en f 2 _ (D + 1) a5 k k' e5).2.1 rfl
            have C5 : CodeM zz c' τ5 := uC.fr (fun i _ h => F5.2.2.2.2 i h)
            have h170 : τ5 170 (D + 1) = opS X := by rw [(F5.2.2.1 (D + 1) (Nat.le_refl _)).2.1, (u8 (D + 1) (Nat.le_refl _)).2.2.1, (F2.2.2.1 (D + 1) (Nat.le_refl _)).2.1, wr_obj (by omega)]; exact u0
            have F25 : frQ D m0 zz (wr τ1 140 49 0) τ5 := F2.dn.tr (Nat.le_refl _) (Nat.le_refl _) (frQ.tr (Nat.le_refl _) (by omega : zz ≤ zz + c'.length) (⟨uF, fun i hi => ⟨(u8 i (by omega)).1, (u8 i (by omega)).2.1⟩, fun i hi => ⟨u7 i (by omega), (u8 i (by omega)).2.2.1, (u8 i (by omega)).2.2.2⟩, fun i _ => by rw [u2], u5⟩ : frQ D m0 zz τ2 τ3) F5.dn)
            refine m_clo (x := X) (c := c' ++ k') (K0 := K) (ph0 := ph) (bg0 := 0) (B0 := B) hn hb2 (by omega) y1 hr (Or.inr (Or.inl rfl)) hz0 rfl (by rw [List.length_append]; omega) h55 H5 (fun _ => ⟨en5.2, en5.1⟩) (fun y => by omega) (fun _ => ⟨h170, hXo⟩) (by rw [(F25.2.2.1 D (Nat.le_refl _)).1, (G1.2.2.1 D (Nat.le_refl _)).1]; exact hk) (by rw [(F5.2.1 D (by omega)).1, (u8 D (by omega)).1, (F2.2.1 D (by omega)).1]; exact v8) (by rw [(F5.2.1 D (by omega)).2, (u8 D (by omega)).2.1, (F2.2.1 D (by omega)).2]; exact v9) (by rw [(F25.2.2.1 D (Nat.le_refl _)).2.2, (G1.2.2.1 D (Nat.le_refl _)).2.2]; exact hBB) ((PSt.pre C5 P5).weak (by omega)) (fun (y : tSb r n a5 41 = true) w τ6 H6 v48 v38 vC F6 => ?_) (fun (y : tSb r n a5 41 = true) w τ6 R6 F6 => kF 1 _ (by rw [if_pos y, av_b w]) τ6 R6 (G3.tr (F5.1.tr F6))) (fun (y : tSb r n a5 41 = false) τ6 R6 F6 => kF 1 _ (by rw [if_neg (by rw [y]; decide)]) τ6 R6 (G3.tr (F5.1.tr F6)))
            have ec : (c' ++ k') ++ (if (4 : Int) = 4 then [X] else []) = c' ++ k' ++ [X] := by rw [if_pos rfl]
            rw [ec] at v38 vC
            exact kT _ (c ++ k ++ [X]) _ (by rw [if_pos y, av_t w]) τ6 H6 (PSt.nil v48 v38 vC) (by omega) (G1.tr (Nat.le_refl _) (Nat.le_refl _) (F25.tr (Nat.le_refl _) (Nat.le_refl _) F6))
          · rw [if_neg y7] at kF
            exact m_lhG H2.2.2.2.2.2.2.2.2.2.2.2 (fun Qo hF hT => m_goMiss (d := d + 2) hn (by omega) x1 hr (by omega) H2 (fun _ => ⟨en.2, en.1⟩) (fun y => by omega) (by rw [if_neg (by decide), if_pos rfl]; simpa using y7) (fun τ3 R3 F3 => hF τ3 (kF 1 _ rfl τ3 R3 (G2.tr F3))))
        · rw [if_neg z4] at kF
          refine m_lhO h49 (fun Qo hQ => m_operX (d := d + 2) (by omega) ha hr hn hK H g n40 (by simpa using z2) z3 ?_ ?_ (fun τ1 R1 F1 => hQ true τ1 (fun _ => kF 1 _ rfl _ R1.od1 (F1.w0 (by omega))) (fun q => by have := R1.1; omega)))
          · rw [← Bool.not_eq_true]; exact fun y => z4 (Or.inl y)
          · rw [← Bool.not_eq_true]; exact fun y => z4 (Or.inr y)
end MSim3
