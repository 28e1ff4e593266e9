/-! the reference reads parts, facts and tests as the parser does -/
section MSim3
variable {E : mm_Env} {d : Nat} {r : Nat → Int} {n bi : Nat}
theorem av_t {a : Nat} {K0 : Nat → Sum (Nat × Nat) (Nat × List Int × List Int)} (z : tBb r n (tN r n a) = false) : avP r n true a K0 = K0 (tN r n a) := by unfold avP; rw [z]; rfl
theorem av_b {a : Nat} {K0 : Nat → Sum (Nat × Nat) (Nat × List Int × List Int)} (z : tBb r n (tN r n a) = true) : avP r n true a K0 = .inl (1, tPl r n (tN r n a)) := by unfold avP; rw [z]; rfl
theorem bI_t : bI true = 1 := rfl
theorem bI_f : bI false = 0 := rfl
/-- back from a frame above -/
theorem frQ.up {D m0 zz : Nat} {τ σ τ2 : mm_Mem} (h : frD D σ τ2) (es : ∀ o, o ≠ 169 → σ o = τ o) (e9 : ∀ i, i ≠ D → σ 169 i = τ 169 i) : frQ D m0 zz τ τ2 := by
  obtain ⟨a1, a2, a3, a4, a5, a6, a7⟩ := h
  refine ⟨⟨fun o x => (a1.1 o x).trans (es o (by omega)), fun i x => by rw [a1.2 i x, es 140 (by omega)]⟩, fun i hi => ?_, fun i hi => ?_, fun i hi => ?_, fun i hi => ?_⟩
  · obtain ⟨x1, x2, x3, x4, x5⟩ := a2 i (by omega)
    exact ⟨by rw [x2, es 168 (by omega)], by rw [x3, e9 i (by omega)]⟩
  · obtain ⟨x1, x2, x3, x4, x5⟩ := a2 i hi
    exact ⟨by rw [x1, es 167 (by omega)], by rw [x4, es 170 (by omega)], by rw [x5, es 171 (by omega)]⟩
  · rw [a3, es 172 (by omega)]
  · exact ⟨by rw [a4, es 165 (by omega)], by rw [a5, es 166 (by omega)]⟩
theorem m_part {f : Nat} (hn : n ≤ 1600) (hb2 : bi < 2) (hr : ∀ i, 0 ≤ r i ∧ r i ≤ 255) (S : mS E d r n bi 2 5 8 f) : mS E d r n bi 0 7 0 (f + 1) := by
  intro D a m0 zz K ph bg B τ Q hD ha hnb hK hp g hz0 hz hm hB bl H h48 h38 ne kT kF
  rw [pz_0] at ne kT kF
  have h49 := H.2.2.2.2.2.2.2.2.2.2.2
  obtain ⟨-, -, -, -, -, -, -, hk, hph, hbg, hBB, -⟩ := id H
  have es : ∀ o, o ≠ 169 → wr τ 169 D 0 o = τ o := fun o ho => wr_obj ho
  have e9 : ∀ i, i ≠ D → wr τ 169 D 0 169 i = τ 169 i := fun i hi => wr_row hi
  have e9D : wr τ 169 D 0 169 D = 0 := wr_same
  by_cases z1 : tSb r n a 40 = true
  · have t1 := tS_n ha hr z1
    rw [if_pos z1] at ne kT kF
    sorry
  · have n40 : tSb r n a 40 = false := by simpa using z1
    rw [if_neg z1] at ne kT kF
    have num : ∀ {x : Int}, ((tNb r n a = true ∧ x = tV r n a) ∨ (tNb r n a = false ∧ ftP r n a ≠ 0 ∧ x = ftP r n a)) → (a < tN r n a ∧ tN r n a ≤ n) → (∀ a' c c', avP r n true a (fun a1 => .inr (a1, [x], [x])) = .inr (a', c, c') → ∀ τ', PM r n bi D K ph 0 B a' 1 τ' → PSt bi 7 m0 zz c' τ' → τ' 140 48 ≤ 500 → frQ D m0 zz τ τ' → LH E d τ' Q) → (∀ k p, avP r n true a (fun a1 => .inr (a1, [x], [x])) = .inl (k, p) → ∀ τ', PF k p τ' → frX τ τ' → Q none τ') → LH E d τ Q := fun {x} hx t kT kF => by
      refine m_lhO h49 (fun Qo hQ => m_operN (d := d + 1) (m0 := m0) (z := zz) hn hb2 (by omega) ha hr hK H g n40 hx h38 (by omega) hz0 (fun z τ1 H1 u48 u38 uc F1 u172 => hQ true τ1 (fun q => absurd H1.2.2.1 q) (fun _ => ?_)) (fun z τ1 R1 F1 => hQ true τ1 (fun _ => kF 1 _ (by rw [av_b z]) _ R1.od1 (F1.w0 (by omega))) (fun q => by have := R1.1; omega)))
      rw [bI_t]
      refine kT _ _ _ (by rw [av_t z]) _ H1.od1 (PSt.nil (by rw [wr_row (by omega), u48]; exact h48) (by rw [wr_row (by omega)]; exact u38) (CodeM.one (by rw [wr_obj (by omega), wr_obj (by omega)]; exact uc))) (by rw [wr_row (by omega), u48]; omega) F1.od1
    by_cases z2 : tNb r n a = true
    · rw [if_pos z2] at kT kF
      exact num (Or.inl ⟨z2, rfl⟩) (tN_lt ha hr (by have := of_decide_eq_true z2; omega)) kT kF
    · rw [if_neg z2] at ne kT kF
      by_cases z3 : ftP r n a ≠ 0
      · rw [if_pos z3] at kT kF
        exact num (Or.inr ⟨by simpa using z2, z3, rfl⟩) (ft_n ha hr z3) kT kF
      · rw [if_neg z3] at ne kT kF
        have z3 : ftP r n a = 0 := by omega
        by_cases z4 : tWb r n a 27 = true ∨ tWb r n a 28 = true
        · rw [if_pos z4] at ne kT kF
          have t0 : a < tN r n a ∧ tN r n a ≤ n := by
            rcases z4 with z4 | z4
            · exact tW_n ha hr z4
            · exact tW_n ha hr z4
          sorry
        · rw [if_neg z4] at kF
          refine m_lhO h49 (fun Qo hQ => m_operX (d := d + 2) (by omega) ha hr hn hK H g n40 (by simpa using z2) z3 ?_ ?_ (fun τ1 R1 F1 => hQ true τ1 (fun _ => kF 1 _ rfl _ R1.od1 (F1.w0 (by omega))) (fun q => by have := R1.1; omega)))
          · rw [← Bool.not_eq_true]; exact fun y => z4 (Or.inl y)
          · rw [← Bool.not_eq_true]; exact fun y => z4 (Or.inr y)
end MSim3
