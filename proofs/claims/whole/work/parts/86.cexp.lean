/-! the class reads sums and tests -/
def cPs (E : mm_Env) (r : Nat → Int) (n hh : Nat) (qm : mm_Y) (q dq f : Nat) : Prop := ∀ (d a op : Nat) (code : List Int) (τ : mm_Mem) (Q : mm_Q0), dq + 4 * (8 - op) ≤ d → op ≤ 8 → a ≤ n → code.length ≤ a → RdC r n hh a op code τ → pz r n false f q a op ≠ .inl (0, 0) → (∀ a' c c', pz r n false f q a op = .inr (a', c, c') → ∀ τ', RdC r n hh a' op (code ++ c) τ' → frR hh τ τ' → Q (some (vB true)) τ') → (∀ k p, pz r n false f q a op = .inl (k, p) → ∀ τ', RdF hh k p τ' → frR hh τ τ' → Q (some (vB false)) τ') → M0 E d qm [vR 77] τ Q
def cLs (E : mm_Env) (r : Nat → Int) (n hh : Nat) (qm : mm_Y) (tl : List (Option mm_PV)) (q dq f : Nat) : Prop := ∀ (d a op x : Nat) (code : List Int) (τ : mm_Mem) (Q : mm_Q0), dq + 4 * (8 - op) ≤ d → op ≤ 8 → a ≤ n → x ≤ a → code.length ≤ a → RdC r n hh a op code τ → pz r n false f q a op ≠ .inl (0, 0) → (∀ a' c c', pz r n false f q a op = .inr (a', c, c') → ∀ τ', RdC r n hh a' op (code ++ c) τ' → frR hh τ τ' → Q (some (vB true)) τ') → (∀ k p, pz r n false f q a op = .inl (k, p) → ∀ τ', RdF hh k p τ' → frR hh τ τ' → Q (some (vB false)) τ') → V0 E d qm 7 ([some (vR 77), some (vB true), some (vI (x : Int))] ++ tl) [] τ Q
theorem av_ff {r : Nat → Int} {n a : Nat} {K : Nat → Sum (Nat × Nat) (Nat × List Int × List Int)} : avP r n false a K = K (tN r n a) := rfl
theorem bd_l {z : Nat × Nat} {K : Nat → List Int → List Int → Sum (Nat × Nat) (Nat × List Int × List Int)} : bdP (.inl z) K = .inl z := rfl
theorem bd_r {a : Nat} {c c' : List Int} {K : Nat → List Int → List Int → Sum (Nat × Nat) (Nat × List Int × List Int)} : bdP (.inr (a, c, c')) K = K a c c' := rfl
theorem mul_s {r : Nat → Int} {n a : Nat} (h : mulP r n a ≠ 0) : 2 ≤ (tk r n a).1 ∧ inR (mulP r n a) := by
  unfold mulP at h ⊢
  by_cases q1 : tSb r n a 42 = true
  · rw [if_pos q1]; exact ⟨by rw [(tS_k q1).1]; omega, by decide⟩
  by_cases q2 : tSb r n a 47 = true
  · rw [if_neg q1, if_pos q2]; exact ⟨by rw [(tS_k q2).1]; omega, by decide⟩
  by_cases q3 : tSb r n a 37 = true
  · rw [if_neg q1, if_neg q2, if_pos q3]; exact ⟨by rw [(tS_k q3).1]; omega, by decide⟩
  rw [if_neg q1, if_neg q2, if_neg q3] at h; exact absurd rfl h
theorem add_s {r : Nat → Int} {n a : Nat} (h : addP r n a ≠ 0) : 2 ≤ (tk r n a).1 ∧ inR (addP r n a) := by
  unfold addP at h ⊢
  by_cases q1 : tSb r n a 43 = true
  · rw [if_pos q1]; exact ⟨by rw [(tS_k q1).1]; omega, by decide⟩
  by_cases q2 : tSb r n a 45 = true
  · rw [if_neg q1, if_pos q2]; exact ⟨by rw [(tS_k q2).1]; omega, by decide⟩
  rw [if_neg q1, if_neg q2] at h; exact absurd rfl h
section CExp
variable {E : mm_Env} {r : Nat → Int} {n hh : Nat}

theorem c_readProduct {f : Nat} (hn : n ≤ 1600) (hr : ∀ i, 0 ≤ r i ∧ r i ≤ 255) (S : cPs E r n hh qX4_readPart 0 3 f) (L : cLs E r n hh qX4_readProduct [none] 6 4 f) : cPs E r n hh qX4_readProduct 1 4 (f + 1) := by
  intro d a op code τ Q hd ho ha hl H ne kT kF
  obtain ⟨d, rfl⟩ : ∃ d', d = d' + 1 := ⟨d - 1, by omega⟩
  rw [pz_1] at ne
  refine mX4_readProduct (S d a op code τ _ (by omega) ho ha hl H (fun z => ne (by rw [z]; rfl)) (fun a1 c c' e1 τ1 H1 F1 => ⟨_, rfl, ?_⟩) (fun k p e1 τ1 R1 F1 => ⟨_, rfl, ?_⟩))
  · rw [e1, bd_r] at ne
    obtain ⟨x1, x2, x3, x4, x5⟩ := pz_ln hr f 0 a op a1 c c' (by omega) ha e1
    rw [if_neg (by omega)] at x4
    have g := L (d + 1) a1 op 0 (code ++ c) τ1 Q (by omega) ho x1 (by omega) (by rw [List.length_append]; omega) H1 (fun z => ne (by rw [z]; rfl)) (fun a2 k k' e2 τ2 H2 F2 => kT a2 (c ++ k) (c' ++ k') (by rw [pz_1, e1, bd_r, e2, bd_r]) τ2 (by rw [← List.append_assoc]; exact H2) (F1.tr F2)) (fun k p e2 τ2 R2 F2 => kF k p (by rw [pz_1, e1, bd_r, e2, bd_l]) τ2 R2 (F1.tr F2))
    exact g
  · have g := kF k p (by rw [pz_1, e1, bd_l]) τ1 R1 F1
    exact bX4_readProduct_7 ⟨⟨by omega, by omega⟩, fun _ => g, fun _ => ⟨fun _ => g, fun y => by cases y⟩⟩

theorem c_readSum {f : Nat} (hn : n ≤ 1600) (hr : ∀ i, 0 ≤ r i ∧ r i ≤ 255) (S : cPs E r n hh qX4_readProduct 1 4 f) (L : cLs E r n hh qX4_readSum [none] 7 5 f) : cPs E r n hh qX4_readSum 2 5 (f + 1) := by
  intro d a op code τ Q hd ho ha hl H ne kT kF
  obtain ⟨d, rfl⟩ : ∃ d', d = d' + 1 := ⟨d - 1, by omega⟩
  rw [pz_2] at ne
  refine mX4_readSum (S d a op code τ _ (by omega) ho ha hl H (fun z => ne (by rw [z]; rfl)) (fun a1 c c' e1 τ1 H1 F1 => ⟨_, rfl, ?_⟩) (fun k p e1 τ1 R1 F1 => ⟨_, rfl, ?_⟩))
  · rw [e1, bd_r] at ne
    obtain ⟨x1, x2, x3, x4, x5⟩ := pz_ln hr f 1 a op a1 c c' (by omega) ha e1
    rw [if_neg (by omega)] at x4
    have g := L (d + 1) a1 op 0 (code ++ c) τ1 Q (by omega) ho x1 (by omega) (by rw [List.length_append]; omega) H1 (fun z => ne (by rw [z]; rfl)) (fun a2 k k' e2 τ2 H2 F2 => kT a2 (c ++ k) (c' ++ k') (by rw [pz_2, e1, bd_r, e2, bd_r]) τ2 (by rw [← List.append_assoc]; exact H2) (F1.tr F2)) (fun k p e2 τ2 R2 F2 => kF k p (by rw [pz_2, e1, bd_r, e2, bd_l]) τ2 R2 (F1.tr F2))
    exact g
  · have g := kF k p (by rw [pz_2, e1, bd_l]) τ1 R1 F1
    exact bX4_readSum_7 ⟨⟨by omega, by omega⟩, fun _ => g, fun _ => ⟨fun _ => g, fun y => by cases y⟩⟩

theorem c_readBoth {f : Nat} (hn : n ≤ 1600) (hr : ∀ i, 0 ≤ r i ∧ r i ≤ 255) (S : cPs E r n hh qX4_readFact 3 6 f) (L : cLs E r n hh qX4_readBoth [] 8 7 f) : cPs E r n hh qX4_readBoth 4 7 (f + 1) := by
  intro d a op code τ Q hd ho ha hl H ne kT kF
  obtain ⟨d, rfl⟩ : ∃ d', d = d' + 1 := ⟨d - 1, by omega⟩
  rw [pz_4] at ne
  refine mX4_readBoth (S d a op code τ _ (by omega) ho ha hl H (fun z => ne (by rw [z]; rfl)) (fun a1 c c' e1 τ1 H1 F1 => ⟨_, rfl, ?_⟩) (fun k p e1 τ1 R1 F1 => ⟨_, rfl, ?_⟩))
  · rw [e1, bd_r] at ne
    obtain ⟨x1, x2, x3, x4, x5⟩ := pz_ln hr f 3 a op a1 c c' (by omega) ha e1
    rw [if_neg (by omega)] at x4
    have g := L (d + 1) a1 op 0 (code ++ c) τ1 Q (by omega) ho x1 (by omega) (by rw [List.length_append]; omega) H1 (fun z => ne (by rw [z]; rfl)) (fun a2 k k' e2 τ2 H2 F2 => kT a2 (c ++ k) (c' ++ k') (by rw [pz_4, e1, bd_r, e2, bd_r]) τ2 (by rw [← List.append_assoc]; exact H2) (F1.tr F2)) (fun k p e2 τ2 R2 F2 => kF k p (by rw [pz_4, e1, bd_r, e2, bd_l]) τ2 R2 (F1.tr F2))
    exact g
  · have g := kF k p (by rw [pz_4, e1, bd_l]) τ1 R1 F1
    exact bX4_readBoth_7 ⟨⟨by omega, by omega⟩, fun _ => g, fun _ => ⟨fun _ => g, fun y => by cases y⟩⟩

theorem c_readTest {f : Nat} (hn : n ≤ 1600) (hr : ∀ i, 0 ≤ r i ∧ r i ≤ 255) (S : cPs E r n hh qX4_readBoth 4 7 f) (L : cLs E r n hh qX4_readTest [] 9 8 f) : cPs E r n hh qX4_readTest 5 8 (f + 1) := by
  intro d a op code τ Q hd ho ha hl H ne kT kF
  obtain ⟨d, rfl⟩ : ∃ d', d = d' + 1 := ⟨d - 1, by omega⟩
  rw [pz_5] at ne
  refine mX4_readTest (S d a op code τ _ (by omega) ho ha hl H (fun z => ne (by rw [z]; rfl)) (fun a1 c c' e1 τ1 H1 F1 => ⟨_, rfl, ?_⟩) (fun k p e1 τ1 R1 F1 => ⟨_, rfl, ?_⟩))
  · rw [e1, bd_r] at ne
    obtain ⟨x1, x2, x3, x4, x5⟩ := pz_ln hr f 4 a op a1 c c' (by omega) ha e1
    rw [if_neg (by omega)] at x4
    have g := L (d + 1) a1 op 0 (code ++ c) τ1 Q (by omega) ho x1 (by omega) (by rw [List.length_append]; omega) H1 (fun z => ne (by rw [z]; rfl)) (fun a2 k k' e2 τ2 H2 F2 => kT a2 (c ++ k) (c' ++ k') (by rw [pz_5, e1, bd_r, e2, bd_r]) τ2 (by rw [← List.append_assoc]; exact H2) (F1.tr F2)) (fun k p e2 τ2 R2 F2 => kF k p (by rw [pz_5, e1, bd_r, e2, bd_l]) τ2 R2 (F1.tr F2))
    exact g
  · have g := kF k p (by rw [pz_5, e1, bd_l]) τ1 R1 F1
    exact bX4_readTest_7 ⟨⟨by omega, by omega⟩, fun _ => g, fun _ => ⟨fun _ => g, fun y => by cases y⟩⟩

theorem c_readProductL {f : Nat} (h4 : hh = 4 ∨ hh = 38) (hn : n ≤ 1600) (hr : ∀ i, 0 ≤ r i ∧ r i ≤ 255) (S : cPs E r n hh qX4_readPart 0 3 f) (L : cLs E r n hh qX4_readProduct [none] 6 4 f) : cLs E r n hh qX4_readProduct [none] 6 4 (f + 1) := by
  intro d a op x code τ Q hd ho ha hx hl H ne kT kF
  obtain ⟨d, rfl⟩ : ∃ d', d = d' + 1 := ⟨d - 1, by omega⟩
  have h7 : hh + 7 < 72 := by omega
  rw [pz_6] at ne kT kF
  have stop : ¬ (mulP r n a ≠ 0) → Q (some (vB true)) τ := fun z => by
    rw [if_neg z] at kT
    exact kT a [] [] rfl τ (by rw [List.append_nil]; exact H) frR.rf
  have full : 1600 ≤ x → ¬ (mulP r n a ≠ 0) := fun z y => by
    have := mul_n ha hr y
    omega
  -- one more, with this step
  have go : mulP r n a ≠ 0 → M0 E d qX4_advance [vR 77] τ (fun v τ4 => v = none ∧ M0 E d qX4_readPart [vR 77] τ4 (fun v τ5 => ∃ b6 : Bool, v = some (vB b6) ∧ ∃ o7 : Nat, (τ5 77 1) = (o7 : Int) ∧ KD o7 = some (.inr 2) ∧ M0 E d qX5_emit [vR (o7 + 6), vI (mulP r n a)] τ5 (fun v τ10 => v = none ∧ V0 E (d + 1) qX4_readProduct 7 ([some (vR 77), some (vB b6), some (vI ((x : Int) + 1))] ++ [none]) [] τ10 Q))) := fun z => by
    have t := mul_n ha hr z
    rw [if_pos z, av_ff] at ne kT kF
    refine c_advance h7 (by exact (mul_s z).1) H (fun τ1 H1 F1 _ => ⟨rfl, S d _ op code τ1 _ (by omega) ho t.2 (by omega) H1 (fun y => ne (by rw [y]; rfl)) (fun a2 c c' e2 τ2 H2 F2 => ⟨_, rfl, hh, H2.1, (kdR h4).1, ?_⟩) (fun k p e2 τ2 R2 F2 => ⟨_, rfl, hh, R2.2.2.1, (kdR h4).1, ?_⟩)⟩)
    · rw [e2, bd_r] at ne kT kF
      obtain ⟨x1, x2, x3, x4, x5⟩ := pz_ln hr f 0 _ op a2 c c' (by omega) t.2 e2
      rw [if_neg (by omega)] at x4
      refine c_emit h4 (by exact (mul_s z).2) (by rw [List.length_append]; omega) H2 (fun τ3 H3 F3 _ => ⟨rfl, ?_⟩)
      rw [show (x : Int) + 1 = ((x + 1 : Nat) : Int) by omega]
      refine L (d + 1) a2 op (x + 1) _ τ3 Q (by omega) ho x1 (by omega) (by rw [List.length_append, List.length_append]; show code.length + c.length + 1 ≤ a2; omega) H3 (fun y => ne (by rw [y]; rfl)) (fun a3 k k' e3 τ4 H4 F4 => kT a3 _ _ (by rw [e3, bd_r]) τ4 ?_ (((F1.tr F2).tr F3).tr F4)) (fun k p e3 τ4 R4 F4 => kF k p (by rw [e3, bd_l]) τ4 R4 (((F1.tr F2).tr F3).tr F4))
      rw [List.append_assoc, List.append_assoc] at H4
      exact H4
    · rw [e2, bd_l] at kF
      refine c_emitF h4 (by exact (mul_s z).2) R2 (fun τ3 R3 F3 => ⟨rfl, ?_⟩)
      have g := kF k p rfl τ3 R3 ((F1.tr F2).tr F3)
      rw [show (x : Int) + 1 = ((x + 1 : Nat) : Int) by omega]
      exact bX4_readProduct_7 ⟨⟨by omega, by omega⟩, fun _ => g, fun _ => ⟨fun _ => g, fun y => by cases y⟩⟩
  refine bX4_readProduct_7 ⟨⟨by omega, by omega⟩, fun q => stop (full (by omega)), fun _ => ⟨fun y => (by cases y), fun _ => ?_⟩⟩
  have g45 : mulP r n a ≠ 0 → V0 E (d + 1) qX4_readProduct 45 [some (vR 77), none, some (vI (x : Int)), none] [] τ Q := fun z => by
    have go := go z
    refine bX4_readProduct_45 (c_seesSign ha hr ⟨by omega, by omega⟩ H ⟨_, rfl, fun y1 => c_seesSign ha hr ⟨by omega, by omega⟩ H ⟨_, rfl, fun y2 => ?_, fun y2 => ?_⟩, fun y1 => ?_⟩)
    · have em : mulP r n a = -12 := by
        unfold mulP at z ⊢
        rw [if_neg (by rw [y1]; decide), if_neg (by rw [y2]; decide)] at z ⊢
        by_cases y3 : tSb r n a 37 = true
        · rw [if_pos y3]
        · rw [if_neg y3] at z; exact absurd rfl z
      rw [em] at go; exact go
    · have em : mulP r n a = -11 := by unfold mulP; rw [if_neg (by rw [y1]; decide), if_pos y2]
      rw [em] at go; exact go
    · have em : mulP r n a = -10 := by unfold mulP; rw [if_pos y1]
      rw [em] at go; exact go
  refine c_seesSign ha hr ⟨by omega, by omega⟩ H ⟨_, rfl, fun y1 => g45 (by unfold mulP; rw [if_pos y1]; decide), fun y1 => c_seesSign ha hr ⟨by omega, by omega⟩ H ⟨_, rfl, fun y2 => g45 (by unfold mulP; rw [if_neg (by rw [y1]; decide), if_pos y2]; decide), fun y2 => c_seesSign ha hr ⟨by omega, by omega⟩ H ⟨_, rfl, fun y3 => stop ?_, fun y3 => g45 (by unfold mulP; rw [if_neg (by rw [y1]; decide), if_neg (by rw [y2]; decide), if_pos y3]; decide)⟩⟩⟩
  unfold mulP
  rw [if_neg (by rw [y1]; decide), if_neg (by rw [y2]; decide), if_neg (by rw [y3]; decide)]
  exact fun y => y rfl

theorem c_readSumL {f : Nat} (h4 : hh = 4 ∨ hh = 38) (hn : n ≤ 1600) (hr : ∀ i, 0 ≤ r i ∧ r i ≤ 255) (S : cPs E r n hh qX4_readProduct 1 4 f) (L : cLs E r n hh qX4_readSum [none] 7 5 f) : cLs E r n hh qX4_readSum [none] 7 5 (f + 1) := by
  intro d a op x code τ Q hd ho ha hx hl H ne kT kF
  obtain ⟨d, rfl⟩ : ∃ d', d = d' + 1 := ⟨d - 1, by omega⟩
  have h7 : hh + 7 < 72 := by omega
  rw [pz_7] at ne kT kF
  have stop : ¬ (addP r n a ≠ 0) → Q (some (vB true)) τ := fun z => by
    rw [if_neg z] at kT
    exact kT a [] [] rfl τ (by rw [List.append_nil]; exact H) frR.rf
  have full : 1600 ≤ x → ¬ (addP r n a ≠ 0) := fun z y => by
    have := add_n ha hr y
    omega
  -- one more, with this step
  have go : addP r n a ≠ 0 → M0 E d qX4_advance [vR 77] τ (fun v τ4 => v = none ∧ M0 E d qX4_readProduct [vR 77] τ4 (fun v τ5 => ∃ b6 : Bool, v = some (vB b6) ∧ ∃ o7 : Nat, (τ5 77 1) = (o7 : Int) ∧ KD o7 = some (.inr 2) ∧ M0 E d qX5_emit [vR (o7 + 6), vI (addP r n a)] τ5 (fun v τ10 => v = none ∧ V0 E (d + 1) qX4_readSum 7 ([some (vR 77), some (vB b6), some (vI ((x : Int) + 1))] ++ [none]) [] τ10 Q))) := fun z => by
    have t := add_n ha hr z
    rw [if_pos z, av_ff] at ne kT kF
    refine c_advance h7 (by exact (add_s z).1) H (fun τ1 H1 F1 _ => ⟨rfl, S d _ op code τ1 _ (by omega) ho t.2 (by omega) H1 (fun y => ne (by rw [y]; rfl)) (fun a2 c c' e2 τ2 H2 F2 => ⟨_, rfl, hh, H2.1, (kdR h4).1, ?_⟩) (fun k p e2 τ2 R2 F2 => ⟨_, rfl, hh, R2.2.2.1, (kdR h4).1, ?_⟩)⟩)
    · rw [e2, bd_r] at ne kT kF
      obtain ⟨x1, x2, x3, x4, x5⟩ := pz_ln hr f 1 _ op a2 c c' (by omega) t.2 e2
      rw [if_neg (by omega)] at x4
      refine c_emit h4 (by exact (add_s z).2) (by rw [List.length_append]; omega) H2 (fun τ3 H3 F3 _ => ⟨rfl, ?_⟩)
      rw [show (x : Int) + 1 = ((x + 1 : Nat) : Int) by omega]
      refine L (d + 1) a2 op (x + 1) _ τ3 Q (by omega) ho x1 (by omega) (by rw [List.length_append, List.length_append]; show code.length + c.length + 1 ≤ a2; omega) H3 (fun y => ne (by rw [y]; rfl)) (fun a3 k k' e3 τ4 H4 F4 => kT a3 _ _ (by rw [e3, bd_r]) τ4 ?_ (((F1.tr F2).tr F3).tr F4)) (fun k p e3 τ4 R4 F4 => kF k p (by rw [e3, bd_l]) τ4 R4 (((F1.tr F2).tr F3).tr F4))
      rw [List.append_assoc, List.append_assoc] at H4
      exact H4
    · rw [e2, bd_l] at kF
      refine c_emitF h4 (by exact (add_s z).2) R2 (fun τ3 R3 F3 => ⟨rfl, ?_⟩)
      have g := kF k p rfl τ3 R3 ((F1.tr F2).tr F3)
      rw [show (x : Int) + 1 = ((x + 1 : Nat) : Int) by omega]
      exact bX4_readSum_7 ⟨⟨by omega, by omega⟩, fun _ => g, fun _ => ⟨fun _ => g, fun y => by cases y⟩⟩
  refine bX4_readSum_7 ⟨⟨by omega, by omega⟩, fun q => stop (full (by omega)), fun _ => ⟨fun y => (by cases y), fun _ => ?_⟩⟩
  have g36 : addP r n a ≠ 0 → V0 E (d + 1) qX4_readSum 36 [some (vR 77), none, some (vI (x : Int)), none] [] τ Q := fun z => by
    have go := go z
    refine bX4_readSum_36 (c_seesSign ha hr ⟨by omega, by omega⟩ H ⟨_, rfl, fun y1 => ?_, fun y1 => ?_⟩)
    · have em : addP r n a = -9 := by
        unfold addP at z ⊢
        rw [if_neg (by rw [y1]; decide)] at z ⊢
        by_cases y3 : tSb r n a 45 = true
        · rw [if_pos y3]
        · rw [if_neg y3] at z; exact absurd rfl z
      rw [em] at go; exact go
    · have em : addP r n a = -8 := by unfold addP; rw [if_pos y1]
      rw [em] at go; exact go
  refine c_seesSign ha hr ⟨by omega, by omega⟩ H ⟨_, rfl, fun y1 => g36 (by unfold addP; rw [if_pos y1]; decide), fun y1 => c_seesSign ha hr ⟨by omega, by omega⟩ H ⟨_, rfl, fun y2 => stop ?_, fun y2 => g36 (by unfold addP; rw [if_neg (by rw [y1]; decide), if_pos y2]; decide)⟩⟩
  unfold addP
  rw [if_neg (by rw [y1]; decide), if_neg (by rw [y2]; decide)]
  exact fun y => y rfl

theorem c_readBothL {f : Nat} (h4 : hh = 4 ∨ hh = 38) (hn : n ≤ 1600) (hr : ∀ i, 0 ≤ r i ∧ r i ≤ 255) (S : cPs E r n hh qX4_readFact 3 6 f) (L : cLs E r n hh qX4_readBoth [] 8 7 f) : cLs E r n hh qX4_readBoth [] 8 7 (f + 1) := by
  intro d a op x code τ Q hd ho ha hx hl H ne kT kF
  obtain ⟨d, rfl⟩ : ∃ d', d = d' + 1 := ⟨d - 1, by omega⟩
  have h7 : hh + 7 < 72 := by omega
  rw [pz_8] at ne kT kF
  have stop : ¬ (tWb r n a 19 = true) → Q (some (vB true)) τ := fun z => by
    rw [if_neg z] at kT
    exact kT a [] [] rfl τ (by rw [List.append_nil]; exact H) frR.rf
  have full : 1600 ≤ x → ¬ (tWb r n a 19 = true) := fun z y => by
    have := tW_n ha hr y
    omega
  -- one more, with this step
  have go : tWb r n a 19 = true → M0 E d qX4_advance [vR 77] τ (fun v τ4 => v = none ∧ M0 E d qX4_readFact [vR 77] τ4 (fun v τ5 => ∃ b6 : Bool, v = some (vB b6) ∧ ∃ o7 : Nat, (τ5 77 1) = (o7 : Int) ∧ KD o7 = some (.inr 2) ∧ M0 E d qX5_emit [vR (o7 + 6), vI (-18)] τ5 (fun v τ10 => v = none ∧ V0 E (d + 1) qX4_readBoth 7 ([some (vR 77), some (vB b6), some (vI ((x : Int) + 1))] ++ []) [] τ10 Q))) := fun z => by
    have t := tW_n ha hr z
    rw [if_pos z, av_ff] at ne kT kF
    refine c_advance h7 (by rw [(tW_k z).1]; omega) H (fun τ1 H1 F1 _ => ⟨rfl, S d _ op code τ1 _ (by omega) ho t.2 (by omega) H1 (fun y => ne (by rw [y]; rfl)) (fun a2 c c' e2 τ2 H2 F2 => ⟨_, rfl, hh, H2.1, (kdR h4).1, ?_⟩) (fun k p e2 τ2 R2 F2 => ⟨_, rfl, hh, R2.2.2.1, (kdR h4).1, ?_⟩)⟩)
    · rw [e2, bd_r] at ne kT kF
      obtain ⟨x1, x2, x3, x4, x5⟩ := pz_ln hr f 3 _ op a2 c c' (by omega) t.2 e2
      rw [if_neg (by omega)] at x4
      refine c_emit h4 (by exact ⟨by omega, by omega⟩) (by rw [List.length_append]; omega) H2 (fun τ3 H3 F3 _ => ⟨rfl, ?_⟩)
      rw [show (x : Int) + 1 = ((x + 1 : Nat) : Int) by omega]
      refine L (d + 1) a2 op (x + 1) _ τ3 Q (by omega) ho x1 (by omega) (by rw [List.length_append, List.length_append]; show code.length + c.length + 1 ≤ a2; omega) H3 (fun y => ne (by rw [y]; rfl)) (fun a3 k k' e3 τ4 H4 F4 => kT a3 _ _ (by rw [e3, bd_r]) τ4 ?_ (((F1.tr F2).tr F3).tr F4)) (fun k p e3 τ4 R4 F4 => kF k p (by rw [e3, bd_l]) τ4 R4 (((F1.tr F2).tr F3).tr F4))
      rw [List.append_assoc, List.append_assoc] at H4
      exact H4
    · rw [e2, bd_l] at kF
      refine c_emitF h4 (by exact ⟨by omega, by omega⟩) R2 (fun τ3 R3 F3 => ⟨rfl, ?_⟩)
      have g := kF k p rfl τ3 R3 ((F1.tr F2).tr F3)
      rw [show (x : Int) + 1 = ((x + 1 : Nat) : Int) by omega]
      exact bX4_readBoth_7 ⟨⟨by omega, by omega⟩, fun _ => g, fun _ => ⟨fun _ => g, fun y => by cases y⟩⟩
  exact bX4_readBoth_7 ⟨⟨by omega, by omega⟩, fun q => stop (full (by omega)), fun _ => ⟨fun y => (by cases y), fun _ => c_seesWord (i := 19) ha hr (by omega) rfl H ⟨_, rfl, fun y => stop (by rw [y]; decide), fun y => go y⟩⟩⟩

theorem c_readTestL {f : Nat} (h4 : hh = 4 ∨ hh = 38) (hn : n ≤ 1600) (hr : ∀ i, 0 ≤ r i ∧ r i ≤ 255) (S : cPs E r n hh qX4_readBoth 4 7 f) (L : cLs E r n hh qX4_readTest [] 9 8 f) : cLs E r n hh qX4_readTest [] 9 8 (f + 1) := by
  intro d a op x code τ Q hd ho ha hx hl H ne kT kF
  obtain ⟨d, rfl⟩ : ∃ d', d = d' + 1 := ⟨d - 1, by omega⟩
  have h7 : hh + 7 < 72 := by omega
  rw [pz_9] at ne kT kF
  have stop : ¬ (tWb r n a 18 = true) → Q (some (vB true)) τ := fun z => by
    rw [if_neg z] at kT
    exact kT a [] [] rfl τ (by rw [List.append_nil]; exact H) frR.rf
  have full : 1600 ≤ x → ¬ (tWb r n a 18 = true) := fun z y => by
    have := tW_n ha hr y
    omega
  -- one more, with this step
  have go : tWb r n a 18 = true → M0 E d qX4_advance [vR 77] τ (fun v τ4 => v = none ∧ M0 E d qX4_readBoth [vR 77] τ4 (fun v τ5 => ∃ b6 : Bool, v = some (vB b6) ∧ ∃ o7 : Nat, (τ5 77 1) = (o7 : Int) ∧ KD o7 = some (.inr 2) ∧ M0 E d qX5_emit [vR (o7 + 6), vI (-19)] τ5 (fun v τ10 => v = none ∧ V0 E (d + 1) qX4_readTest 7 ([some (vR 77), some (vB b6), some (vI ((x : Int) + 1))] ++ []) [] τ10 Q))) := fun z => by
    have t := tW_n ha hr z
    rw [if_pos z, av_ff] at ne kT kF
    refine c_advance h7 (by rw [(tW_k z).1]; omega) H (fun τ1 H1 F1 _ => ⟨rfl, S d _ op code τ1 _ (by omega) ho t.2 (by omega) H1 (fun y => ne (by rw [y]; rfl)) (fun a2 c c' e2 τ2 H2 F2 => ⟨_, rfl, hh, H2.1, (kdR h4).1, ?_⟩) (fun k p e2 τ2 R2 F2 => ⟨_, rfl, hh, R2.2.2.1, (kdR h4).1, ?_⟩)⟩)
    · rw [e2, bd_r] at ne kT kF
      obtain ⟨x1, x2, x3, x4, x5⟩ := pz_ln hr f 4 _ op a2 c c' (by omega) t.2 e2
      rw [if_neg (by omega)] at x4
      refine c_emit h4 (by exact ⟨by omega, by omega⟩) (by rw [List.length_append]; omega) H2 (fun τ3 H3 F3 _ => ⟨rfl, ?_⟩)
      rw [show (x : Int) + 1 = ((x + 1 : Nat) : Int) by omega]
      refine L (d + 1) a2 op (x + 1) _ τ3 Q (by omega) ho x1 (by omega) (by rw [List.length_append, List.length_append]; show code.length + c.length + 1 ≤ a2; omega) H3 (fun y => ne (by rw [y]; rfl)) (fun a3 k k' e3 τ4 H4 F4 => kT a3 _ _ (by rw [e3, bd_r]) τ4 ?_ (((F1.tr F2).tr F3).tr F4)) (fun k p e3 τ4 R4 F4 => kF k p (by rw [e3, bd_l]) τ4 R4 (((F1.tr F2).tr F3).tr F4))
      rw [List.append_assoc, List.append_assoc] at H4
      exact H4
    · rw [e2, bd_l] at kF
      refine c_emitF h4 (by exact ⟨by omega, by omega⟩) R2 (fun τ3 R3 F3 => ⟨rfl, ?_⟩)
      have g := kF k p rfl τ3 R3 ((F1.tr F2).tr F3)
      rw [show (x : Int) + 1 = ((x + 1 : Nat) : Int) by omega]
      exact bX4_readTest_7 ⟨⟨by omega, by omega⟩, fun _ => g, fun _ => ⟨fun _ => g, fun y => by cases y⟩⟩
  exact bX4_readTest_7 ⟨⟨by omega, by omega⟩, fun q => stop (full (by omega)), fun _ => ⟨fun y => (by cases y), fun _ => c_seesWord (i := 18) ha hr (by omega) rfl H ⟨_, rfl, fun y => stop (by rw [y]; decide), fun y => go y⟩⟩⟩

end CExp
