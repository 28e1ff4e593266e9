/-! the class reads parts and facts -/
section CExp2
variable {E : mm_Env} {r : Nat → Int} {n hh : Nat}
theorem tW_u {a i j : Nat} (hi : i < 29) (hj : j < 29) (h : tWb r n a i = true) (h' : tWb r n a j = true) : i = j := by
  have e : owW.getD i 0 = owW.getD j 0 := (tW_k h).2.symm.trans (tW_k h').2
  have e2 := congrArg nm5 e
  rw [ow_nm5 i hi, ow_nm5 j hj] at e2
  have e3 := congrArg owI e2
  rw [ow_own i hi, ow_own j hj] at e3
  omega
theorem ft_w {a i : Nat} (hi : 22 ≤ i ∧ i ≤ 26) (h : tWb r n a i = true) : ftP r n a = -1 - ((i : Int) - 22) := by
  have no : ∀ j, j < 29 → j ≠ i → ¬ tWb r n a j = true := fun j hj hne z => hne (tW_u hj (by omega) z h)
  unfold ftP
  have : i = 22 ∨ i = 23 ∨ i = 24 ∨ i = 25 ∨ i = 26 := by omega
  rcases this with e | e | e | e | e <;> subst e
  · rw [if_pos h]; rfl
  · rw [if_neg (no 22 (by omega) (by omega)), if_pos h]; rfl
  · rw [if_neg (no 22 (by omega) (by omega)), if_neg (no 23 (by omega) (by omega)), if_pos h]; rfl
  · rw [if_neg (no 22 (by omega) (by omega)), if_neg (no 23 (by omega) (by omega)), if_neg (no 24 (by omega) (by omega)), if_pos h]; rfl
  · rw [if_neg (no 22 (by omega) (by omega)), if_neg (no 23 (by omega) (by omega)), if_neg (no 24 (by omega) (by omega)), if_neg (no 25 (by omega) (by omega)), if_pos h]; rfl
theorem ft_o {a : Nat} (h : ∀ i, 22 ≤ i → i ≤ 26 → tWb r n a i = false) : ftP r n a = if tWb r n a 6 = true then -6 else 0 := by
  unfold ftP
  rw [if_neg (by rw [h 22 (by omega) (by omega)]; decide), if_neg (by rw [h 23 (by omega) (by omega)]; decide), if_neg (by rw [h 24 (by omega) (by omega)]; decide), if_neg (by rw [h 25 (by omega) (by omega)]; decide), if_neg (by rw [h 26 (by omega) (by omega)]; decide)]
theorem tS_f {a : Nat} {c : Int} (h : (tk r n a).1 ≠ 2) : tSb r n a c = false := decide_eq_false (fun z => h z.1)
theorem tW_f {a i : Nat} (h : (tk r n a).1 ≠ 4) : tWb r n a i = false := decide_eq_false (fun z => h z.1)
theorem tN_f {a : Nat} (h : (tk r n a).1 ≠ 3) : tNb r n a = false := decide_eq_false h
theorem c_readPairOfSums {f d a op : Nat} {code : List Int} {τ : mm_Mem} {Q : mm_Q0} {x : Int} (h4 : hh = 4 ∨ hh = 38) (hn : n ≤ 1600) (hr : ∀ i, 0 ≤ r i ∧ r i ≤ 255) (S : cPs E r n hh qX4_readSum 2 5 f) (hx : inR x) (hd : 2 + 4 * (8 - op) ≤ d) (ho : op ≤ 8) (ha : a ≤ n) (hl : code.length + 1 ≤ a) (H : RdC r n hh a op code τ) (ne : (if tSb r n a 40 = true then (if 8 ≤ op then .inl (5, tPl r n a) else
          avP r n false a (fun a2 => bdP (pz r n false f 2 a2 (op + 1)) (fun a3 c c' => if tSb r n a3 44 = true then
            avP r n false a3 (fun a4 => bdP (pz r n false f 2 a4 (op + 1)) (fun a5 k k' => if tSb r n a5 41 = true then
              avP r n false a5 (fun a6 => .inr (a6, c ++ k ++ [x], c' ++ k' ++ [x]))
              else .inl (1, tPl r n a5)))
            else .inl (1, tPl r n a3))))
          else .inl (1, tPl r n a)) ≠ .inl (0, 0)) (kT : ∀ a' c c', (if tSb r n a 40 = true then (if 8 ≤ op then .inl (5, tPl r n a) else
          avP r n false a (fun a2 => bdP (pz r n false f 2 a2 (op + 1)) (fun a3 c c' => if tSb r n a3 44 = true then
            avP r n false a3 (fun a4 => bdP (pz r n false f 2 a4 (op + 1)) (fun a5 k k' => if tSb r n a5 41 = true then
              avP r n false a5 (fun a6 => .inr (a6, c ++ k ++ [x], c' ++ k' ++ [x]))
              else .inl (1, tPl r n a5)))
            else .inl (1, tPl r n a3))))
          else .inl (1, tPl r n a)) = .inr (a', c, c') → ∀ τ', RdC r n hh a' op (code ++ c) τ' → frR hh τ τ' → Q (some (vB true)) τ') (kF : ∀ k p, (if tSb r n a 40 = true then (if 8 ≤ op then .inl (5, tPl r n a) else
          avP r n false a (fun a2 => bdP (pz r n false f 2 a2 (op + 1)) (fun a3 c c' => if tSb r n a3 44 = true then
            avP r n false a3 (fun a4 => bdP (pz r n false f 2 a4 (op + 1)) (fun a5 k k' => if tSb r n a5 41 = true then
              avP r n false a5 (fun a6 => .inr (a6, c ++ k ++ [x], c' ++ k' ++ [x]))
              else .inl (1, tPl r n a5)))
            else .inl (1, tPl r n a3))))
          else .inl (1, tPl r n a)) = .inl (k, p) → ∀ τ', RdF hh k p τ' → frR hh τ τ' → Q (some (vB false)) τ') : M0 E d qX4_readPairOfSums [vR 77, vI x] τ Q := by
  obtain ⟨d, rfl⟩ : ∃ d', d = d' + 1 := ⟨d - 1, by omega⟩
  obtain ⟨d, rfl⟩ : ∃ d', d = d' + 1 := ⟨d - 1, by omega⟩
  have h7 : hh + 7 < 72 := by omega
  -- a failure: the step is written all the same
  have bad : ∀ {k p : Nat} {τ1 : mm_Mem}, RdF hh k p τ1 → (∀ τ', RdF hh k p τ' → frR hh τ1 τ' → Q (some (vB false)) τ') → ∃ o3 : Nat, (τ1 77 1) = (o3 : Int) ∧ KD o3 = some (.inr 2) ∧ M0 E (d + 1) qX5_emit [vR (o3 + 6), vI x] τ1 (fun v τ6 => v = none ∧ Q (some (vB false)) τ6) := fun R k =>
    ⟨hh, R.2.2.1, (kdR h4).1, c_emitF h4 hx R (fun τ' t1 t2 => ⟨rfl, k τ' t1 t2⟩)⟩
  refine mX4_readPairOfSums (c_openBracket (d := d) h7 ha hr ⟨by omega, by omega⟩ ho H (fun z1 z2 τ1 H1 F1 => ⟨_, rfl, fun y => (by cases y), fun _ => ?_⟩) (fun z1 z2 τ1 R1 F1 => ⟨_, rfl, fun _ => bad R1 (fun τ2 R2 F2 => ?_), fun y => (by cases y)⟩) (fun z1 τ1 R1 F1 => ⟨_, rfl, fun _ => bad R1 (fun τ2 R2 F2 => ?_), fun y => (by cases y)⟩))
  · rw [if_pos z1, if_neg z2, av_ff] at ne kT kF
    have t1 := tS_n ha hr z1
    refine S (d + 1) _ (op + 1) code τ1 _ (by omega) (by omega) t1.2 (by omega) H1 (fun y => ne (by rw [y]; rfl)) (fun a3 c c' e3 τ2 H2 F2 => ⟨_, rfl, fun y => (by cases y), fun _ => ?_⟩) (fun k p e3 τ2 R2 F2 => ⟨_, rfl, fun _ => bad R2 (fun τ3 R3 F3 => kF k p (by rw [e3, bd_l]) τ3 R3 ((F1.tr F2).tr F3)), fun y => (by cases y)⟩)
    obtain ⟨x1, x2, x3, x4, x5⟩ := pz_ln hr f 2 _ _ a3 c c' (by omega) t1.2 e3
    rw [if_neg (by omega)] at x4
    rw [e3, bd_r] at ne kT kF
    refine c_readSign (d := d) h7 x1 hr ⟨by omega, by omega⟩ H2 (fun z3 τ3 H3 F3 _ => ⟨_, rfl, fun y => (by cases y), fun _ => ?_⟩) (fun z3 τ3 R3 F3 => ⟨_, rfl, fun _ => bad R3 (fun τ4 R4 F4 => kF 1 _ (by rw [if_neg (by rw [z3]; decide)]) τ4 R4 (((F1.tr F2).tr F3).tr F4)), fun y => (by cases y)⟩)
    rw [if_pos z3, av_ff] at ne kT kF
    have t2 := tS_n x1 hr z3
    refine S (d + 1) _ (op + 1) (code ++ c) τ3 _ (by omega) (by omega) t2.2 (by rw [List.length_append]; omega) H3 (fun y => ne (by rw [y]; rfl)) (fun a5 k k' e5 τ4 H4 F4 => ⟨_, rfl, fun y => (by cases y), fun _ => ?_⟩) (fun k p e5 τ4 R4 F4 => ⟨_, rfl, fun _ => bad R4 (fun τ5 R5 F5 => kF k p (by rw [e5, bd_l]) τ5 R5 ((((F1.tr F2).tr F3).tr F4).tr F5)), fun y => (by cases y)⟩)
    obtain ⟨y1, y2, y3, y4, y5⟩ := pz_ln hr f 2 _ _ a5 k k' (by omega) t2.2 e5
    rw [if_neg (by omega)] at y4
    rw [e5, bd_r] at ne kT kF
    refine c_closeBracket (d := d) h7 y1 hr ⟨by omega, by omega⟩ (by omega) H4 (fun z5 τ5 H5 F5 => ⟨_, rfl, fun y => (by cases y), fun _ => ⟨hh, H5.1, (kdR h4).1, ?_⟩⟩) (fun z5 τ5 R5 F5 => ⟨_, rfl, fun _ => bad R5 (fun τ6 R6 F6 => kF 1 _ (by rw [if_neg (by rw [z5]; decide)]) τ6 R6 (((((F1.tr F2).tr F3).tr F4).tr F5).tr F6)), fun y => (by cases y)⟩)
    rw [if_pos z5, av_ff] at kT
    refine c_emit h4 hx (by rw [List.length_append, List.length_append]; omega) H5 (fun τ6 H6 F6 _ => ⟨rfl, kT _ _ _ rfl τ6 ?_ (((((F1.tr F2).tr F3).tr F4).tr F5).tr F6)⟩)
    rw [List.append_assoc, List.append_assoc] at H6
    rw [List.append_assoc]
    exact H6
  · exact kF 5 _ (by rw [if_pos z1, if_pos z2]) τ2 R2 (F1.tr F2)
  · exact kF 1 _ (by rw [if_neg (by rw [z1]; decide)]) τ2 R2 (F1.tr F2)
theorem c_readPart {f : Nat} (h4 : hh = 4 ∨ hh = 38) (hn : n ≤ 1600) (hr : ∀ i, 0 ≤ r i ∧ r i ≤ 255) (S : cPs E r n hh qX4_readSum 2 5 f) : cPs E r n hh qX4_readPart 0 3 (f + 1) := by
  intro d a op code τ Q hd ho ha hl H ne kT kF
  obtain ⟨d, rfl⟩ : ∃ d', d = d' + 1 := ⟨d - 1, by omega⟩
  obtain ⟨d, rfl⟩ : ∃ d', d = d' + 1 := ⟨d - 1, by omega⟩
  have h7 : hh + 7 < 72 := by omega
  have tr := tk_r (r := r) (n := n) ha hr
  have cs := ckd_s tr.2.1
  rw [pz_0] at ne kT kF
  have g3 := H.2.2.1
  have g4 := H.2.2.2.1
  -- one step, and on
  have one : ∀ {x : Int}, inR x → 2 ≤ (tk r n a).1 → (∀ τ', RdC r n hh (tN r n a) op (code ++ [x]) τ' → frR hh τ τ' → Q (some (vB true)) τ') → ∃ o6 : Nat, (τ 77 1) = (o6 : Int) ∧ KD o6 = some (.inr 2) ∧ M0 E (d + 1) qX5_emit [vR (o6 + 6), vI x] τ (fun v τ10 => v = none ∧ M0 E (d + 1) qX4_advance [vR 77] τ10 (fun v τ11 => v = none ∧ Q (some (vB true)) τ11)) := fun hx k2 kk =>
    ⟨hh, H.1, (kdR h4).1, c_emit h4 hx (by have := tN_lt ha hr k2; omega) H (fun τ1 H1 F1 _ => ⟨rfl, c_advance h7 k2 H1 (fun τ2 H2 F2 _ => ⟨rfl, kk τ2 H2 (F1.tr F2)⟩)⟩)⟩
  -- behind numbers and facts
  have far : (tk r n a).1 ≠ 2 → (tk r n a).1 ≠ 3 → (∀ i, 22 ≤ i → i ≤ 26 → tWb r n a i = false) → V0 E (d + 1 + 1) qX4_readPart 112 [some (vR 77), none] [] τ Q := fun n2 n3 nf => by
    have efo := ft_o (r := r) (n := n) (a := a) nf
    rw [if_neg (by rw [tS_f n2]; decide), if_neg (by rw [tN_f n3]; decide)] at ne kT kF
    have pair : ∀ {x : Int}, inR x → (tWb r n a 27 = true ∨ tWb r n a 28 = true) → tWb r n a 6 = false → x = (if tWb r n a 27 = true then -13 else -14) → M0 E (d + 1) qX4_advance [vR 77] τ (fun v τ7 => v = none ∧ M0 E (d + 1) qX4_readPairOfSums [vR 77, vI x] τ7 (fun v τ8 => ∃ b9 : Bool, v = some (vB b9) ∧ Q (some (vB b9)) τ8)) := fun hx z z6 ex => by
      have t0 : a < tN r n a ∧ tN r n a ≤ n := by
        rcases z with z | z
        · exact tW_n ha hr z
        · exact tW_n ha hr z
      have k2 : 2 ≤ (tk r n a).1 := by
        rcases z with z | z
        · rw [(tW_k z).1]; omega
        · rw [(tW_k z).1]; omega
      rw [if_neg (by rw [efo, if_neg (by rw [z6]; decide)]; exact fun y => y rfl), if_pos z, av_ff] at ne kT kF
      rw [← ex] at ne kT kF
      exact c_advance h7 k2 H (fun τ1 H1 F1 _ => ⟨rfl, c_readPairOfSums h4 hn hr S hx (by omega) ho t0.2 (by omega) H1 ne (fun a' c c' e τ2 H2 F2 => ⟨_, rfl, kT a' c c' e τ2 H2 (F1.tr F2)⟩) (fun k p e τ2 R2 F2 => ⟨_, rfl, kF k p e τ2 R2 (F1.tr F2)⟩)⟩)
    refine bX4_readPart_112 (c_seesWord (i := 6) ha hr (by omega) rfl H ⟨_, rfl, fun y6 => c_seesWord (i := 27) ha hr (by omega) rfl H ⟨_, rfl, fun y27 => ?_, fun y27 => c_seesWord (i := 28) ha hr (by omega) rfl H ⟨_, rfl, fun y28 => ?_, fun y28 => ?_⟩⟩, fun y6 => ?_⟩)
    · refine c_seesWord (i := 27) ha hr (by omega) rfl H ⟨_, rfl, fun y => ?_, fun _ => ?_⟩
      · rw [y27] at y; cases y
      · exact pair ⟨by omega, by omega⟩ (Or.inl y27) y6 (by rw [if_pos y27])
    · refine c_fail (k := 1) h7 (by omega) H (fun τ1 R1 F1 => ⟨_, rfl, kF 1 _ ?_ τ1 R1 F1⟩)
      rw [if_neg (by rw [efo, if_neg (by rw [y6]; decide)]; exact fun y => y rfl), if_neg (by rw [y27, y28]; decide)]
    · refine c_seesWord (i := 27) ha hr (by omega) rfl H ⟨_, rfl, fun _ => ?_, fun y => ?_⟩
      · exact pair ⟨by omega, by omega⟩ (Or.inr y28) y6 (by rw [if_neg (by rw [y27]; decide)])
      · rw [y27] at y; cases y
    · have ef : ftP r n a = -6 := by rw [efo, if_pos y6]
      rw [if_pos (by rw [ef]; decide), av_ff, ef] at kT
      exact one ⟨by omega, by omega⟩ (by rw [(tW_k y6).1]; omega) (fun τ' t1 t2 => kT _ _ _ rfl τ' t1 t2)
  refine mX4_readPart ?_
  rw [g3]
  refine ⟨fun q2 => ?_, fun q2 => ?_⟩
  · have n2 : (tk r n a).1 ≠ 2 := fun z => q2 (cs.1.mpr z)
    refine ⟨fun q3 => ?_, fun q3 => ?_⟩
    · have n3 : (tk r n a).1 ≠ 3 := fun z => q3 (cs.2.1.mpr z)
      refine ⟨fun q4 => far n2 n3 (fun i i1 i2 => ?_), fun q4 => ?_⟩
      · rw [← Bool.not_eq_true]
        exact fun z => q4 (by rw [← g3]; exact ((H.wd (i := i) ha hr (by omega)).mpr z).1)
      · have wv : ∀ i : Nat, i < 29 → (τ 77 4 = (i : Int) ↔ tWb r n a i = true) := fun i hi => by
          rw [← H.wd (i := i) ha hr hi]
          exact ⟨fun z => ⟨by rw [g3]; exact q4, z⟩, fun z => z.2⟩
        refine ⟨fun q5 => far n2 n3 (fun i i1 i2 => ?_), fun q5 => ⟨fun q6 => far n2 n3 (fun i i1 i2 => ?_), fun q6 => ?_⟩⟩
        · rw [← Bool.not_eq_true]
          exact fun z => by have := (wv i (by omega)).mpr z; omega
        · rw [← Bool.not_eq_true]
          exact fun z => by have := (wv i (by omega)).mpr z; omega
        · obtain ⟨i, hi⟩ : ∃ i : Nat, τ 77 4 = (i : Int) := ⟨(τ 77 4).toNat, by omega⟩
          have yw := (wv i (by omega)).mp hi
          have ef := ft_w (r := r) (n := n) (a := a) (i := i) (by omega) yw
          rw [if_neg (by rw [tS_f n2]; decide), if_neg (by rw [tN_f n3]; decide), if_pos (by rw [ef]; omega), av_ff, ef] at kT
          rw [hi]
          exact one ⟨by omega, by omega⟩ (by rw [(tW_k yw).1]; omega) (fun τ' t1 t2 => kT _ _ _ rfl τ' t1 t2)
    · have n3 : (tk r n a).1 = 3 := cs.2.1.mp q3
      have ev : τ 77 4 = tV r n a := by rw [g4]; unfold cvl; rw [if_neg (by omega)]; rfl
      have vr := tr.2.2.2.2.2.1 n3
      rw [if_neg (by rw [tS_f n2]; decide), if_pos (show tNb r n a = true from decide_eq_true n3), av_ff] at kT
      rw [ev]
      exact one ⟨by unfold tV; omega, by unfold tV; omega⟩ (by omega) (fun τ' t1 t2 => kT _ _ _ rfl τ' t1 t2)
  · have n2 : (tk r n a).1 = 2 := cs.1.mp q2
    refine c_openBracket (d := d) h7 ha hr ⟨by omega, by omega⟩ ho H (fun z1 z2 τ1 H1 F1 => ⟨_, rfl, fun y => (by cases y), fun _ => ?_⟩) (fun z1 z2 τ1 R1 F1 => ⟨_, rfl, fun _ => ?_, fun y => (by cases y)⟩) (fun z1 τ1 R1 F1 => ⟨_, rfl, fun _ => ?_, fun y => (by cases y)⟩)
    · rw [if_pos z1, if_neg z2, av_ff] at ne kT kF
      have t1 := tS_n ha hr z1
      refine S (d + 1) _ (op + 1) code τ1 _ (by omega) (by omega) t1.2 (by omega) H1 (fun y => ne (by rw [y]; rfl)) (fun a3 c c' e3 τ2 H2 F2 => ⟨_, rfl, fun y => (by cases y), fun _ => ?_⟩) (fun k p e3 τ2 R2 F2 => ⟨_, rfl, fun _ => kF k p (by rw [e3, bd_l]) τ2 R2 (F1.tr F2), fun y => (by cases y)⟩)
      obtain ⟨x1, x2, x3, x4, x5⟩ := pz_ln hr f 2 _ _ a3 c c' (by omega) t1.2 e3
      rw [e3, bd_r] at ne kT kF
      refine c_closeBracket (d := d) h7 x1 hr ⟨by omega, by omega⟩ (by omega) H2 (fun z5 τ5 H5 F5 => ⟨_, rfl, fun y => (by cases y), fun _ => ?_⟩) (fun z5 τ5 R5 F5 => ⟨_, rfl, fun _ => kF 1 _ (by rw [if_neg (by rw [z5]; decide)]) τ5 R5 ((F1.tr F2).tr F5), fun y => (by cases y)⟩)
      rw [if_pos z5, av_ff] at kT
      exact kT _ _ _ rfl τ5 H5 ((F1.tr F2).tr F5)
    · exact kF 5 _ (by rw [if_pos z1, if_pos z2]) τ1 R1 F1
    · refine kF 1 _ ?_ τ1 R1 F1
      have n4 : (tk r n a).1 ≠ 4 := by omega
      rw [if_neg (by rw [z1]; decide), if_neg (by rw [tN_f (by omega)]; decide), if_neg (by rw [ft_o (fun i _ _ => tW_f n4), if_neg (by rw [tW_f n4]; decide)]; exact fun y => y rfl), if_neg (by rw [tW_f n4, tW_f n4]; decide)]
theorem c_takeComparison {d a op : Nat} {code : List Int} {τ : mm_Mem} {Q : mm_Q0} (h7 : hh + 7 < 72) (ha : a ≤ n) (hr : ∀ i, 0 ≤ r i ∧ r i ≤ 255) (H : RdC r n hh a op code τ) (kT : cmpP r n a ≠ 0 → ∀ τ', RdC r n hh (tN r n a) op code τ' → frR hh τ τ' → Q (some (vI (cmpP r n a))) τ') (kF : cmpP r n a = 0 → ∀ τ', RdF hh 1 (tPl r n a) τ' → frR hh τ τ' → Q (some (vI (-1))) τ') : M0 E (d + 1) qX4_takeComparison [vR 77] τ Q := by
  refine mX4_takeComparison (c_seesSign ha hr ⟨by omega, by omega⟩ H ⟨_, rfl, fun y1 => c_seesSign ha hr ⟨by omega, by omega⟩ H ⟨_, rfl, fun y2 => c_seesSign ha hr ⟨by omega, by omega⟩ H ⟨_, rfl, fun y3 => ?_, fun y3 => ?_⟩, fun y2 => ?_⟩, fun y1 => ?_⟩)
  · have e : cmpP r n a = 0 := by unfold cmpP; rw [if_neg (by rw [y1]; decide), if_neg (by rw [y2]; decide), if_neg (by rw [y3]; decide)]
    exact c_fail (k := 1) h7 (by omega) H (fun τ1 R1 F1 => ⟨_, rfl, kF e τ1 R1 F1⟩)
  · have e : cmpP r n a = -17 := by unfold cmpP; rw [if_neg (by rw [y1]; decide), if_neg (by rw [y2]; decide), if_pos y3]
    rw [e] at kT
    exact c_advance h7 (by rw [(tS_k y3).1]; omega) H (fun τ1 R1 F1 _ => ⟨rfl, kT (by decide) τ1 R1 F1⟩)
  · have e : cmpP r n a = -16 := by unfold cmpP; rw [if_neg (by rw [y1]; decide), if_pos y2]
    rw [e] at kT
    exact c_advance h7 (by rw [(tS_k y2).1]; omega) H (fun τ1 R1 F1 _ => ⟨rfl, kT (by decide) τ1 R1 F1⟩)
  · have e : cmpP r n a = -15 := by unfold cmpP; rw [if_pos y1]
    rw [e] at kT
    exact c_advance h7 (by rw [(tS_k y1).1]; omega) H (fun τ1 R1 F1 _ => ⟨rfl, kT (by decide) τ1 R1 F1⟩)
theorem cmp_r {a : Nat} : cmpP r n a = 0 ∨ cmpP r n a = -15 ∨ cmpP r n a = -16 ∨ cmpP r n a = -17 := by
  unfold cmpP
  by_cases q1 : tSb r n a 60 = true
  · rw [if_pos q1]; omega
  by_cases q2 : tSb r n a 62 = true
  · rw [if_neg q1, if_pos q2]; omega
  by_cases q3 : tSb r n a 61 = true
  · rw [if_neg q1, if_neg q2, if_pos q3]; omega
  rw [if_neg q1, if_neg q2, if_neg q3]; omega
/-- a fact, behind a row of not (q = 3: an even one, 10: an odd one) -/
def cFs (E : mm_Env) (r : Nat → Int) (n hh q f : Nat) : Prop := ∀ (d a op x : Nat) (code : List Int) (τ : mm_Mem) (Q : mm_Q0), 6 + 4 * (8 - op) ≤ d → op ≤ 8 → a ≤ n → x ≤ a → code.length + (if q = 10 then 1 else 0) ≤ a → RdC r n hh a op code τ → pz r n false f q a op ≠ .inl (0, 0) → (∀ a' c c', pz r n false f q a op = .inr (a', c, c') → ∀ τ', RdC r n hh a' op (code ++ c) τ' → frR hh τ τ' → Q (some (vB true)) τ') → (∀ k p, pz r n false f q a op = .inl (k, p) → ∀ τ', RdF hh k p τ' → frR hh τ τ' → Q (some (vB false)) τ') → V0 E d qX4_readFact 4 [some (vR 77), some (vI (if q = 3 then 0 else 1)), some (vI (x : Int)), none] [] τ Q
theorem c_factL {f q : Nat} (hq : q = 3 ∨ q = 10) (h4 : hh = 4 ∨ hh = 38) (hn : n ≤ 1600) (hr : ∀ i, 0 ≤ r i ∧ r i ≤ 255) (S : cPs E r n hh qX4_readSum 2 5 f) (T : cPs E r n hh qX4_readTest 5 8 f) (L : cFs E r n hh (13 - q) f) : cFs E r n hh q (f + 1) := by
  intro d a op x code τ Q hd ho ha hx hl H ne kT kF
  obtain ⟨d, rfl⟩ : ∃ d', d = d' + 1 := ⟨d - 1, by omega⟩
  obtain ⟨d, rfl⟩ : ∃ d', d = d' + 1 := ⟨d - 1, by omega⟩
  have h7 : hh + 7 < 72 := by omega
  rw [pz_3 hq] at ne kT kF
  have hz : inR (if q = 3 then (0 : Int) else 1) := by rcases hq with e | e <;> subst e <;> decide
  -- the end of a fact: one more step behind an odd row
  have fin : ∀ {c c' : List Int} {a' : Nat} {τ1 : mm_Mem}, (code ++ c).length + (if q = 10 then 1 else 0) ≤ a' → a' ≤ n → (∀ τ', RdC r n hh a' op (code ++ (c ++ (if q = 3 then [] else [-7]))) τ' → frR hh τ τ' → Q (some (vB true)) τ') → RdC r n hh a' op (code ++ c) τ1 → frR hh τ τ1 → inR (if q = 3 then (0 : Int) else 1) ∧ (((if q = 3 then (0 : Int) else 1) = 0 → Q (some (vB true)) τ1) ∧ (¬ (if q = 3 then (0 : Int) else 1) = 0 → ∃ o15 : Nat, (τ1 77 1) = (o15 : Int) ∧ KD o15 = some (.inr 2) ∧ M0 E (d + 1) qX5_emit [vR (o15 + 6), vI (-7)] τ1 (fun v τ18 => v = none ∧ Q (some (vB true)) τ18))) := fun {c c' a' τ1} l1 l2 kk H1 F1 => by
    refine ⟨hz, fun z => ?_, fun z => ⟨hh, H1.1, (kdR h4).1, ?_⟩⟩
    · have e3 : q = 3 := by
        by_cases y : q = 3
        · exact y
        · rw [if_neg y] at z; omega
      rw [if_pos e3, List.append_nil] at kk
      exact kk τ1 H1 F1
    · have e3 : ¬ q = 3 := fun y => z (by rw [if_pos y])
      rw [if_neg e3] at kk
      rw [if_pos (by omega)] at l1
      refine c_emit h4 ⟨by omega, by omega⟩ (by omega) H1 (fun τ2 H2 F2 _ => ⟨rfl, kk τ2 ?_ (F1.tr F2)⟩)
      rw [List.append_assoc] at H2; exact H2
  have bad : ∀ {k p : Nat} {τ1 : mm_Mem}, RdF hh k p τ1 → (∀ τ', RdF hh k p τ' → frR hh τ1 τ' → Q (some (vB false)) τ') → inR (if q = 3 then (0 : Int) else 1) ∧ (((if q = 3 then (0 : Int) else 1) = 0 → Q (some (vB false)) τ1) ∧ (¬ (if q = 3 then (0 : Int) else 1) = 0 → ∃ o15 : Nat, (τ1 77 1) = (o15 : Int) ∧ KD o15 = some (.inr 2) ∧ M0 E (d + 1) qX5_emit [vR (o15 + 6), vI (-7)] τ1 (fun v τ18 => v = none ∧ Q (some (vB false)) τ18))) := fun R kk =>
    ⟨hz, fun _ => kk _ R frR.rf, fun _ => ⟨hh, R.2.2.1, (kdR h4).1, c_emitF h4 ⟨by omega, by omega⟩ R (fun τ2 R2 F2 => ⟨rfl, kk τ2 R2 F2⟩)⟩⟩
  have g40 : tWb r n a 20 = false → V0 E (d + 1 + 1) qX4_readFact 40 [some (vR 77), some (vI (if q = 3 then 0 else 1)), none, none] [] τ Q := fun z0 => by
    rw [if_neg (by rw [z0]; decide)] at ne kT kF
    refine bX4_readFact_40 (c_seesSign ha hr ⟨by omega, by omega⟩ H ⟨_, rfl, fun z1 => c_seesWord (i := 21) ha hr (by omega) rfl H ⟨_, rfl, fun z2 => ?_, fun z2 => ?_⟩, fun z1 => ?_⟩)
    · rw [if_neg (by rw [z1]; decide), if_neg (by rw [z2]; decide)] at ne kT kF
      refine S (d + 1) a op code τ _ (by omega) ho ha (by omega) H (fun y => ne (by rw [y]; rfl)) (fun a1 c c' e1 τ1 H1 F1 => ⟨_, rfl, fun y => (by cases y), fun _ => ?_⟩) (fun k p e1 τ1 R1 F1 => ⟨_, rfl, fun _ => ?_, fun y => (by cases y)⟩)
      · obtain ⟨x1, x2, x3, x4, x5⟩ := pz_ln hr f 2 _ _ a1 c c' (by omega) ha e1
        rw [if_neg (by omega)] at x4
        rw [e1, bd_r] at ne kT kF
        refine c_takeComparison (d := d) h7 x1 hr H1 (fun z3 τ2 H2 F2 => ⟨_, rfl, ?_⟩) (fun z3 τ2 R2 F2 => ⟨_, rfl, ?_⟩)
        · have cr := cmp_r (r := r) (n := n) (a := a1)
          have t1 := cmp_n x1 hr z3
          rw [if_pos z3, av_ff] at ne kT kF
          refine bX4_readFact_129 ⟨⟨by omega, by omega⟩, fun y => by omega, fun _ => S (d + 1) _ op (code ++ c) τ2 _ (by omega) ho t1.2 (by rw [List.length_append]; omega) H2 (fun y => ne (by rw [y]; rfl)) (fun a3 k k' e3 τ3 H3 F3 => ⟨_, rfl, fun y => (by cases y), fun _ => ⟨hh, H3.1, (kdR h4).1, ?_⟩⟩) (fun k p e3 τ3 R3 F3 => ⟨_, rfl, fun _ => ⟨hh, R3.2.2.1, (kdR h4).1, ?_⟩, fun y => (by cases y)⟩)⟩
          · obtain ⟨y1, y2, y3, y4, y5⟩ := pz_ln hr f 2 _ _ a3 k k' (by omega) t1.2 e3
            rw [if_neg (by omega)] at y4
            rw [e3, bd_r] at kT
            have ll : (code ++ (c ++ k ++ [cmpP r n a1])).length + (if q = 10 then 1 else 0) ≤ a3 := by
              rw [List.length_append, List.length_append, List.length_append]
              show code.length + (c.length + k.length + 1) + _ ≤ a3
              omega
            refine c_emit h4 ⟨by omega, by omega⟩ (by rw [List.length_append, List.length_append]; omega) H3 (fun τ4 H4 F4 _ => ⟨rfl, fin (c := c ++ k ++ [cmpP r n a1]) (c' := []) ll y1 (fun τ' t1 t2 => kT _ _ _ rfl τ' ?_ t2) ?_ (((F1.tr F2).tr F3).tr F4)⟩)
            · rw [List.append_assoc (c ++ k)] at t1; exact t1
            · rw [← List.append_assoc, ← List.append_assoc]; exact H4
          · rw [e3, bd_l] at kF
            exact c_emitF h4 ⟨by omega, by omega⟩ R3 (fun τ4 R4 F4 => ⟨rfl, bad R4 (fun τ5 R5 F5 => kF k p rfl τ5 R5 ((((F1.tr F2).tr F3).tr F4).tr F5))⟩)
        · rw [if_neg (fun y => y z3)] at kF
          refine bX4_readFact_129 ⟨⟨by omega, by omega⟩, fun _ => ⟨hh, R2.2.2.1, (kdR h4).1, c_emitF h4 ⟨by omega, by omega⟩ R2 (fun τ4 R4 F4 => ⟨rfl, bad R4 (fun τ5 R5 F5 => kF 1 _ rfl τ5 R5 (((F1.tr F2).tr F4).tr F5))⟩)⟩, fun y => absurd rfl y⟩
      · rw [e1, bd_l] at kF
        refine bX4_readFact_129 ⟨⟨by omega, by omega⟩, fun _ => ⟨hh, R1.2.2.1, (kdR h4).1, c_emitF h4 ⟨by omega, by omega⟩ R1 (fun τ4 R4 F4 => ⟨rfl, bad R4 (fun τ5 R5 F5 => kF k p rfl τ5 R5 ((F1.tr F4).tr F5))⟩)⟩, fun y => absurd rfl y⟩
    · rw [if_neg (by rw [z1]; decide), if_pos z2, av_ff] at kT
      have t1 := tW_n ha hr z2
      refine c_advance h7 (by rw [(tW_k z2).1]; omega) H (fun τ1 H1 F1 _ => ⟨rfl, hh, H1.1, (kdR h4).1, c_emit h4 ⟨by omega, by omega⟩ (by omega) H1 (fun τ2 H2 F2 _ => ⟨rfl, fin (c := [1]) (c' := []) ?_ t1.2 (fun τ' t2 t3 => kT _ _ _ rfl τ' t2 t3) H2 (F1.tr F2)⟩)⟩)
      rw [List.length_append]; show code.length + 1 + _ ≤ _; omega
    · rw [if_pos z1] at ne kT kF
      refine c_openBracket (d := d) h7 ha hr ⟨by omega, by omega⟩ ho H (fun z3 z4 τ1 H1 F1 => ⟨_, rfl, fun y => (by cases y), fun _ => ?_⟩) (fun z3 z4 τ1 R1 F1 => ⟨_, rfl, fun _ => bad R1 (fun τ2 R2 F2 => kF 5 _ (by rw [if_pos z4]) τ2 R2 (F1.tr F2)), fun y => (by cases y)⟩) (fun z3 τ1 R1 F1 => by rw [z1] at z3; cases z3)
      rw [if_neg z4, av_ff] at ne kT kF
      have t1 := tS_n ha hr z1
      refine T (d + 1) _ (op + 1) code τ1 _ (by omega) (by omega) t1.2 (by omega) H1 (fun y => ne (by rw [y]; rfl)) (fun a2 c c' e2 τ2 H2 F2 => ⟨_, rfl, fun y => (by cases y), fun _ => ?_⟩) (fun k p e2 τ2 R2 F2 => ⟨_, rfl, fun _ => bad R2 (fun τ3 R3 F3 => kF k p (by rw [e2, bd_l]) τ3 R3 ((F1.tr F2).tr F3)), fun y => (by cases y)⟩)
      obtain ⟨x1, x2, x3, x4, x5⟩ := pz_ln hr f 5 _ _ a2 c c' (by omega) t1.2 e2
      rw [if_neg (by omega)] at x4
      rw [e2, bd_r] at kT kF
      refine c_closeBracket (d := d) h7 x1 hr ⟨by omega, by omega⟩ (by omega) H2 (fun z5 τ3 H3 F3 => ⟨_, rfl, fun y => (by cases y), fun _ => ?_⟩) (fun z5 τ3 R3 F3 => ⟨_, rfl, fun _ => bad R3 (fun τ4 R4 F4 => kF 1 _ (by rw [if_neg (by rw [z5]; decide)]) τ4 R4 (((F1.tr F2).tr F3).tr F4)), fun y => (by cases y)⟩)
      have t5 := tS_n x1 hr z5
      rw [if_pos z5, av_ff] at kT
      exact fin (c' := []) (by rw [List.length_append]; omega) t5.2 (fun τ' t2 t3 => kT _ _ _ rfl τ' t2 t3) H3 ((F1.tr F2).tr F3)
  refine bX4_readFact_4 ⟨⟨by omega, by omega⟩, fun y => g40 ?_, fun _ => c_seesWord (i := 20) ha hr (by omega) rfl H ⟨_, rfl, fun y => g40 y, fun y => ?_⟩⟩
  · rw [← Bool.not_eq_true]
    intro z
    have := tW_n ha hr z
    omega
  · have t1 := tW_n ha hr y
    rw [if_pos y, av_ff] at ne kT kF
    refine c_advance h7 (by rw [(tW_k y).1]; omega) H (fun τ1 H1 F1 _ => ⟨rfl, hz, ?_⟩)
    have l := L (d + 1 + 1) (tN r n a) op (x + 1) code τ1 Q hd ho t1.2 (by omega) (by rcases hq with e | e <;> subst e <;> (first | (rw [if_pos rfl]; omega) | (rw [if_neg (by omega)]; omega))) H1 (fun z => ne (by rw [z]; rfl)) (fun a' c c' e τ' t2 t3 => kT a' c (c' ++ [-7]) (by rw [e, bd_r]) τ' t2 (F1.tr t3)) (fun k p e τ' t2 t3 => kF k p (by rw [e, bd_l]) τ' t2 (F1.tr t3))
    rw [show ((x + 1 : Nat) : Int) = (x : Int) + 1 by omega] at l
    rcases hq with e | e <;> subst e
    · exact ⟨fun z => absurd rfl z, fun _ => l⟩
    · exact ⟨fun _ => l, fun z => absurd z (by decide)⟩
theorem c_readFact {f : Nat} (L : cFs E r n hh 3 f) : cPs E r n hh qX4_readFact 3 6 f := by
  intro d a op code τ Q hd ho ha hl H ne kT kF
  obtain ⟨d, rfl⟩ : ∃ d', d = d' + 1 := ⟨d - 1, by omega⟩
  exact mX4_readFact (L (d + 1) a op 0 code τ Q hd ho ha (by omega) hl H ne kT kF)
/-- everything at once, by fuel -/
theorem c_exp (h4 : hh = 4 ∨ hh = 38) (hn : n ≤ 1600) (hr : ∀ i, 0 ≤ r i ∧ r i ≤ 255) : ∀ f, cPs E r n hh qX4_readPart 0 3 f ∧ cPs E r n hh qX4_readProduct 1 4 f ∧ cPs E r n hh qX4_readSum 2 5 f ∧ cFs E r n hh 3 f ∧ cFs E r n hh 10 f ∧ cPs E r n hh qX4_readBoth 4 7 f ∧ cPs E r n hh qX4_readTest 5 8 f ∧ cLs E r n hh qX4_readProduct [none] 6 4 f ∧ cLs E r n hh qX4_readSum [none] 7 5 f ∧ cLs E r n hh qX4_readBoth [] 8 7 f ∧ cLs E r n hh qX4_readTest [] 9 8 f
  | 0 => by
    refine ⟨?_, ?_, ?_, ?_, ?_, ?_, ?_, ?_, ?_, ?_, ?_⟩
    · exact fun d a op code τ Q hd ho ha hl H ne => absurd rfl ne
    · exact fun d a op code τ Q hd ho ha hl H ne => absurd rfl ne
    · exact fun d a op code τ Q hd ho ha hl H ne => absurd rfl ne
    · exact fun d a op x code τ Q hd ho ha hx hl H ne => absurd rfl ne
    · exact fun d a op x code τ Q hd ho ha hx hl H ne => absurd rfl ne
    · exact fun d a op code τ Q hd ho ha hl H ne => absurd rfl ne
    · exact fun d a op code τ Q hd ho ha hl H ne => absurd rfl ne
    · exact fun d a op x code τ Q hd ho ha hx hl H ne => absurd rfl ne
    · exact fun d a op x code τ Q hd ho ha hx hl H ne => absurd rfl ne
    · exact fun d a op x code τ Q hd ho ha hx hl H ne => absurd rfl ne
    · exact fun d a op x code τ Q hd ho ha hx hl H ne => absurd rfl ne
  | f + 1 => by
    obtain ⟨h0, h1, h2, h3, h10, h4', h5, h6, h7, h8, h9⟩ := c_exp h4 hn hr f
    exact ⟨c_readPart h4 hn hr h2, c_readProduct hn hr h0 h6, c_readSum hn hr h1 h7, c_factL (Or.inl rfl) h4 hn hr h2 h5 h10, c_factL (Or.inr rfl) h4 hn hr h2 h5 h3, c_readBoth hn hr (c_readFact h3) h8, c_readTest hn hr h4' h9, c_readProductL h4 hn hr h0 h6, c_readSumL h4 hn hr h1 h7, c_readBothL h4 hn hr (c_readFact h3) h8, c_readTestL h4 hn hr h4' h9⟩
end CExp2
