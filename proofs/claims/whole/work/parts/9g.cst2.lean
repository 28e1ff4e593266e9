/-! the class reads statements: rule, door, person, the head, all -/
section CSt2
variable {E : mm_Env} {d : Nat} {τ : mm_Mem} {Q : mm_Q0} {r : Nat → Int} {n hh : Nat} {a : Nat} {β : mm_Mem} {cd cd' : List Int}
theorem c_slot {o kd j : Nat} (k1 : KD o = some (.inr 5)) (hk : kd < 3) (ej : τ (o + 2) kd = (j : Int)) (hj : j < 6) (k2 : Q (some (vI ((6 * kd + j : Nat) : Int))) τ) : M0 E (d + 1) qX5_slot [vR o, vI (kd : Int)] τ Q := by
  refine mX5_slot k1 ⟨by omega, by omega, ?_⟩
  rw [Int.toNat_natCast, ej]
  refine c_min ⟨by omega, by omega⟩ ⟨by omega, by omega⟩ ⟨_, rfl, ?_⟩
  rw [show min (j : Int) 5 = (j : Int) by omega, show (kd : Int) * 6 + (j : Int) = ((6 * kd + j : Nat) : Int) by omega]
  exact k2
theorem cu_fuel {b q : Nat} (hn : n ≤ 1600) (hq : q ≤ 5) : 12 * (n - b) + guP q + 1 ≤ 20000 := by unfold guP; rw [if_pos hq]; omega
theorem c_readRule {kd : Nat} {x : Int} (h4 : hh = 4 ∨ hh = 38) (hn : n ≤ 1600) (hr : ∀ i, 0 ≤ r i ∧ r i ≤ 255) (S : SIn n a β cd cd') (hk : kd < 3) (hx : x = (kd : Int)) (k2 : 2 ≤ (tk r n a).1) (B : HbC hh β τ) (H : RdC r n hh a 0 cd τ) (kT : ∀ a1 β1 c1 c1', ruP r n kd a β cd cd' = .inr (a1, β1, c1, c1') → ∀ τ', RdC r n hh a1 0 c1 τ' → HbC hh β1 τ' → frS hh τ τ' → Q (some (vB true)) τ') (kF : ∀ k p, ruP r n kd a β cd cd' = .inl (k, p) → ∀ τ', RdF hh k p τ' → frS hh τ τ' → Q (some (vB false)) τ') : M0 E (d + 41) qX4_readRule [vR 77, vI x] τ Q := by
  subst hx
  obtain ⟨ha, hc, hc', sh, sn, -⟩ := id S
  have s := sh.1
  obtain ⟨-, ⟨b2, b3, b4, b5, b6, b7⟩, -⟩ := id sh
  have h7 : hh + 7 < 72 := by omega
  have t0 := tN_lt ha hr k2
  have bj : 0 ≤ β 0 (8 + kd) := by
    have : kd = 0 ∨ kd = 1 ∨ kd = 2 := by omega
    rcases this with h | h | h <;> subst h
    · exact b2
    · exact b4
    · exact b6
  obtain ⟨j, ej⟩ : ∃ j : Nat, β 0 (8 + kd) = (j : Int) := ⟨(β 0 (8 + kd)).toNat, by omega⟩
  have e8 : τ (hh + 6 + 2) kd = (j : Int) := (B.1.2.2.2 kd hk).trans ej
  unfold ruP at kT kF
  rw [ej] at kT kF
  refine mX4_readRule (d := d + 40) ⟨hh, H.1, (kdR h4).1, c_howMany (kdR h4).2 (by omega) (by omega) ⟨_, rfl, ?_⟩⟩
  rw [Int.toNat_natCast, e8]
  have room : ∀ v : Int, v = ruM kd → M0 E (d + 40) qX5_roomFor [vI (kd : Int)] τ (fun v τ6 => ∃ r7 : Int, v = some (vI r7) ∧ r7 = ruM kd ∧ τ6 = τ) := fun v hv => by
    refine mX5_roomFor ⟨⟨by omega, by omega⟩, fun q => ⟨_, rfl, ?_, rfl⟩, fun q => ⟨_, rfl, ?_, rfl⟩⟩
    · unfold ruM; rw [if_neg (by omega)]
    · unfold ruM; rw [if_pos (by omega)]
  have mR : ruM kd = 4 ∨ ruM kd = 6 := by unfold ruM; split <;> omega
  have go : ∀ r7 : Int, r7 = ruM kd → inR (j : Int) ∧ inR r7 ∧ (((j : Int) < r7 → M0 E (d + 40) qX4_advance [vR 77] τ (fun v τ10 => v = none ∧ ∃ o11 : Nat, (τ10 77 1) = (o11 : Int) ∧ KD o11 = some (.inr 2) ∧ M0 E (d + 40) qX5_beginSum [vR (o11 + 6), vI (kd : Int)] τ10 (fun v τ14 => v = none ∧ M0 E (d + 40) qX4_readSum [vR 77] τ14 (fun v τ15 => ∃ b16 : Bool, v = some (vB b16) ∧ ((b16 = false → Q (some (vB false)) τ15) ∧ (b16 = true → M0 E (d + 40) qX4_readWord [vR 77, vI 17] τ15 (fun v τ17 => ∃ b18 : Bool, v = some (vB b18) ∧ ((b18 = true → ∃ o19 : Nat, (τ17 77 1) = (o19 : Int) ∧ KD o19 = some (.inr 2) ∧ M0 E (d + 40) qX5_beginTest [vR (o19 + 6), vI (kd : Int)] τ17 (fun v τ22 => v = none ∧ M0 E (d + 40) qX4_readTest [vR 77] τ22 (fun v τ23 => ∃ b24 : Bool, v = some (vB b24) ∧ ((b24 = true → ∃ o25 : Nat, (τ23 77 1) = (o25 : Int) ∧ KD o25 = some (.inr 2) ∧ M0 E (d + 40) qX5_finish [vR (o25 + 6), vI (kd : Int)] τ23 (fun v τ28 => v = none ∧ Q (some (vB true)) τ28)) ∧ (b24 = false → Q (some (vB false)) τ23))))) ∧ (b18 = false → Q (some (vB false)) τ17))))))))) ∧ (¬ (j : Int) < r7 → M0 E (d + 40) qX4_fail [vR 77, vI 5] τ (fun v τ29 => ∃ b30 : Bool, v = some (vB b30) ∧ Q (some (vB b30)) τ29))) := fun r7 e7 => by
    have j6 : (j : Int) ≤ 6 := by
      have : kd = 0 ∨ kd = 1 ∨ kd = 2 := by omega
      rcases this with h | h | h <;> subst h
      · have ej : β 0 8 = (j : Int) := ej; omega
      · have ej : β 0 9 = (j : Int) := ej; omega
      · have ej : β 0 10 = (j : Int) := ej; omega
    refine ⟨⟨by omega, by omega⟩, ⟨by omega, by omega⟩, fun q => ?_, fun q => c_fail (k := 5) h7 (by omega) H (fun τ' u1 u2 => ⟨_, rfl, kF 5 _ (by rw [if_pos (by omega)]) τ' u1 u2.s⟩)⟩
    rw [if_neg (by omega)] at kT kF
    have hj : j < 6 := by omega
    refine c_advance h7 k2 H (fun τ1 H1 F1 _ => ⟨rfl, hh, H1.1, (kdR h4).1, ?_⟩)
    have e81 : τ1 (hh + 6 + 2) kd = (j : Int) := by rw [F1.1 _ (by omega) (by omega) (by omega)]; exact e8
    refine mX5_beginSum (d := d + 39) (kdR h4).2 (c_slot (d := d + 38) (kdR h4).2 hk e81 hj ⟨_, rfl, by omega, by omega, rfl, ?_⟩)
    rw [Int.toNat_natCast]
    have c1 : τ1 (hh + 6) 1 = (cd.length : Int) := H1.2.2.2.2.2.1
    rw [c1]
    have F1s : frS hh τ (wr τ1 (hh + 6 + 3) (6 * kd + j) (cd.length : Int)) := F1.s.w h4 (by omega)
    have H1' : RdC r n hh (tN r n a) 0 cd (wr τ1 (hh + 6 + 3) (6 * kd + j) (cd.length : Int)) := H1.ow h4 (by omega) (by omega)
    obtain ⟨-, -, pS, -, -, -, pT, -⟩ := c_exp (E := E) (r := r) (n := n) (hh := hh) h4 hn hr 20000
    have nS : pz r n false 20000 2 (tN r n a) 0 ≠ .inl (0, 0) := pz_ne hr (by omega) t0.2 (cu_fuel hn (by omega))
    refine pS (d + 40) (tN r n a) 0 cd _ _ (by omega) (by omega) t0.2 (by omega) H1' nS (fun a2 c c' e1 τ2 H2 F2 => ⟨true, rfl, fun q => ff_tt q, fun _ => ?_⟩) (fun k p e1 τ2 R2 F2 => ⟨false, rfl, fun _ => kF k p (by rw [e1, bq_l]) τ2 R2 (F1s.tr F2.s), fun q => tt_ff q⟩)
    rw [e1, bq_r] at kT kF
    obtain ⟨x1, x2, x3, x4, x5⟩ := pz_ln hr _ 2 _ _ a2 c c' (by omega) t0.2 e1
    rw [if_neg (by omega)] at x4
    refine c_readWord (d := d + 39) h7 x1 hr (i := 17) (by omega) rfl H2 (fun z τ3 H3 F3 _ => ⟨true, rfl, fun _ => ⟨hh, H3.1, (kdR h4).1, ?_⟩, fun q => ff_tt q⟩) (fun z τ3 R3 F3 => ⟨false, rfl, fun q => tt_ff q, fun _ => kF 1 _ (by rw [wd_f z]) τ3 R3 (F1s.tr (F2.tr F3).s)⟩)
    rw [wd_t z] at kT kF
    have t3 := tW_n x1 hr z
    have F23 := F2.tr F3
    have e82 : τ3 (hh + 6 + 2) kd = (j : Int) := by rw [F23.1 _ (by omega) (by omega) (by omega), wr_obj (by omega)]; exact e81
    refine mX5_beginTest (d := d + 39) (kdR h4).2 (c_slot (d := d + 38) (kdR h4).2 hk e82 hj ⟨_, rfl, by omega, by omega, rfl, ?_⟩)
    rw [Int.toNat_natCast]
    have c3 : τ3 (hh + 6) 1 = ((cd ++ c).length : Int) := H3.2.2.2.2.2.1
    rw [c3]
    have F3s : frS hh τ (wr τ3 (hh + 6 + 4) (6 * kd + j) ((cd ++ c).length : Int)) := (F1s.tr F23.s).w h4 (by omega)
    have H3' : RdC r n hh (tN r n a2) 0 (cd ++ c) (wr τ3 (hh + 6 + 4) (6 * kd + j) ((cd ++ c).length : Int)) := H3.ow h4 (by omega) (by omega)
    have nT : pz r n false 20000 5 (tN r n a2) 0 ≠ .inl (0, 0) := pz_ne hr (by omega) t3.2 (cu_fuel hn (by omega))
    refine pT (d + 40) (tN r n a2) 0 (cd ++ c) _ _ (by omega) (by omega) t3.2 (by rw [List.length_append]; omega) H3' nT (fun a4 u u' e2 τ4 H4 F4 => ⟨true, rfl, fun _ => ⟨hh, H4.1, (kdR h4).1, ?_⟩, fun q => ff_tt q⟩) (fun k p e2 τ4 R4 F4 => ⟨false, rfl, fun q => tt_ff q, fun _ => kF k p (by rw [e2, bq_l]) τ4 R4 (F3s.tr F4.s)⟩)
    rw [e2, bq_r] at kT
    have e84 : τ4 (hh + 6 + 2) kd = (j : Int) := by rw [F4.1 _ (by omega) (by omega) (by omega), wr_obj (by omega)]; exact e82
    refine mX5_finish (d := d + 39) (kdR h4).2 (c_slot (d := d + 38) (kdR h4).2 hk e84 hj ⟨_, rfl, by omega, by omega, by omega, by omega, by omega, by omega, ?_⟩)
    rw [Int.toNat_natCast, Int.toNat_natCast]
    have c4 : τ4 (hh + 6) 1 = ((cd ++ c ++ u).length : Int) := H4.2.2.2.2.2.1
    rw [c4, wr_obj (show hh + 6 + 2 ≠ hh + 6 + 5 by omega), e84]
    refine ⟨⟨by omega, by omega⟩, rfl, kT _ _ _ _ rfl _ ((H4.ow h4 (by omega) (by omega)).ow h4 (by omega) (by omega)) ?_ (((F3s.tr F4.s).w h4 (by omega)).w h4 (by omega))⟩
    refine ru_fin B sh hk ej hj (fun o a1 a2 a3 a4 a5 a6 a7 a8 => ?_) (fun i hi => ⟨?_, ?_, ?_⟩) (fun i hi => ?_) wr_same ?_ ?_ ?_
    · rw [wr_obj (by omega), wr_obj (by omega), F4.1 o (by omega) a3 a4, wr_obj (by omega), F23.1 o (by omega) a3 a4, wr_obj (by omega), F1.1 o (by omega) a3 a4]
    · rw [wr_obj (by omega), wr_obj (by omega), F4.1 _ (by omega) (by omega) (by omega), wr_obj (by omega), F23.1 _ (by omega) (by omega) (by omega)]
      show wr τ1 (hh + 9) _ _ (hh + 9) i = _
      rw [wr_row hi, F1.1 _ (by omega) (by omega) (by omega)]
    · rw [wr_obj (by omega), wr_obj (by omega), F4.1 _ (by omega) (by omega) (by omega)]
      show wr τ3 (hh + 10) _ _ (hh + 10) i = _
      rw [wr_row hi, F23.1 _ (by omega) (by omega) (by omega), wr_obj (by omega), F1.1 _ (by omega) (by omega) (by omega)]
    · rw [wr_obj (by omega)]
      show wr τ4 (hh + 11) _ _ (hh + 11) i = _
      rw [wr_row hi, F4.1 _ (by omega) (by omega) (by omega), wr_obj (by omega), F23.1 _ (by omega) (by omega) (by omega), wr_obj (by omega), F1.1 _ (by omega) (by omega) (by omega)]
    · show wr _ (hh + 8) _ _ (hh + 8) i = _
      rw [wr_row hi, wr_obj (by omega), F4.1 _ (by omega) (by omega) (by omega), wr_obj (by omega), F23.1 _ (by omega) (by omega) (by omega), wr_obj (by omega), F1.1 _ (by omega) (by omega) (by omega)]
    · rw [wr_obj (by omega), wr_obj (by omega), F4.1 _ (by omega) (by omega) (by omega), wr_obj (by omega), F23.1 _ (by omega) (by omega) (by omega)]
      exact wr_same
    · rw [wr_obj (by omega), wr_obj (by omega), F4.1 _ (by omega) (by omega) (by omega)]
      exact wr_same
    · rw [wr_obj (by omega)]
      exact wr_same
  refine mX5_roomFor ⟨⟨by omega, by omega⟩, fun q => ⟨_, rfl, go 6 (by unfold ruM; rw [if_neg (by omega)])⟩, fun q => ⟨_, rfl, go 4 (by unfold ruM; rw [if_pos (by omega)])⟩⟩
end CSt2
