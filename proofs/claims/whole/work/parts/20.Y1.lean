set_option maxRecDepth 20000 in
theorem bX11_nameOf_0 {E : mm_Env} {d : Nat} {τ : mm_Mem} {Q : mm_Q0} {a0 : Int} {a1 : Int} {a2 : Int} (h : inR a1 ∧ ((a1 ≠ 0 → ((a1 ≠ 1 → 0 ≤ ((4 * a0) + a2) ∧ ((4 * a0) + a2) < 8 ∧ Q (some (vL (τ 158 ((4 * a0) + a2).toNat))) τ) ∧ (a1 = 1 → 0 ≤ ((4 * a0) + a2) ∧ ((4 * a0) + a2) < 8 ∧ Q (some (vL (τ 153 ((4 * a0) + a2).toNat))) τ))) ∧ (a1 = 0 → 0 ≤ ((3 * a0) + a2) ∧ ((3 * a0) + a2) < 6 ∧ Q (some (vL (τ 145 ((3 * a0) + a2).toNat))) τ))) : V0 E d qX11_nameOf 0 [some (vR 140), some (vI a0), some (vI a1), some (vI a2)] [] τ Q := by
  refine u_iload_n (i := 2) (pc' := 1) dX11_nameOf_0 rfl rfl rfl ?_
  obtain ⟨c1, h⟩ := h
  refine u_if_ne (tgt := 17) (pc' := 4) dX11_nameOf_1 rfl (by decide) c1 (fun hb => ?_) (fun hb => ?_)
  · have h := h.1 hb
    refine u_iload_n (i := 2) (pc' := 18) dX11_nameOf_17 rfl rfl rfl ?_
    refine u_iconst (pc' := 19) dX11_nameOf_18 rfl ?_
    refine u_icmp_ne (tgt := 35) (pc' := 22) dX11_nameOf_19 rfl (by decide) c1 ⟨by decide, by decide⟩ (fun hb => ?_) (fun hb => ?_)
    · have h := h.1 hb
      refine u_aload_n (i := 0) (pc' := 36) dX11_nameOf_35 rfl rfl rfl ?_
      refine u_getR (a := 158) (pc' := 39) dX11_nameOf_36 rfl fl_TuneDoorModel_100 rfl (by decide) kd_140 rfl ?_
      refine u_iconst (pc' := 40) dX11_nameOf_39 rfl ?_
      refine u_iload_n (i := 1) (pc' := 41) dX11_nameOf_40 rfl rfl rfl ?_
      refine u_imul (pc' := 42) dX11_nameOf_41 rfl ?_
      refine u_iload_n (i := 3) (pc' := 43) dX11_nameOf_42 rfl rfl rfl ?_
      refine u_iadd (pc' := 44) dX11_nameOf_43 rfl ?_
      obtain ⟨c2, c3, h⟩ := h
      refine u_laload (k := ((4 * a0) + a2).toNat) (z := (τ 158 ((4 * a0) + a2).toNat)) (pc' := 45) dX11_nameOf_44 rfl (by decide) kd_158 c2 c3 (by decide) rfl (mm_R0_La kd_158) rfl ?_
      exact u_lret dX11_nameOf_45 rfl h
    · have h := h.2 hb
      refine u_aload_n (i := 0) (pc' := 23) dX11_nameOf_22 rfl rfl rfl ?_
      refine u_getR (a := 153) (pc' := 26) dX11_nameOf_23 rfl fl_TuneDoorModel_85 rfl (by decide) kd_140 rfl ?_
      refine u_iconst (pc' := 27) dX11_nameOf_26 rfl ?_
      refine u_iload_n (i := 1) (pc' := 28) dX11_nameOf_27 rfl rfl rfl ?_
      refine u_imul (pc' := 29) dX11_nameOf_28 rfl ?_
      refine u_iload_n (i := 3) (pc' := 30) dX11_nameOf_29 rfl rfl rfl ?_
      refine u_iadd (pc' := 31) dX11_nameOf_30 rfl ?_
      obtain ⟨c4, c5, h⟩ := h
      refine u_laload (k := ((4 * a0) + a2).toNat) (z := (τ 153 ((4 * a0) + a2).toNat)) (pc' := 32) dX11_nameOf_31 rfl (by decide) kd_153 c4 c5 (by decide) rfl (mm_R0_La kd_153) rfl ?_
      refine u_goto (tgt := 45) dX11_nameOf_32 (by decide) ?_
      exact u_lret dX11_nameOf_45 rfl h
  · have h := h.2 hb
    refine u_aload_n (i := 0) (pc' := 5) dX11_nameOf_4 rfl rfl rfl ?_
    refine u_getR (a := 145) (pc' := 8) dX11_nameOf_5 rfl fl_TuneDoorModel_60 rfl (by decide) kd_140 rfl ?_
    refine u_iconst (pc' := 9) dX11_nameOf_8 rfl ?_
    refine u_iload_n (i := 1) (pc' := 10) dX11_nameOf_9 rfl rfl rfl ?_
    refine u_imul (pc' := 11) dX11_nameOf_10 rfl ?_
    refine u_iload_n (i := 3) (pc' := 12) dX11_nameOf_11 rfl rfl rfl ?_
    refine u_iadd (pc' := 13) dX11_nameOf_12 rfl ?_
    obtain ⟨c6, c7, h⟩ := h
    refine u_laload (k := ((3 * a0) + a2).toNat) (z := (τ 145 ((3 * a0) + a2).toNat)) (pc' := 14) dX11_nameOf_13 rfl (by decide) kd_145 c6 c7 (by decide) rfl (mm_R0_La kd_145) rfl ?_
    refine u_goto (tgt := 45) dX11_nameOf_14 (by decide) ?_
    exact u_lret dX11_nameOf_45 rfl h
theorem mX11_nameOf {E : mm_Env} {d : Nat} {τ : mm_Mem} {Q : mm_Q0} {a0 : Int} {a1 : Int} {a2 : Int} (h : inR a1 ∧ ((a1 ≠ 0 → ((a1 ≠ 1 → 0 ≤ ((4 * a0) + a2) ∧ ((4 * a0) + a2) < 8 ∧ Q (some (vL (τ 158 ((4 * a0) + a2).toNat))) τ) ∧ (a1 = 1 → 0 ≤ ((4 * a0) + a2) ∧ ((4 * a0) + a2) < 8 ∧ Q (some (vL (τ 153 ((4 * a0) + a2).toNat))) τ))) ∧ (a1 = 0 → 0 ≤ ((3 * a0) + a2) ∧ ((3 * a0) + a2) < 6 ∧ Q (some (vL (τ 145 ((3 * a0) + a2).toNat))) τ))) : M0 E d qX11_nameOf [vR 140, vI a0, vI a1, vI a2] τ Q := M0_of rfl (Nat.le_of_ble_eq_true rfl) [some (vR 140), some (vI a0), some (vI a1), some (vI a2)] rfl (bX11_nameOf_0  h)
set_option maxRecDepth 20000 in
theorem bX11_rule_0 {E : mm_Env} {d : Nat} {τ : mm_Mem} {Q : mm_Q0} {a0 : Int} (h : 0 ≤ ((3 * (τ 140 39)) + a0) ∧ ((3 * (τ 140 39)) + a0) < 6 ∧ inR a0 ∧ ((a0 ≠ 2 → (((τ 148 ((3 * (τ 140 39)) + a0).toNat) ≠ 6 → V0 E (d + 1) qX11_rule 33 [some (vR 140), some (vI a0), none] [vI 0, vR 140] τ Q) ∧ ((τ 148 ((3 * (τ 140 39)) + a0).toNat) = 6 → V0 E (d + 1) qX11_rule 33 [some (vR 140), some (vI a0), none] [vI 1, vR 140] τ Q))) ∧ (a0 = 2 → (((τ 148 ((3 * (τ 140 39)) + a0).toNat) ≠ 4 → V0 E (d + 1) qX11_rule 33 [some (vR 140), some (vI a0), none] [vI 0, vR 140] τ Q) ∧ ((τ 148 ((3 * (τ 140 39)) + a0).toNat) = 4 → V0 E (d + 1) qX11_rule 33 [some (vR 140), some (vI a0), none] [vI 1, vR 140] τ Q))))) : V0 E (d + 1) qX11_rule 0 [some (vR 140), some (vI a0), none] [] τ Q := by
  refine u_aload_n (i := 0) (pc' := 1) dX11_rule_0 rfl rfl rfl ?_
  refine u_aload_n (i := 0) (pc' := 2) dX11_rule_1 rfl rfl rfl ?_
  refine u_getR (a := 148) (pc' := 5) dX11_rule_2 rfl fl_TuneDoorModel_70 rfl (by decide) kd_140 rfl ?_
  refine u_iconst (pc' := 6) dX11_rule_5 rfl ?_
  refine u_aload_n (i := 0) (pc' := 7) dX11_rule_6 rfl rfl rfl ?_
  refine u_getI (z := (τ 140 39)) (pc' := 10) dX11_rule_7 rfl fl_TuneDoorModel_130 rfl (by decide) (by decide) kd_140 rfl (fun r1 => ?_)
  refine u_imul (pc' := 11) dX11_rule_10 rfl ?_
  refine u_iload_n (i := 1) (pc' := 12) dX11_rule_11 rfl rfl rfl ?_
  refine u_iadd (pc' := 13) dX11_rule_12 rfl ?_
  obtain ⟨c2, c3, h⟩ := h
  refine u_iaload (k := ((3 * (τ 140 39)) + a0).toNat) (z := (τ 148 ((3 * (τ 140 39)) + a0).toNat)) (pc' := 14) dX11_rule_13 rfl (by decide) kd_148 c2 c3 (by decide) rfl rfl (fun r4 => ?_)
  refine u_iload_n (i := 1) (pc' := 15) dX11_rule_14 rfl rfl rfl ?_
  refine u_iconst (pc' := 16) dX11_rule_15 rfl ?_
  obtain ⟨c5, h⟩ := h
  refine u_icmp_ne (tgt := 23) (pc' := 19) dX11_rule_16 rfl (by decide) c5 ⟨by decide, by decide⟩ (fun hb => ?_) (fun hb => ?_)
  · have h := h.1 hb
    refine u_bipush (pc' := 25) dX11_rule_23 rfl (by decide) ?_
    refine u_icmp_ne (tgt := 32) (pc' := 28) dX11_rule_25 rfl (by decide) r4 ⟨by decide, by decide⟩ (fun hb => ?_) (fun hb => ?_)
    · have h := h.1 hb
      refine u_iconst (pc' := 33) dX11_rule_32 rfl ?_
      exact u_less (ls' := [some (vR 140), some (vI a0), none]) ⟨rfl, ⟨rfl, trivial⟩⟩ h
    · have h := h.2 hb
      refine u_iconst (pc' := 29) dX11_rule_28 rfl ?_
      refine u_goto (tgt := 33) dX11_rule_29 (by decide) ?_
      exact u_less (ls' := [some (vR 140), some (vI a0), none]) ⟨rfl, ⟨rfl, trivial⟩⟩ h
  · have h := h.2 hb
    refine u_iconst (pc' := 20) dX11_rule_19 rfl ?_
    refine u_goto (tgt := 25) dX11_rule_20 (by decide) ?_
    refine u_icmp_ne (tgt := 32) (pc' := 28) dX11_rule_25 rfl (by decide) r4 ⟨by decide, by decide⟩ (fun hb => ?_) (fun hb => ?_)
    · have h := h.1 hb
      refine u_iconst (pc' := 33) dX11_rule_32 rfl ?_
      exact u_less (ls' := [some (vR 140), some (vI a0), none]) ⟨rfl, ⟨rfl, trivial⟩⟩ h
    · have h := h.2 hb
      refine u_iconst (pc' := 29) dX11_rule_28 rfl ?_
      refine u_goto (tgt := 33) dX11_rule_29 (by decide) ?_
      exact u_less (ls' := [some (vR 140), some (vI a0), none]) ⟨rfl, ⟨rfl, trivial⟩⟩ h
theorem mX11_rule {E : mm_Env} {d : Nat} {τ : mm_Mem} {Q : mm_Q0} {a0 : Int} (h : 0 ≤ ((3 * (τ 140 39)) + a0) ∧ ((3 * (τ 140 39)) + a0) < 6 ∧ inR a0 ∧ ((a0 ≠ 2 → (((τ 148 ((3 * (τ 140 39)) + a0).toNat) ≠ 6 → V0 E (d + 1) qX11_rule 33 [some (vR 140), some (vI a0), none] [vI 0, vR 140] τ Q) ∧ ((τ 148 ((3 * (τ 140 39)) + a0).toNat) = 6 → V0 E (d + 1) qX11_rule 33 [some (vR 140), some (vI a0), none] [vI 1, vR 140] τ Q))) ∧ (a0 = 2 → (((τ 148 ((3 * (τ 140 39)) + a0).toNat) ≠ 4 → V0 E (d + 1) qX11_rule 33 [some (vR 140), some (vI a0), none] [vI 0, vR 140] τ Q) ∧ ((τ 148 ((3 * (τ 140 39)) + a0).toNat) = 4 → V0 E (d + 1) qX11_rule 33 [some (vR 140), some (vI a0), none] [vI 1, vR 140] τ Q))))) : M0 E (d + 1) qX11_rule [vR 140, vI a0] τ Q := M0_of rfl (Nat.le_of_ble_eq_true rfl) [some (vR 140), some (vI a0), none] rfl (bX11_rule_0  h)
set_option maxRecDepth 20000 in
theorem bX11_rule_33 {E : mm_Env} {d : Nat} {τ : mm_Mem} {Q : mm_Q0} {x1 : Int} {y0 : Int} (h : M0 E d qX11_counts [vR 140, vI y0] τ (fun v τ1 => ∃ b2 : Bool, v = some (vB b2) ∧ ((b2 = true → 0 ≤ ((3 * (τ1 140 39)) + x1) ∧ ((3 * (τ1 140 39)) + x1) < 6 ∧ 0 ≤ ((6 * ((3 * (τ1 140 39)) + x1)) + (τ1 148 ((3 * (τ1 140 39)) + x1).toNat)) ∧ ((6 * ((3 * (τ1 140 39)) + x1)) + (τ1 148 ((3 * (τ1 140 39)) + x1).toNat)) < 36 ∧ M0 E d qX11_reads [vR 140, vB false] (wr τ1 149 ((6 * ((3 * (τ1 140 39)) + x1)) + (τ1 148 ((3 * (τ1 140 39)) + x1).toNat)).toNat (τ1 140 38)) (fun v τ11 => v = none ∧ M0 E d qX11_must_ [vR 140, vL 2003330414] τ11 (fun v τ12 => v = none ∧ 0 ≤ ((6 * ((3 * (τ1 140 39)) + x1)) + (τ1 148 ((3 * (τ1 140 39)) + x1).toNat)) ∧ ((6 * ((3 * (τ1 140 39)) + x1)) + (τ1 148 ((3 * (τ1 140 39)) + x1).toNat)) < 36 ∧ (((τ12 140 8) ≠ 0 → 0 ≤ ((6 * ((3 * (τ1 140 39)) + x1)) + (τ1 148 ((3 * (τ1 140 39)) + x1).toNat)) ∧ ((6 * ((3 * (τ1 140 39)) + x1)) + (τ1 148 ((3 * (τ1 140 39)) + x1).toNat)) < 36 ∧ (((τ12 140 8) ≠ 0 → Q none (wr (wr τ12 150 ((6 * ((3 * (τ1 140 39)) + x1)) + (τ1 148 ((3 * (τ1 140 39)) + x1).toNat)).toNat (τ12 140 38)) 151 ((6 * ((3 * (τ1 140 39)) + x1)) + (τ1 148 ((3 * (τ1 140 39)) + x1).toNat)).toNat (τ12 140 38))) ∧ ((τ12 140 8) = 0 → 0 ≤ ((3 * (τ12 140 39)) + x1) ∧ ((3 * (τ12 140 39)) + x1) < 6 ∧ 0 ≤ ((3 * (τ12 140 39)) + x1) ∧ ((3 * (τ12 140 39)) + x1) < 6 ∧ inR ((τ12 148 ((3 * (τ12 140 39)) + x1).toNat) + 1) ∧ Q none (wr (wr (wr τ12 150 ((6 * ((3 * (τ1 140 39)) + x1)) + (τ1 148 ((3 * (τ1 140 39)) + x1).toNat)).toNat (τ12 140 38)) 151 ((6 * ((3 * (τ1 140 39)) + x1)) + (τ1 148 ((3 * (τ1 140 39)) + x1).toNat)).toNat (τ12 140 38)) 148 ((3 * (τ12 140 39)) + x1).toNat ((τ12 148 ((3 * (τ12 140 39)) + x1).toNat) + 1))))) ∧ ((τ12 140 8) = 0 → M0 E d qX11_reads [vR 140, vB true] (wr τ12 150 ((6 * ((3 * (τ1 140 39)) + x1)) + (τ1 148 ((3 * (τ1 140 39)) + x1).toNat)).toNat (τ12 140 38)) (fun v τ28 => v = none ∧ 0 ≤ ((6 * ((3 * (τ1 140 39)) + x1)) + (τ1 148 ((3 * (τ1 140 39)) + x1).toNat)) ∧ ((6 * ((3 * (τ1 140 39)) + x1)) + (τ1 148 ((3 * (τ1 140 39)) + x1).toNat)) < 36 ∧ (((τ28 140 8) ≠ 0 → Q none (wr τ28 151 ((6 * ((3 * (τ1 140 39)) + x1)) + (τ1 148 ((3 * (τ1 140 39)) + x1).toNat)).toNat (τ28 140 38))) ∧ ((τ28 140 8) = 0 → 0 ≤ ((3 * (τ28 140 39)) + x1) ∧ ((3 * (τ28 140 39)) + x1) < 6 ∧ 0 ≤ ((3 * (τ28 140 39)) + x1) ∧ ((3 * (τ28 140 39)) + x1) < 6 ∧ inR ((τ28 148 ((3 * (τ28 140 39)) + x1).toNat) + 1) ∧ Q none (wr (wr τ28 151 ((6 * ((3 * (τ1 140 39)) + x1)) + (τ1 148 ((3 * (τ1 140 39)) + x1).toNat)).toNat (τ28 140 38)) 148 ((3 * (τ28 140 39)) + x1).toNat ((τ28 148 ((3 * (τ28 140 39)) + x1).toNat) + 1)))))))))) ∧ (b2 = false → Q none τ1)))) : V0 E (d + 1) qX11_rule 33 [some (vR 140), some (vI x1), none] [vI y0, vR 140] τ Q := by
  refine u_invV (q' := qX11_counts) (As := [vI y0]) (st := []) (pc' := 36) dX11_rule_33 rfl gX11_counts wm_1520 rfl rfl (by decide) kd_140 wm_1522 wp_84 rfl (Nat.le_of_ble_eq_true rfl) (M0.mono h (fun v τ1 h => ?_))
  obtain ⟨b2, rfl, h⟩ := h
  show V0 E (d + 1) qX11_rule 36 [some (vR 140), some (vI x1), none] [vB b2] τ1 Q
  refine u_if_ne (tgt := 40) (pc' := 39) dX11_rule_36 rfl (by decide) (bI_R _) (fun hb => ?_) (fun hb => ?_)
  · have h := h.1 (bI_n0.mp hb)
    refine u_bipush (pc' := 42) dX11_rule_40 rfl (by decide) ?_
    refine u_iconst (pc' := 43) dX11_rule_42 rfl ?_
    refine u_aload_n (i := 0) (pc' := 44) dX11_rule_43 rfl rfl rfl ?_
    refine u_getI (z := (τ1 140 39)) (pc' := 47) dX11_rule_44 rfl fl_TuneDoorModel_130 rfl (by decide) (by decide) kd_140 rfl (fun r3 => ?_)
    refine u_imul (pc' := 48) dX11_rule_47 rfl ?_
    refine u_iload_n (i := 1) (pc' := 49) dX11_rule_48 rfl rfl rfl ?_
    refine u_iadd (pc' := 50) dX11_rule_49 rfl ?_
    refine u_imul (pc' := 51) dX11_rule_50 rfl ?_
    refine u_aload_n (i := 0) (pc' := 52) dX11_rule_51 rfl rfl rfl ?_
    refine u_getR (a := 148) (pc' := 55) dX11_rule_52 rfl fl_TuneDoorModel_70 rfl (by decide) kd_140 rfl ?_
    refine u_iconst (pc' := 56) dX11_rule_55 rfl ?_
    refine u_aload_n (i := 0) (pc' := 57) dX11_rule_56 rfl rfl rfl ?_
    refine u_getI (z := (τ1 140 39)) (pc' := 60) dX11_rule_57 rfl fl_TuneDoorModel_130 rfl (by decide) (by decide) kd_140 rfl (fun r4 => ?_)
    refine u_imul (pc' := 61) dX11_rule_60 rfl ?_
    refine u_iload_n (i := 1) (pc' := 62) dX11_rule_61 rfl rfl rfl ?_
    refine u_iadd (pc' := 63) dX11_rule_62 rfl ?_
    obtain ⟨c5, c6, h⟩ := h
    refine u_iaload (k := ((3 * (τ1 140 39)) + x1).toNat) (z := (τ1 148 ((3 * (τ1 140 39)) + x1).toNat)) (pc' := 64) dX11_rule_63 rfl (by decide) kd_148 c5 c6 (by decide) rfl rfl (fun r7 => ?_)
    refine u_iadd (pc' := 65) dX11_rule_64 rfl ?_
    refine s_istore_n (i := 2) (ls' := [some (vR 140), some (vI x1), some (vI ((6 * ((3 * (τ1 140 39)) + x1)) + (τ1 148 ((3 * (τ1 140 39)) + x1).toNat)))]) (pc' := 66) dX11_rule_65 rfl rfl (Nat.le_of_ble_eq_true rfl) rfl rfl ?_
    refine u_aload_n (i := 0) (pc' := 67) dX11_rule_66 rfl rfl rfl ?_
    refine u_getR (a := 149) (pc' := 70) dX11_rule_67 rfl fl_TuneDoorModel_73 rfl (by decide) kd_140 rfl ?_
    refine u_iload_n (i := 2) (pc' := 71) dX11_rule_70 rfl rfl rfl ?_
    refine u_aload_n (i := 0) (pc' := 72) dX11_rule_71 rfl rfl rfl ?_
    refine u_getI (z := (τ1 140 38)) (pc' := 75) dX11_rule_72 rfl fl_TuneDoorModel_127 rfl (by decide) (by decide) kd_140 rfl (fun r8 => ?_)
    obtain ⟨c9, c10, h⟩ := h
    refine u_iastore (k := ((6 * ((3 * (τ1 140 39)) + x1)) + (τ1 148 ((3 * (τ1 140 39)) + x1).toNat)).toNat) (pc' := 76) dX11_rule_75 rfl (by decide) kd_149 c9 c10 (by decide) rfl r8 ?_
    refine u_aload_n (i := 0) (pc' := 77) dX11_rule_76 rfl rfl rfl ?_
    refine u_iconst (pc' := 78) dX11_rule_77 rfl ?_
    refine u_invV (q' := qX11_reads) (As := [vB false]) (st := []) (pc' := 81) dX11_rule_78 rfl gX11_reads wm_1570 rfl rfl (by decide) kd_140 wm_1572 wp_90 rfl (Nat.le_of_ble_eq_true rfl) (M0.mono h (fun v τ11 h => ?_))
    obtain ⟨rfl, h⟩ := h
    show V0 E (d + 1) qX11_rule 81 [some (vR 140), some (vI x1), some (vI ((6 * ((3 * (τ1 140 39)) + x1)) + (τ1 148 ((3 * (τ1 140 39)) + x1).toNat)))] [] τ11 Q
    refine u_aload_n (i := 0) (pc' := 82) dX11_rule_81 rfl rfl rfl ?_
    refine u_ldc2 (z := 2003330414) (pc' := 85) dX11_rule_82 rfl wm_1546 (by decide) ?_
    refine u_invV (q' := qX11_must_) (As := [vL 2003330414]) (st := []) (pc' := 88) dX11_rule_85 rfl gX11_must_ wm_1499 rfl rfl (by decide) kd_140 wm_1501 wp_79 rfl (Nat.le_of_ble_eq_true rfl) (M0.mono h (fun v τ12 h => ?_))
    obtain ⟨rfl, h⟩ := h
    show V0 E (d + 1) qX11_rule 88 [some (vR 140), some (vI x1), some (vI ((6 * ((3 * (τ1 140 39)) + x1)) + (τ1 148 ((3 * (τ1 140 39)) + x1).toNat)))] [] τ12 Q
    refine u_aload_n (i := 0) (pc' := 89) dX11_rule_88 rfl rfl rfl ?_
    refine u_getR (a := 150) (pc' := 92) dX11_rule_89 rfl fl_TuneDoorModel_76 rfl (by decide) kd_140 rfl ?_
    refine u_iload_n (i := 2) (pc' := 93) dX11_rule_92 rfl rfl rfl ?_
    refine u_aload_n (i := 0) (pc' := 94) dX11_rule_93 rfl rfl rfl ?_
    refine u_getI (z := (τ12 140 38)) (pc' := 97) dX11_rule_94 rfl fl_TuneDoorModel_127 rfl (by decide) (by decide) kd_140 rfl (fun r13 => ?_)
    obtain ⟨c14, c15, h⟩ := h
    refine u_iastore (k := ((6 * ((3 * (τ1 140 39)) + x1)) + (τ1 148 ((3 * (τ1 140 39)) + x1).toNat)).toNat) (pc' := 98) dX11_rule_97 rfl (by decide) kd_150 c14 c15 (by decide) rfl r13 ?_
    refine u_aload_n (i := 0) (pc' := 99) dX11_rule_98 rfl rfl rfl ?_
    refine u_getI (z := (τ12 140 8)) (pc' := 102) dX11_rule_99 rfl fl_TuneDoorModel_36 rfl (by decide) (by decide) kd_140 rfl (fun r16 => ?_)
    refine u_if_ne (tgt := 110) (pc' := 105) dX11_rule_102 rfl (by decide) r16 (fun hb => ?_) (fun hb => ?_)
    · have h := h.1 hb
      refine u_aload_n (i := 0) (pc' := 111) dX11_rule_110 rfl rfl rfl ?_
      refine u_getR (a := 151) (pc' := 114) dX11_rule_111 rfl fl_TuneDoorModel_79 rfl (by decide) kd_140 rfl ?_
      refine u_iload_n (i := 2) (pc' := 115) dX11_rule_114 rfl rfl rfl ?_
      refine u_aload_n (i := 0) (pc' := 116) dX11_rule_115 rfl rfl rfl ?_
      refine u_getI (z := (τ12 140 38)) (pc' := 119) dX11_rule_116 rfl fl_TuneDoorModel_127 rfl (by decide) (by decide) kd_140 rfl (fun r17 => ?_)
      obtain ⟨c18, c19, h⟩ := h
      refine u_iastore (k := ((6 * ((3 * (τ1 140 39)) + x1)) + (τ1 148 ((3 * (τ1 140 39)) + x1).toNat)).toNat) (pc' := 120) dX11_rule_119 rfl (by decide) kd_151 c18 c19 (by decide) rfl r17 ?_
      refine u_aload_n (i := 0) (pc' := 121) dX11_rule_120 rfl rfl rfl ?_
      refine u_getI (z := (τ12 140 8)) (pc' := 124) dX11_rule_121 rfl fl_TuneDoorModel_36 rfl (by decide) (by decide) kd_140 rfl (fun r20 => ?_)
      refine u_if_ne (tgt := 144) (pc' := 127) dX11_rule_124 rfl (by decide) r20 (fun hb => ?_) (fun hb => ?_)
      · have h := h.1 hb
        exact u_ret dX11_rule_144 rfl h
      · have h := h.2 hb
        refine u_aload_n (i := 0) (pc' := 128) dX11_rule_127 rfl rfl rfl ?_
        refine u_getR (a := 148) (pc' := 131) dX11_rule_128 rfl fl_TuneDoorModel_70 rfl (by decide) kd_140 rfl ?_
        refine u_iconst (pc' := 132) dX11_rule_131 rfl ?_
        refine u_aload_n (i := 0) (pc' := 133) dX11_rule_132 rfl rfl rfl ?_
        refine u_getI (z := (τ12 140 39)) (pc' := 136) dX11_rule_133 rfl fl_TuneDoorModel_130 rfl (by decide) (by decide) kd_140 rfl (fun r21 => ?_)
        refine u_imul (pc' := 137) dX11_rule_136 rfl ?_
        refine u_iload_n (i := 1) (pc' := 138) dX11_rule_137 rfl rfl rfl ?_
        refine u_iadd (pc' := 139) dX11_rule_138 rfl ?_
        refine u_dup2 (pc' := 140) dX11_rule_139 rfl (fun _ hh => by cases hh) (fun _ hh => by cases hh) ?_
        obtain ⟨c22, c23, h⟩ := h
        refine u_iaload (k := ((3 * (τ12 140 39)) + x1).toNat) (z := (τ12 148 ((3 * (τ12 140 39)) + x1).toNat)) (pc' := 141) dX11_rule_140 rfl (by decide) kd_148 c22 c23 (by decide) rfl rfl (fun r24 => ?_)
        refine u_iconst (pc' := 142) dX11_rule_141 rfl ?_
        refine u_iadd (pc' := 143) dX11_rule_142 rfl ?_
        obtain ⟨c25, c26, c27, h⟩ := h
        refine u_iastore (k := ((3 * (τ12 140 39)) + x1).toNat) (pc' := 144) dX11_rule_143 rfl (by decide) kd_148 c25 c26 (by decide) rfl c27 ?_
        exact u_ret dX11_rule_144 rfl h
    · have h := h.2 hb
      refine u_aload_n (i := 0) (pc' := 106) dX11_rule_105 rfl rfl rfl ?_
      refine u_iconst (pc' := 107) dX11_rule_106 rfl ?_
      refine u_invV (q' := qX11_reads) (As := [vB true]) (st := []) (pc' := 110) dX11_rule_107 rfl gX11_reads wm_1570 rfl rfl (by decide) kd_140 wm_1572 wp_90 rfl (Nat.le_of_ble_eq_true rfl) (M0.mono h (fun v τ28 h => ?_))
      obtain ⟨rfl, h⟩ := h
      show V0 E (d + 1) qX11_rule 110 [some (vR 140), some (vI x1), some (vI ((6 * ((3 * (τ1 140 39)) + x1)) + (τ1 148 ((3 * (τ1 140 39)) + x1).toNat)))] [] τ28 Q
      refine u_aload_n (i := 0) (pc' := 111) dX11_rule_110 rfl rfl rfl ?_
      refine u_getR (a := 151) (pc' := 114) dX11_rule_111 rfl fl_TuneDoorModel_79 rfl (by decide) kd_140 rfl ?_
      refine u_iload_n (i := 2) (pc' := 115) dX11_rule_114 rfl rfl rfl ?_
      refine u_aload_n (i := 0) (pc' := 116) dX11_rule_115 rfl rfl rfl ?_
      refine u_getI (z := (τ28 140 38)) (pc' := 119) dX11_rule_116 rfl fl_TuneDoorModel_127 rfl (by decide) (by decide) kd_140 rfl (fun r29 => ?_)
      obtain ⟨c30, c31, h⟩ := h
      refine u_iastore (k := ((6 * ((3 * (τ1 140 39)) + x1)) + (τ1 148 ((3 * (τ1 140 39)) + x1).toNat)).toNat) (pc' := 120) dX11_rule_119 rfl (by decide) kd_151 c30 c31 (by decide) rfl r29 ?_
      refine u_aload_n (i := 0) (pc' := 121) dX11_rule_120 rfl rfl rfl ?_
      refine u_getI (z := (τ28 140 8)) (pc' := 124) dX11_rule_121 rfl fl_TuneDoorModel_36 rfl (by decide) (by decide) kd_140 rfl (fun r32 => ?_)
      refine u_if_ne (tgt := 144) (pc' := 127) dX11_rule_124 rfl (by decide) r32 (fun hb => ?_) (fun hb => ?_)
      · have h := h.1 hb
        exact u_ret dX11_rule_144 rfl h
      · have h := h.2 hb
        refine u_aload_n (i := 0) (pc' := 128) dX11_rule_127 rfl rfl rfl ?_
        refine u_getR (a := 148) (pc' := 131) dX11_rule_128 rfl fl_TuneDoorModel_70 rfl (by decide) kd_140 rfl ?_
        refine u_iconst (pc' := 132) dX11_rule_131 rfl ?_
        refine u_aload_n (i := 0) (pc' := 133) dX11_rule_132 rfl rfl rfl ?_
        refine u_getI (z := (τ28 140 39)) (pc' := 136) dX11_rule_133 rfl fl_TuneDoorModel_130 rfl (by decide) (by decide) kd_140 rfl (fun r33 => ?_)
        refine u_imul (pc' := 137) dX11_rule_136 rfl ?_
        refine u_iload_n (i := 1) (pc' := 138) dX11_rule_137 rfl rfl rfl ?_
        refine u_iadd (pc' := 139) dX11_rule_138 rfl ?_
        refine u_dup2 (pc' := 140) dX11_rule_139 rfl (fun _ hh => by cases hh) (fun _ hh => by cases hh) ?_
        obtain ⟨c34, c35, h⟩ := h
        refine u_iaload (k := ((3 * (τ28 140 39)) + x1).toNat) (z := (τ28 148 ((3 * (τ28 140 39)) + x1).toNat)) (pc' := 141) dX11_rule_140 rfl (by decide) kd_148 c34 c35 (by decide) rfl rfl (fun r36 => ?_)
        refine u_iconst (pc' := 142) dX11_rule_141 rfl ?_
        refine u_iadd (pc' := 143) dX11_rule_142 rfl ?_
        obtain ⟨c37, c38, c39, h⟩ := h
        refine u_iastore (k := ((3 * (τ28 140 39)) + x1).toNat) (pc' := 144) dX11_rule_143 rfl (by decide) kd_148 c37 c38 (by decide) rfl c39 ?_
        exact u_ret dX11_rule_144 rfl h
  · have h := h.2 (bI_0.mp hb)
    exact u_ret dX11_rule_39 rfl h
set_option maxRecDepth 20000 in
theorem bX11_reads_0 {E : mm_Env} {d : Nat} {τ : mm_Mem} {Q : mm_Q0} {a0 : Bool} (h : (((τ 140 8) ≤ 0 → ((a0 = false → M0 E d qX11_pushes [vR 140, vI 0] (wr (wr (wr (wr τ 140 45 0) 140 46 0) 140 48 0) 140 49 0) (fun v τ2 => v = none ∧ V0 E (d + 1) qX11_reads 43 [some (vR 140), none, some (vI 1)] [] τ2 Q)) ∧ (a0 = true → M0 E d qX11_pushes [vR 140, vI 1] (wr (wr (wr (wr τ 140 45 0) 140 46 0) 140 48 0) 140 49 0) (fun v τ3 => v = none ∧ V0 E (d + 1) qX11_reads 43 [some (vR 140), none, some (vI 1)] [] τ3 Q)))) ∧ (¬ (τ 140 8) ≤ 0 → Q none τ))) : V0 E (d + 1) qX11_reads 0 [some (vR 140), some (vB a0), none] [] τ Q := by
  refine u_aload_n (i := 0) (pc' := 1) dX11_reads_0 rfl rfl rfl ?_
  refine u_getI (z := (τ 140 8)) (pc' := 4) dX11_reads_1 rfl fl_TuneDoorModel_36 rfl (by decide) (by decide) kd_140 rfl (fun r1 => ?_)
  refine u_if_le (tgt := 8) (pc' := 7) dX11_reads_4 rfl (by decide) r1 (fun hb => ?_) (fun hb => ?_)
  · have h := h.1 hb
    refine u_aload_n (i := 0) (pc' := 9) dX11_reads_8 rfl rfl rfl ?_
    refine u_iconst (pc' := 10) dX11_reads_9 rfl ?_
    refine u_putI (pc' := 13) dX11_reads_10 rfl fl_TuneDoorModel_149 rfl rfl (by decide) (by decide) kd_140 ⟨by decide, by decide⟩ ?_
    refine u_aload_n (i := 0) (pc' := 14) dX11_reads_13 rfl rfl rfl ?_
    refine u_iconst (pc' := 15) dX11_reads_14 rfl ?_
    refine u_putI (pc' := 18) dX11_reads_15 rfl fl_TuneDoorModel_152 rfl rfl (by decide) (by decide) kd_140 ⟨by decide, by decide⟩ ?_
    refine u_aload_n (i := 0) (pc' := 19) dX11_reads_18 rfl rfl rfl ?_
    refine u_iconst (pc' := 20) dX11_reads_19 rfl ?_
    refine u_putI (pc' := 23) dX11_reads_20 rfl fl_TuneDoorModel_158 rfl rfl (by decide) (by decide) kd_140 ⟨by decide, by decide⟩ ?_
    refine u_aload_n (i := 0) (pc' := 24) dX11_reads_23 rfl rfl rfl ?_
    refine u_iconst (pc' := 25) dX11_reads_24 rfl ?_
    refine u_putZ (b := false) (pc' := 28) dX11_reads_25 rfl fl_TuneDoorModel_161 rfl rfl (by decide) (by decide) kd_140 rfl ?_
    refine u_aload_n (i := 0) (pc' := 29) dX11_reads_28 rfl rfl rfl ?_
    refine u_iload_n (i := 1) (pc' := 30) dX11_reads_29 rfl rfl rfl ?_
    refine u_if_eq (tgt := 37) (pc' := 33) dX11_reads_30 rfl (by decide) (bI_R _) (fun hb => ?_) (fun hb => ?_)
    · have h := h.1 (bI_0.mp hb)
      refine u_iconst (pc' := 38) dX11_reads_37 rfl ?_
      refine u_invV (q' := qX11_pushes) (As := [vI 0]) (st := []) (pc' := 41) dX11_reads_38 rfl gX11_pushes wm_1574 rfl rfl (by decide) kd_140 wm_1576 wp_91 rfl (Nat.le_of_ble_eq_true rfl) (M0.mono h (fun v τ2 h => ?_))
      obtain ⟨rfl, h⟩ := h
      show V0 E (d + 1) qX11_reads 41 [some (vR 140), some (vB a0), none] [] τ2 Q
      refine u_iconst (pc' := 42) dX11_reads_41 rfl ?_
      refine s_istore_n (i := 2) (ls' := [some (vR 140), some (vB a0), some (vI 1)]) (pc' := 43) dX11_reads_42 rfl rfl (Nat.le_of_ble_eq_true rfl) rfl rfl ?_
      exact u_less (ls' := [some (vR 140), none, some (vI 1)]) ⟨rfl, ⟨rfl, trivial⟩⟩ h
    · have h := h.2 (bI_n0.mp hb)
      refine u_iconst (pc' := 34) dX11_reads_33 rfl ?_
      refine u_goto (tgt := 38) dX11_reads_34 (by decide) ?_
      refine u_invV (q' := qX11_pushes) (As := [vI 1]) (st := []) (pc' := 41) dX11_reads_38 rfl gX11_pushes wm_1574 rfl rfl (by decide) kd_140 wm_1576 wp_91 rfl (Nat.le_of_ble_eq_true rfl) (M0.mono h (fun v τ3 h => ?_))
      obtain ⟨rfl, h⟩ := h
      show V0 E (d + 1) qX11_reads 41 [some (vR 140), some (vB a0), none] [] τ3 Q
      refine u_iconst (pc' := 42) dX11_reads_41 rfl ?_
      refine s_istore_n (i := 2) (ls' := [some (vR 140), some (vB a0), some (vI 1)]) (pc' := 43) dX11_reads_42 rfl rfl (Nat.le_of_ble_eq_true rfl) rfl rfl ?_
      exact u_less (ls' := [some (vR 140), none, some (vI 1)]) ⟨rfl, ⟨rfl, trivial⟩⟩ h
  · have h := h.2 hb
    exact u_ret dX11_reads_7 rfl h
theorem mX11_reads {E : mm_Env} {d : Nat} {τ : mm_Mem} {Q : mm_Q0} {a0 : Bool} (h : (((τ 140 8) ≤ 0 → ((a0 = false → M0 E d qX11_pushes [vR 140, vI 0] (wr (wr (wr (wr τ 140 45 0) 140 46 0) 140 48 0) 140 49 0) (fun v τ2 => v = none ∧ V0 E (d + 1) qX11_reads 43 [some (vR 140), none, some (vI 1)] [] τ2 Q)) ∧ (a0 = true → M0 E d qX11_pushes [vR 140, vI 1] (wr (wr (wr (wr τ 140 45 0) 140 46 0) 140 48 0) 140 49 0) (fun v τ3 => v = none ∧ V0 E (d + 1) qX11_reads 43 [some (vR 140), none, some (vI 1)] [] τ3 Q)))) ∧ (¬ (τ 140 8) ≤ 0 → Q none τ))) : M0 E (d + 1) qX11_reads [vR 140, vB a0] τ Q := M0_of rfl (Nat.le_of_ble_eq_true rfl) [some (vR 140), some (vB a0), none] rfl (bX11_reads_0  h)
set_option maxRecDepth 20000 in
theorem bX11_reads_43 {E : mm_Env} {d : Nat} {τ : mm_Mem} {Q : mm_Q0} {x2 : Int} (h : inR x2 ∧ ((x2 = 0 → Q none τ) ∧ (¬ x2 = 0 → (((τ 140 49) ≠ 0 → M0 E d qX11_goesOn [vR 140] τ (fun v τ3 => ∃ b4 : Bool, v = some (vB b4) ∧ ((b4 = false → V0 E (d + 1) qX11_reads 43 [some (vR 140), none, some (vI 0)] [] τ3 Q) ∧ (b4 = true → (((τ3 140 8) ≠ 0 → V0 E (d + 1) qX11_reads 43 [some (vR 140), none, some (vI 0)] [] τ3 Q) ∧ ((τ3 140 8) = 0 → V0 E (d + 1) qX11_reads 43 [some (vR 140), none, some (vI 1)] [] τ3 Q)))))) ∧ ((τ 140 49) = 0 → M0 E d qX11_operand [vR 140] τ (fun v τ6 => ∃ b7 : Bool, v = some (vB b7) ∧ ((x2 = 0 → V0 E (d + 1) qX11_reads 43 [some (vR 140), none, some (vI 0)] [] (wr τ6 140 49 (bI b7)) Q) ∧ (¬ x2 = 0 → (((τ6 140 8) ≠ 0 → V0 E (d + 1) qX11_reads 43 [some (vR 140), none, some (vI 0)] [] (wr τ6 140 49 (bI b7)) Q) ∧ ((τ6 140 8) = 0 → V0 E (d + 1) qX11_reads 43 [some (vR 140), none, some (vI 1)] [] (wr τ6 140 49 (bI b7)) Q)))))))))) : V0 E (d + 1) qX11_reads 43 [some (vR 140), none, some (vI x2)] [] τ Q := by
  refine u_iload_n (i := 2) (pc' := 44) dX11_reads_43 rfl rfl rfl ?_
  obtain ⟨c1, h⟩ := h
  refine u_if_eq (tgt := 90) (pc' := 47) dX11_reads_44 rfl (by decide) c1 (fun hb => ?_) (fun hb => ?_)
  · have h := h.1 hb
    exact u_ret dX11_reads_90 rfl h
  · have h := h.2 hb
    refine u_aload_n (i := 0) (pc' := 48) dX11_reads_47 rfl rfl rfl ?_
    refine u_getI (z := (τ 140 49)) (pc' := 51) dX11_reads_48 rfl fl_TuneDoorModel_161 rfl (by decide) (by decide) kd_140 rfl (fun r2 => ?_)
    refine u_if_ne (tgt := 65) (pc' := 54) dX11_reads_51 rfl (by decide) r2 (fun hb => ?_) (fun hb => ?_)
    · have h := h.1 hb
      refine u_aload_n (i := 0) (pc' := 66) dX11_reads_65 rfl rfl rfl ?_
      refine u_invV (q' := qX11_goesOn) (As := []) (st := []) (pc' := 69) dX11_reads_66 rfl gX11_goesOn wm_1597 rfl rfl (by decide) kd_140 wm_1599 wp_96 rfl (Nat.le_of_ble_eq_true rfl) (M0.mono h (fun v τ3 h => ?_))
      obtain ⟨b4, rfl, h⟩ := h
      show V0 E (d + 1) qX11_reads 69 [some (vR 140), none, some (vI x2)] [vB b4] τ3 Q
      refine s_istore_n (i := 2) (ls' := [some (vR 140), none, some (vB b4)]) (pc' := 70) dX11_reads_69 rfl rfl (Nat.le_of_ble_eq_true rfl) rfl rfl ?_
      refine u_iload_n (i := 2) (pc' := 71) dX11_reads_70 rfl rfl rfl ?_
      refine u_if_eq (tgt := 85) (pc' := 74) dX11_reads_71 rfl (by decide) (bI_R _) (fun hb => ?_) (fun hb => ?_)
      · have h := h.1 (bI_0.mp hb)
        refine u_iconst (pc' := 86) dX11_reads_85 rfl ?_
        refine s_istore_n (i := 2) (ls' := [some (vR 140), none, some (vI 0)]) (pc' := 87) dX11_reads_86 rfl rfl (Nat.le_of_ble_eq_true rfl) rfl rfl ?_
        refine u_goto (tgt := 43) dX11_reads_87 (by decide) ?_
        exact u_less (ls' := [some (vR 140), none, some (vI 0)]) ⟨rfl, ⟨rfl, trivial⟩⟩ h
      · have h := h.2 (bI_n0.mp hb)
        refine u_aload_n (i := 0) (pc' := 75) dX11_reads_74 rfl rfl rfl ?_
        refine u_getI (z := (τ3 140 8)) (pc' := 78) dX11_reads_75 rfl fl_TuneDoorModel_36 rfl (by decide) (by decide) kd_140 rfl (fun r5 => ?_)
        refine u_if_ne (tgt := 85) (pc' := 81) dX11_reads_78 rfl (by decide) r5 (fun hb => ?_) (fun hb => ?_)
        · have h := h.1 hb
          refine u_iconst (pc' := 86) dX11_reads_85 rfl ?_
          refine s_istore_n (i := 2) (ls' := [some (vR 140), none, some (vI 0)]) (pc' := 87) dX11_reads_86 rfl rfl (Nat.le_of_ble_eq_true rfl) rfl rfl ?_
          refine u_goto (tgt := 43) dX11_reads_87 (by decide) ?_
          exact u_less (ls' := [some (vR 140), none, some (vI 0)]) ⟨rfl, ⟨rfl, trivial⟩⟩ h
        · have h := h.2 hb
          refine u_iconst (pc' := 82) dX11_reads_81 rfl ?_
          refine u_goto (tgt := 86) dX11_reads_82 (by decide) ?_
          refine s_istore_n (i := 2) (ls' := [some (vR 140), none, some (vI 1)]) (pc' := 87) dX11_reads_86 rfl rfl (Nat.le_of_ble_eq_true rfl) rfl rfl ?_
          refine u_goto (tgt := 43) dX11_reads_87 (by decide) ?_
          exact u_less (ls' := [some (vR 140), none, some (vI 1)]) ⟨rfl, ⟨rfl, trivial⟩⟩ h
    · have h := h.2 hb
      refine u_aload_n (i := 0) (pc' := 55) dX11_reads_54 rfl rfl rfl ?_
      refine u_aload_n (i := 0) (pc' := 56) dX11_reads_55 rfl rfl rfl ?_
      refine u_invV (q' := qX11_operand) (As := []) (st := [vR 140]) (pc' := 59) dX11_reads_56 rfl gX11_operand wm_1578 rfl rfl (by decide) kd_140 wm_1580 wp_92 rfl (Nat.le_of_ble_eq_true rfl) (M0.mono h (fun v τ6 h => ?_))
      obtain ⟨b7, rfl, h⟩ := h
      show V0 E (d + 1) qX11_reads 59 [some (vR 140), none, some (vI x2)] [vB b7, vR 140] τ6 Q
      refine u_putZ (b := b7) (pc' := 62) dX11_reads_59 rfl fl_TuneDoorModel_161 rfl rfl (by decide) (by decide) kd_140 rfl ?_
      refine u_goto (tgt := 70) dX11_reads_62 (by decide) ?_
      refine u_iload_n (i := 2) (pc' := 71) dX11_reads_70 rfl rfl rfl ?_
      refine u_if_eq (tgt := 85) (pc' := 74) dX11_reads_71 rfl (by decide) c1 (fun hb => ?_) (fun hb => ?_)
      · have h := h.1 hb
        refine u_iconst (pc' := 86) dX11_reads_85 rfl ?_
        refine s_istore_n (i := 2) (ls' := [some (vR 140), none, some (vI 0)]) (pc' := 87) dX11_reads_86 rfl rfl (Nat.le_of_ble_eq_true rfl) rfl rfl ?_
        refine u_goto (tgt := 43) dX11_reads_87 (by decide) ?_
        exact u_less (ls' := [some (vR 140), none, some (vI 0)]) ⟨rfl, ⟨rfl, trivial⟩⟩ h
      · have h := h.2 hb
        refine u_aload_n (i := 0) (pc' := 75) dX11_reads_74 rfl rfl rfl ?_
        refine u_getI (z := (τ6 140 8)) (pc' := 78) dX11_reads_75 rfl fl_TuneDoorModel_36 rfl (by decide) (by decide) kd_140 rfl (fun r8 => ?_)
        refine u_if_ne (tgt := 85) (pc' := 81) dX11_reads_78 rfl (by decide) r8 (fun hb => ?_) (fun hb => ?_)
        · have h := h.1 hb
          refine u_iconst (pc' := 86) dX11_reads_85 rfl ?_
          refine s_istore_n (i := 2) (ls' := [some (vR 140), none, some (vI 0)]) (pc' := 87) dX11_reads_86 rfl rfl (Nat.le_of_ble_eq_true rfl) rfl rfl ?_
          refine u_goto (tgt := 43) dX11_reads_87 (by decide) ?_
          exact u_less (ls' := [some (vR 140), none, some (vI 0)]) ⟨rfl, ⟨rfl, trivial⟩⟩ h
        · have h := h.2 hb
          refine u_iconst (pc' := 82) dX11_reads_81 rfl ?_
          refine u_goto (tgt := 86) dX11_reads_82 (by decide) ?_
          refine s_istore_n (i := 2) (ls' := [some (vR 140), none, some (vI 1)]) (pc' := 87) dX11_reads_86 rfl rfl (Nat.le_of_ble_eq_true rfl) rfl rfl ?_
          refine u_goto (tgt := 43) dX11_reads_87 (by decide) ?_
          exact u_less (ls' := [some (vR 140), none, some (vI 1)]) ⟨rfl, ⟨rfl, trivial⟩⟩ h
set_option maxRecDepth 20000 in
theorem bX11_pushes_0 {E : mm_Env} {d : Nat} {τ : mm_Mem} {Q : mm_Q0} {a0 : Int} (h : 0 ≤ (τ 140 45) ∧ (τ 140 45) < 20 ∧ inR a0 ∧ 0 ≤ (τ 140 45) ∧ (τ 140 45) < 20 ∧ 0 ≤ (τ 140 45) ∧ (τ 140 45) < 20 ∧ 0 ≤ (τ 140 45) ∧ (τ 140 45) < 20 ∧ inR ((τ 140 45) + 1) ∧ Q none (wr (wr (wr (wr (wr τ 167 (τ 140 45).toNat a0) 168 (τ 140 45).toNat 0) 169 (τ 140 45).toNat 1) 171 (τ 140 45).toNat (τ 140 48)) 140 45 ((τ 140 45) + 1))) : V0 E d qX11_pushes 0 [some (vR 140), some (vI a0)] [] τ Q := by
  refine u_aload_n (i := 0) (pc' := 1) dX11_pushes_0 rfl rfl rfl ?_
  refine u_getR (a := 167) (pc' := 4) dX11_pushes_1 rfl fl_TuneDoorModel_133 rfl (by decide) kd_140 rfl ?_
  refine u_aload_n (i := 0) (pc' := 5) dX11_pushes_4 rfl rfl rfl ?_
  refine u_getI (z := (τ 140 45)) (pc' := 8) dX11_pushes_5 rfl fl_TuneDoorModel_149 rfl (by decide) (by decide) kd_140 rfl (fun r1 => ?_)
  refine u_iload_n (i := 1) (pc' := 9) dX11_pushes_8 rfl rfl rfl ?_
  obtain ⟨c2, c3, c4, h⟩ := h
  refine u_iastore (k := (τ 140 45).toNat) (pc' := 10) dX11_pushes_9 rfl (by decide) kd_167 c2 c3 (by decide) rfl c4 ?_
  refine u_aload_n (i := 0) (pc' := 11) dX11_pushes_10 rfl rfl rfl ?_
  refine u_getR (a := 168) (pc' := 14) dX11_pushes_11 rfl fl_TuneDoorModel_136 rfl (by decide) kd_140 rfl ?_
  refine u_aload_n (i := 0) (pc' := 15) dX11_pushes_14 rfl rfl rfl ?_
  refine u_getI (z := (τ 140 45)) (pc' := 18) dX11_pushes_15 rfl fl_TuneDoorModel_149 rfl (by decide) (by decide) kd_140 rfl (fun r5 => ?_)
  refine u_iconst (pc' := 19) dX11_pushes_18 rfl ?_
  obtain ⟨c6, c7, h⟩ := h
  refine u_iastore (k := (τ 140 45).toNat) (pc' := 20) dX11_pushes_19 rfl (by decide) kd_168 c6 c7 (by decide) rfl ⟨by decide, by decide⟩ ?_
  refine u_aload_n (i := 0) (pc' := 21) dX11_pushes_20 rfl rfl rfl ?_
  refine u_getR (a := 169) (pc' := 24) dX11_pushes_21 rfl fl_TuneDoorModel_139 rfl (by decide) kd_140 rfl ?_
  refine u_aload_n (i := 0) (pc' := 25) dX11_pushes_24 rfl rfl rfl ?_
  refine u_getI (z := (τ 140 45)) (pc' := 28) dX11_pushes_25 rfl fl_TuneDoorModel_149 rfl (by decide) (by decide) kd_140 rfl (fun r8 => ?_)
  refine u_iconst (pc' := 29) dX11_pushes_28 rfl ?_
  obtain ⟨c9, c10, h⟩ := h
  refine u_bastore (k := (τ 140 45).toNat) (b := true) (pc' := 30) dX11_pushes_29 rfl (by decide) kd_169 c9 c10 (by decide) rfl rfl ?_
  refine u_aload_n (i := 0) (pc' := 31) dX11_pushes_30 rfl rfl rfl ?_
  refine u_getR (a := 171) (pc' := 34) dX11_pushes_31 rfl fl_TuneDoorModel_146 rfl (by decide) kd_140 rfl ?_
  refine u_aload_n (i := 0) (pc' := 35) dX11_pushes_34 rfl rfl rfl ?_
  refine u_getI (z := (τ 140 45)) (pc' := 38) dX11_pushes_35 rfl fl_TuneDoorModel_149 rfl (by decide) (by decide) kd_140 rfl (fun r11 => ?_)
  refine u_aload_n (i := 0) (pc' := 39) dX11_pushes_38 rfl rfl rfl ?_
  refine u_getI (z := (τ 140 48)) (pc' := 42) dX11_pushes_39 rfl fl_TuneDoorModel_158 rfl (by decide) (by decide) kd_140 rfl (fun r12 => ?_)
  obtain ⟨c13, c14, h⟩ := h
  refine u_iastore (k := (τ 140 45).toNat) (pc' := 43) dX11_pushes_42 rfl (by decide) kd_171 c13 c14 (by decide) rfl r12 ?_
  refine u_aload_n (i := 0) (pc' := 44) dX11_pushes_43 rfl rfl rfl ?_
  refine u_dup (pc' := 45) dX11_pushes_44 rfl (fun _ hh => by cases hh) ?_
  refine u_getI (z := (τ 140 45)) (pc' := 48) dX11_pushes_45 rfl fl_TuneDoorModel_149 rfl (by decide) (by decide) kd_140 rfl (fun r15 => ?_)
  refine u_iconst (pc' := 49) dX11_pushes_48 rfl ?_
  refine u_iadd (pc' := 50) dX11_pushes_49 rfl ?_
  obtain ⟨c16, h⟩ := h
  refine u_putI (pc' := 53) dX11_pushes_50 rfl fl_TuneDoorModel_149 rfl rfl (by decide) (by decide) kd_140 c16 ?_
  exact u_ret dX11_pushes_53 rfl h
theorem mX11_pushes {E : mm_Env} {d : Nat} {τ : mm_Mem} {Q : mm_Q0} {a0 : Int} (h : 0 ≤ (τ 140 45) ∧ (τ 140 45) < 20 ∧ inR a0 ∧ 0 ≤ (τ 140 45) ∧ (τ 140 45) < 20 ∧ 0 ≤ (τ 140 45) ∧ (τ 140 45) < 20 ∧ 0 ≤ (τ 140 45) ∧ (τ 140 45) < 20 ∧ inR ((τ 140 45) + 1) ∧ Q none (wr (wr (wr (wr (wr τ 167 (τ 140 45).toNat a0) 168 (τ 140 45).toNat 0) 169 (τ 140 45).toNat 1) 171 (τ 140 45).toNat (τ 140 48)) 140 45 ((τ 140 45) + 1))) : M0 E d qX11_pushes [vR 140, vI a0] τ Q := M0_of rfl (Nat.le_of_ble_eq_true rfl) [some (vR 140), some (vI a0)] rfl (bX11_pushes_0  h)
set_option maxRecDepth 20000 in
theorem bX11_operand_0 {E : mm_Env} {d : Nat} {τ : mm_Mem} {Q : mm_Q0}  (h : 0 ≤ ((τ 140 45) - 1) ∧ ((τ 140 45) - 1) < 20 ∧ M0 E d qX11_isTest [vI (τ 167 ((τ 140 45) - 1).toNat)] τ (fun v τ5 => ∃ b6 : Bool, v = some (vB b6) ∧ ((b6 = false → V0 E (d + 1) qX11_operand 60 [some (vR 140), some (vI ((τ 140 45) - 1)), some (vI 0), none] [] τ5 Q) ∧ (b6 = true → 0 ≤ ((τ 140 45) - 1) ∧ ((τ 140 45) - 1) < 20 ∧ (((τ5 169 ((τ 140 45) - 1).toNat) = 0 → V0 E (d + 1) qX11_operand 60 [some (vR 140), some (vI ((τ 140 45) - 1)), some (vI 0), none] [] τ5 Q) ∧ (¬ (τ5 169 ((τ 140 45) - 1).toNat) = 0 → M0 E d qX11_isWord [vR 140, vL 7237492] τ5 (fun v τ10 => ∃ b11 : Bool, v = some (vB b11) ∧ ((b11 = false → V0 E (d + 1) qX11_operand 60 [some (vR 140), some (vI ((τ 140 45) - 1)), some (vI 1), none] [] τ10 Q) ∧ (b11 = true → M0 E d qX11_holdsBack [vR 140, vI 22] τ10 (fun v τ12 => v = none ∧ M0 E d qX11_ahead [vR 140] τ12 (fun v τ13 => v = none ∧ Q (some (vB false)) τ13))))))))))) : V0 E (d + 1) qX11_operand 0 [some (vR 140), none, none, none] [] τ Q := by
  refine u_aload_n (i := 0) (pc' := 1) dX11_operand_0 rfl rfl rfl ?_
  refine u_getI (z := (τ 140 45)) (pc' := 4) dX11_operand_1 rfl fl_TuneDoorModel_149 rfl (by decide) (by decide) kd_140 rfl (fun r1 => ?_)
  refine u_iconst (pc' := 5) dX11_operand_4 rfl ?_
  refine u_isub (pc' := 6) dX11_operand_5 rfl ?_
  refine s_istore_n (i := 1) (ls' := [some (vR 140), some (vI ((τ 140 45) - 1)), none, none]) (pc' := 7) dX11_operand_6 rfl rfl (Nat.le_of_ble_eq_true rfl) rfl rfl ?_
  refine u_aload_n (i := 0) (pc' := 8) dX11_operand_7 rfl rfl rfl ?_
  refine u_getR (a := 167) (pc' := 11) dX11_operand_8 rfl fl_TuneDoorModel_133 rfl (by decide) kd_140 rfl ?_
  refine u_iload_n (i := 1) (pc' := 12) dX11_operand_11 rfl rfl rfl ?_
  obtain ⟨c2, c3, h⟩ := h
  refine u_iaload (k := ((τ 140 45) - 1).toNat) (z := (τ 167 ((τ 140 45) - 1).toNat)) (pc' := 13) dX11_operand_12 rfl (by decide) kd_167 c2 c3 (by decide) rfl rfl (fun r4 => ?_)
  refine u_invS (q' := qX11_isTest) (As := [vI (τ 167 ((τ 140 45) - 1).toNat)]) (st := []) (pc' := 16) dX11_operand_13 rfl gX11_isTest wm_1582 wm_1583 rfl (Nat.le_of_ble_eq_true rfl) (M0.mono h (fun v τ5 h => ?_))
  obtain ⟨b6, rfl, h⟩ := h
  show V0 E (d + 1) qX11_operand 16 [some (vR 140), some (vI ((τ 140 45) - 1)), none, none] [vB b6] τ5 Q
  refine u_if_eq (tgt := 32) (pc' := 19) dX11_operand_16 rfl (by decide) (bI_R _) (fun hb => ?_) (fun hb => ?_)
  · have h := h.1 (bI_0.mp hb)
    refine u_iconst (pc' := 33) dX11_operand_32 rfl ?_
    refine s_istore_n (i := 2) (ls' := [some (vR 140), some (vI ((τ 140 45) - 1)), some (vI 0), none]) (pc' := 34) dX11_operand_33 rfl rfl (Nat.le_of_ble_eq_true rfl) rfl rfl ?_
    refine u_iload_n (i := 2) (pc' := 35) dX11_operand_34 rfl rfl rfl ?_
    refine u_if_eq (tgt := 60) (pc' := 38) dX11_operand_35 rfl (by decide) ⟨by decide, by decide⟩ (fun _ => ?_) (fun hb => absurd hb (by decide))
    exact u_less (ls' := [some (vR 140), some (vI ((τ 140 45) - 1)), some (vI 0), none]) ⟨rfl, ⟨rfl, ⟨rfl, trivial⟩⟩⟩ h
  · have h := h.2 (bI_n0.mp hb)
    refine u_aload_n (i := 0) (pc' := 20) dX11_operand_19 rfl rfl rfl ?_
    refine u_getR (a := 169) (pc' := 23) dX11_operand_20 rfl fl_TuneDoorModel_139 rfl (by decide) kd_140 rfl ?_
    refine u_iload_n (i := 1) (pc' := 24) dX11_operand_23 rfl rfl rfl ?_
    obtain ⟨c7, c8, h⟩ := h
    refine u_baload (k := ((τ 140 45) - 1).toNat) (z := (τ5 169 ((τ 140 45) - 1).toNat)) (pc' := 25) dX11_operand_24 rfl (by decide) kd_169 c7 c8 (by decide) rfl rfl (fun r9 => ?_)
    refine u_if_eq (tgt := 32) (pc' := 28) dX11_operand_25 rfl (by decide) r9 (fun hb => ?_) (fun hb => ?_)
    · have h := h.1 hb
      refine u_iconst (pc' := 33) dX11_operand_32 rfl ?_
      refine s_istore_n (i := 2) (ls' := [some (vR 140), some (vI ((τ 140 45) - 1)), some (vI 0), none]) (pc' := 34) dX11_operand_33 rfl rfl (Nat.le_of_ble_eq_true rfl) rfl rfl ?_
      refine u_iload_n (i := 2) (pc' := 35) dX11_operand_34 rfl rfl rfl ?_
      refine u_if_eq (tgt := 60) (pc' := 38) dX11_operand_35 rfl (by decide) ⟨by decide, by decide⟩ (fun _ => ?_) (fun hb => absurd hb (by decide))
      exact u_less (ls' := [some (vR 140), some (vI ((τ 140 45) - 1)), some (vI 0), none]) ⟨rfl, ⟨rfl, ⟨rfl, trivial⟩⟩⟩ h
    · have h := h.2 hb
      refine u_iconst (pc' := 29) dX11_operand_28 rfl ?_
      refine u_goto (tgt := 33) dX11_operand_29 (by decide) ?_
      refine s_istore_n (i := 2) (ls' := [some (vR 140), some (vI ((τ 140 45) - 1)), some (vI 1), none]) (pc' := 34) dX11_operand_33 rfl rfl (Nat.le_of_ble_eq_true rfl) rfl rfl ?_
      refine u_iload_n (i := 2) (pc' := 35) dX11_operand_34 rfl rfl rfl ?_
      refine u_if_eq (tgt := 60) (pc' := 38) dX11_operand_35 rfl (by decide) ⟨by decide, by decide⟩ (fun hb => absurd hb (by decide)) (fun _ => ?_)
      refine u_aload_n (i := 0) (pc' := 39) dX11_operand_38 rfl rfl rfl ?_
      refine u_ldc2 (z := 7237492) (pc' := 42) dX11_operand_39 rfl wm_1549 (by decide) ?_
      refine u_invV (q' := qX11_isWord) (As := [vL 7237492]) (st := []) (pc' := 45) dX11_operand_42 rfl gX11_isWord wm_1487 rfl rfl (by decide) kd_140 wm_1489 wp_77 rfl (Nat.le_of_ble_eq_true rfl) (M0.mono h (fun v τ10 h => ?_))
      obtain ⟨b11, rfl, h⟩ := h
      show V0 E (d + 1) qX11_operand 45 [some (vR 140), some (vI ((τ 140 45) - 1)), some (vI 1), none] [vB b11] τ10 Q
      refine u_if_eq (tgt := 60) (pc' := 48) dX11_operand_45 rfl (by decide) (bI_R _) (fun hb => ?_) (fun hb => ?_)
      · have h := h.1 (bI_0.mp hb)
        exact u_less (ls' := [some (vR 140), some (vI ((τ 140 45) - 1)), some (vI 1), none]) ⟨rfl, ⟨rfl, ⟨rfl, trivial⟩⟩⟩ h
      · have h := h.2 (bI_n0.mp hb)
        refine u_aload_n (i := 0) (pc' := 49) dX11_operand_48 rfl rfl rfl ?_
        refine u_bipush (pc' := 51) dX11_operand_49 rfl (by decide) ?_
        refine u_invV (q' := qX11_holdsBack) (As := [vI 22]) (st := []) (pc' := 54) dX11_operand_51 rfl gX11_holdsBack wm_1585 rfl rfl (by decide) kd_140 wm_1587 wp_93 rfl (Nat.le_of_ble_eq_true rfl) (M0.mono h (fun v τ12 h => ?_))
        obtain ⟨rfl, h⟩ := h
        show V0 E (d + 1) qX11_operand 54 [some (vR 140), some (vI ((τ 140 45) - 1)), some (vI 1), none] [] τ12 Q
        refine u_aload_n (i := 0) (pc' := 55) dX11_operand_54 rfl rfl rfl ?_
        refine u_invV (q' := qX11_ahead) (As := []) (st := []) (pc' := 58) dX11_operand_55 rfl gX11_ahead wm_1468 rfl rfl (by decide) kd_140 wm_1470 wp_74 rfl (Nat.le_of_ble_eq_true rfl) (M0.mono h (fun v τ13 h => ?_))
        obtain ⟨rfl, h⟩ := h
        show V0 E (d + 1) qX11_operand 58 [some (vR 140), some (vI ((τ 140 45) - 1)), some (vI 1), none] [] τ13 Q
        refine u_iconst (pc' := 59) dX11_operand_58 rfl ?_
        exact u_zret (b := false) dX11_operand_59 rfl rfl h
theorem mX11_operand {E : mm_Env} {d : Nat} {τ : mm_Mem} {Q : mm_Q0}  (h : 0 ≤ ((τ 140 45) - 1) ∧ ((τ 140 45) - 1) < 20 ∧ M0 E d qX11_isTest [vI (τ 167 ((τ 140 45) - 1).toNat)] τ (fun v τ5 => ∃ b6 : Bool, v = some (vB b6) ∧ ((b6 = false → V0 E (d + 1) qX11_operand 60 [some (vR 140), some (vI ((τ 140 45) - 1)), some (vI 0), none] [] τ5 Q) ∧ (b6 = true → 0 ≤ ((τ 140 45) - 1) ∧ ((τ 140 45) - 1) < 20 ∧ (((τ5 169 ((τ 140 45) - 1).toNat) = 0 → V0 E (d + 1) qX11_operand 60 [some (vR 140), some (vI ((τ 140 45) - 1)), some (vI 0), none] [] τ5 Q) ∧ (¬ (τ5 169 ((τ 140 45) - 1).toNat) = 0 → M0 E d qX11_isWord [vR 140, vL 7237492] τ5 (fun v τ10 => ∃ b11 : Bool, v = some (vB b11) ∧ ((b11 = false → V0 E (d + 1) qX11_operand 60 [some (vR 140), some (vI ((τ 140 45) - 1)), some (vI 1), none] [] τ10 Q) ∧ (b11 = true → M0 E d qX11_holdsBack [vR 140, vI 22] τ10 (fun v τ12 => v = none ∧ M0 E d qX11_ahead [vR 140] τ12 (fun v τ13 => v = none ∧ Q (some (vB false)) τ13))))))))))) : M0 E (d + 1) qX11_operand [vR 140] τ Q := M0_of rfl (Nat.le_of_ble_eq_true rfl) [some (vR 140), none, none, none] rfl (bX11_operand_0  h)
set_option maxRecDepth 20000 in
theorem bX11_operand_60 {E : mm_Env} {d : Nat} {τ : mm_Mem} {Q : mm_Q0} {x1 : Int} {x2 : Int} (h : 0 ≤ x1 ∧ x1 < 20 ∧ inR x2 ∧ ((x2 = 0 → ((x2 = 0 → V0 E (d + 1) qX11_operand 121 [some (vR 140), none, none, none] [] (wr τ 169 x1.toNat 0) Q) ∧ (¬ x2 = 0 → M0 E d qX11_isWord [vR 140, vL 6384748] (wr τ 169 x1.toNat 0) (fun v τ4 => ∃ b5 : Bool, v = some (vB b5) ∧ ((b5 = false → V0 E (d + 1) qX11_operand 121 [some (vR 140), none, none, none] [] τ4 Q) ∧ (b5 = true → M0 E d qX11_add [vR 140, vI 9, vI 0] τ4 (fun v τ6 => v = none ∧ 0 ≤ x1 ∧ x1 < 20 ∧ M0 E d qX11_ahead [vR 140] (wr τ6 168 x1.toNat 2) (fun v τ9 => v = none ∧ Q (some (vB true)) τ9)))))))) ∧ (¬ x2 = 0 → M0 E d qX11_isSign [vR 140, vI 91] (wr τ 169 x1.toNat 0) (fun v τ10 => ∃ b11 : Bool, v = some (vB b11) ∧ ((b11 = false → ((x2 = 0 → V0 E (d + 1) qX11_operand 121 [some (vR 140), none, none, none] [] τ10 Q) ∧ (¬ x2 = 0 → M0 E d qX11_isWord [vR 140, vL 6384748] τ10 (fun v τ12 => ∃ b13 : Bool, v = some (vB b13) ∧ ((b13 = false → V0 E (d + 1) qX11_operand 121 [some (vR 140), none, none, none] [] τ12 Q) ∧ (b13 = true → M0 E d qX11_add [vR 140, vI 9, vI 0] τ12 (fun v τ14 => v = none ∧ 0 ≤ x1 ∧ x1 < 20 ∧ M0 E d qX11_ahead [vR 140] (wr τ14 168 x1.toNat 2) (fun v τ17 => v = none ∧ Q (some (vB true)) τ17)))))))) ∧ (b11 = true → M0 E d qX11_opens [vR 140, vI 5] τ10 (fun v τ18 => v = none ∧ Q (some (vB false)) τ18))))))) : V0 E (d + 1) qX11_operand 60 [some (vR 140), some (vI x1), some (vI x2), none] [] τ Q := by
  refine u_aload_n (i := 0) (pc' := 61) dX11_operand_60 rfl rfl rfl ?_
  refine u_getR (a := 169) (pc' := 64) dX11_operand_61 rfl fl_TuneDoorModel_139 rfl (by decide) kd_140 rfl ?_
  refine u_iload_n (i := 1) (pc' := 65) dX11_operand_64 rfl rfl rfl ?_
  refine u_iconst (pc' := 66) dX11_operand_65 rfl ?_
  obtain ⟨c1, c2, h⟩ := h
  refine u_bastore (k := x1.toNat) (b := false) (pc' := 67) dX11_operand_66 rfl (by decide) kd_169 c1 c2 (by decide) rfl rfl ?_
  refine u_iload_n (i := 2) (pc' := 68) dX11_operand_67 rfl rfl rfl ?_
  obtain ⟨c3, h⟩ := h
  refine u_if_eq (tgt := 87) (pc' := 71) dX11_operand_68 rfl (by decide) c3 (fun hb => ?_) (fun hb => ?_)
  · have h := h.1 hb
    refine u_iload_n (i := 2) (pc' := 88) dX11_operand_87 rfl rfl rfl ?_
    refine u_if_eq (tgt := 121) (pc' := 91) dX11_operand_88 rfl (by decide) c3 (fun hb => ?_) (fun hb => ?_)
    · have h := h.1 hb
      exact u_less (ls' := [some (vR 140), none, none, none]) ⟨rfl, trivial⟩ h
    · have h := h.2 hb
      refine u_aload_n (i := 0) (pc' := 92) dX11_operand_91 rfl rfl rfl ?_
      refine u_ldc2 (z := 6384748) (pc' := 95) dX11_operand_92 rfl wm_1550 (by decide) ?_
      refine u_invV (q' := qX11_isWord) (As := [vL 6384748]) (st := []) (pc' := 98) dX11_operand_95 rfl gX11_isWord wm_1487 rfl rfl (by decide) kd_140 wm_1489 wp_77 rfl (Nat.le_of_ble_eq_true rfl) (M0.mono h (fun v τ4 h => ?_))
      obtain ⟨b5, rfl, h⟩ := h
      show V0 E (d + 1) qX11_operand 98 [some (vR 140), some (vI x1), some (vI x2), none] [vB b5] τ4 Q
      refine u_if_eq (tgt := 121) (pc' := 101) dX11_operand_98 rfl (by decide) (bI_R _) (fun hb => ?_) (fun hb => ?_)
      · have h := h.1 (bI_0.mp hb)
        exact u_less (ls' := [some (vR 140), none, none, none]) ⟨rfl, trivial⟩ h
      · have h := h.2 (bI_n0.mp hb)
        refine u_aload_n (i := 0) (pc' := 102) dX11_operand_101 rfl rfl rfl ?_
        refine u_bipush (pc' := 104) dX11_operand_102 rfl (by decide) ?_
        refine u_iconst (pc' := 105) dX11_operand_104 rfl ?_
        refine u_invV (q' := qX11_add) (As := [vI 9, vI 0]) (st := []) (pc' := 108) dX11_operand_105 rfl gX11_add wm_1593 rfl rfl (by decide) kd_140 wm_1595 wp_95 rfl (Nat.le_of_ble_eq_true rfl) (M0.mono h (fun v τ6 h => ?_))
        obtain ⟨rfl, h⟩ := h
        show V0 E (d + 1) qX11_operand 108 [some (vR 140), some (vI x1), some (vI x2), none] [] τ6 Q
        refine u_aload_n (i := 0) (pc' := 109) dX11_operand_108 rfl rfl rfl ?_
        refine u_getR (a := 168) (pc' := 112) dX11_operand_109 rfl fl_TuneDoorModel_136 rfl (by decide) kd_140 rfl ?_
        refine u_iload_n (i := 1) (pc' := 113) dX11_operand_112 rfl rfl rfl ?_
        refine u_iconst (pc' := 114) dX11_operand_113 rfl ?_
        obtain ⟨c7, c8, h⟩ := h
        refine u_iastore (k := x1.toNat) (pc' := 115) dX11_operand_114 rfl (by decide) kd_168 c7 c8 (by decide) rfl ⟨by decide, by decide⟩ ?_
        refine u_aload_n (i := 0) (pc' := 116) dX11_operand_115 rfl rfl rfl ?_
        refine u_invV (q' := qX11_ahead) (As := []) (st := []) (pc' := 119) dX11_operand_116 rfl gX11_ahead wm_1468 rfl rfl (by decide) kd_140 wm_1470 wp_74 rfl (Nat.le_of_ble_eq_true rfl) (M0.mono h (fun v τ9 h => ?_))
        obtain ⟨rfl, h⟩ := h
        show V0 E (d + 1) qX11_operand 119 [some (vR 140), some (vI x1), some (vI x2), none] [] τ9 Q
        refine u_iconst (pc' := 120) dX11_operand_119 rfl ?_
        exact u_zret (b := true) dX11_operand_120 rfl rfl h
  · have h := h.2 hb
    refine u_aload_n (i := 0) (pc' := 72) dX11_operand_71 rfl rfl rfl ?_
    refine u_bipush (pc' := 74) dX11_operand_72 rfl (by decide) ?_
    refine u_invV (q' := qX11_isSign) (As := [vI 91]) (st := []) (pc' := 77) dX11_operand_74 rfl gX11_isSign wm_1507 rfl rfl (by decide) kd_140 wm_1509 wp_81 rfl (Nat.le_of_ble_eq_true rfl) (M0.mono h (fun v τ10 h => ?_))
    obtain ⟨b11, rfl, h⟩ := h
    show V0 E (d + 1) qX11_operand 77 [some (vR 140), some (vI x1), some (vI x2), none] [vB b11] τ10 Q
    refine u_if_eq (tgt := 87) (pc' := 80) dX11_operand_77 rfl (by decide) (bI_R _) (fun hb => ?_) (fun hb => ?_)
    · have h := h.1 (bI_0.mp hb)
      refine u_iload_n (i := 2) (pc' := 88) dX11_operand_87 rfl rfl rfl ?_
      refine u_if_eq (tgt := 121) (pc' := 91) dX11_operand_88 rfl (by decide) c3 (fun hb => ?_) (fun hb => ?_)
      · have h := h.1 hb
        exact u_less (ls' := [some (vR 140), none, none, none]) ⟨rfl, trivial⟩ h
      · have h := h.2 hb
        refine u_aload_n (i := 0) (pc' := 92) dX11_operand_91 rfl rfl rfl ?_
        refine u_ldc2 (z := 6384748) (pc' := 95) dX11_operand_92 rfl wm_1550 (by decide) ?_
        refine u_invV (q' := qX11_isWord) (As := [vL 6384748]) (st := []) (pc' := 98) dX11_operand_95 rfl gX11_isWord wm_1487 rfl rfl (by decide) kd_140 wm_1489 wp_77 rfl (Nat.le_of_ble_eq_true rfl) (M0.mono h (fun v τ12 h => ?_))
        obtain ⟨b13, rfl, h⟩ := h
        show V0 E (d + 1) qX11_operand 98 [some (vR 140), some (vI x1), some (vI x2), none] [vB b13] τ12 Q
        refine u_if_eq (tgt := 121) (pc' := 101) dX11_operand_98 rfl (by decide) (bI_R _) (fun hb => ?_) (fun hb => ?_)
        · have h := h.1 (bI_0.mp hb)
          exact u_less (ls' := [some (vR 140), none, none, none]) ⟨rfl, trivial⟩ h
        · have h := h.2 (bI_n0.mp hb)
          refine u_aload_n (i := 0) (pc' := 102) dX11_operand_101 rfl rfl rfl ?_
          refine u_bipush (pc' := 104) dX11_operand_102 rfl (by decide) ?_
          refine u_iconst (pc' := 105) dX11_operand_104 rfl ?_
          refine u_invV (q' := qX11_add) (As := [vI 9, vI 0]) (st := []) (pc' := 108) dX11_operand_105 rfl gX11_add wm_1593 rfl rfl (by decide) kd_140 wm_1595 wp_95 rfl (Nat.le_of_ble_eq_true rfl) (M0.mono h (fun v τ14 h => ?_))
          obtain ⟨rfl, h⟩ := h
          show V0 E (d + 1) qX11_operand 108 [some (vR 140), some (vI x1), some (vI x2), none] [] τ14 Q
          refine u_aload_n (i := 0) (pc' := 109) dX11_operand_108 rfl rfl rfl ?_
          refine u_getR (a := 168) (pc' := 112) dX11_operand_109 rfl fl_TuneDoorModel_136 rfl (by decide) kd_140 rfl ?_
          refine u_iload_n (i := 1) (pc' := 113) dX11_operand_112 rfl rfl rfl ?_
          refine u_iconst (pc' := 114) dX11_operand_113 rfl ?_
          obtain ⟨c15, c16, h⟩ := h
          refine u_iastore (k := x1.toNat) (pc' := 115) dX11_operand_114 rfl (by decide) kd_168 c15 c16 (by decide) rfl ⟨by decide, by decide⟩ ?_
          refine u_aload_n (i := 0) (pc' := 116) dX11_operand_115 rfl rfl rfl ?_
          refine u_invV (q' := qX11_ahead) (As := []) (st := []) (pc' := 119) dX11_operand_116 rfl gX11_ahead wm_1468 rfl rfl (by decide) kd_140 wm_1470 wp_74 rfl (Nat.le_of_ble_eq_true rfl) (M0.mono h (fun v τ17 h => ?_))
          obtain ⟨rfl, h⟩ := h
          show V0 E (d + 1) qX11_operand 119 [some (vR 140), some (vI x1), some (vI x2), none] [] τ17 Q
          refine u_iconst (pc' := 120) dX11_operand_119 rfl ?_
          exact u_zret (b := true) dX11_operand_120 rfl rfl h
    · have h := h.2 (bI_n0.mp hb)
      refine u_aload_n (i := 0) (pc' := 81) dX11_operand_80 rfl rfl rfl ?_
      refine u_iconst (pc' := 82) dX11_operand_81 rfl ?_
      refine u_invV (q' := qX11_opens) (As := [vI 5]) (st := []) (pc' := 85) dX11_operand_82 rfl gX11_opens wm_1589 rfl rfl (by decide) kd_140 wm_1591 wp_94 rfl (Nat.le_of_ble_eq_true rfl) (M0.mono h (fun v τ18 h => ?_))
      obtain ⟨rfl, h⟩ := h
      show V0 E (d + 1) qX11_operand 85 [some (vR 140), some (vI x1), some (vI x2), none] [] τ18 Q
      refine u_iconst (pc' := 86) dX11_operand_85 rfl ?_
      exact u_zret (b := false) dX11_operand_86 rfl rfl h
set_option maxRecDepth 20000 in
theorem bX11_operand_121 {E : mm_Env} {d : Nat} {τ : mm_Mem} {Q : mm_Q0}  (h : M0 E d qX11_isSign [vR 140, vI 40] τ (fun v τ1 => ∃ b2 : Bool, v = some (vB b2) ∧ ((b2 = false → M0 E d qX11_isWord [vR 140, vL 7170414] τ1 (fun v τ3 => ∃ b4 : Bool, v = some (vB b4) ∧ ((b4 = true → M0 E d qX11_isWord [vR 140, vL 7170414] τ3 (fun v τ5 => ∃ b6 : Bool, v = some (vB b6) ∧ ((b6 = false → V0 E (d + 1) qX11_operand 174 [some (vR 140), none, none, none] [vI 16] τ5 Q) ∧ (b6 = true → V0 E (d + 1) qX11_operand 174 [some (vR 140), none, none, none] [vI 15] τ5 Q)))) ∧ (b4 = false → M0 E d qX11_isWord [vR 140, vL 7168376] τ3 (fun v τ7 => ∃ b8 : Bool, v = some (vB b8) ∧ ((b8 = false → (((τ7 140 3) ≠ 2 → M0 E d qX11_isWord [vR 140, vL 7566701] τ7 (fun v τ10 => ∃ b11 : Bool, v = some (vB b11) ∧ ((b11 = false → M0 E d qX11_isWord [vR 140, vL 439855772532] τ10 (fun v τ12 => ∃ b13 : Bool, v = some (vB b13) ∧ ((b13 = false → M0 E d qX11_isWord [vR 140, vL 1818325876] τ12 (fun v τ14 => ∃ b15 : Bool, v = some (vB b15) ∧ ((b15 = false → M0 E d qX11_isWord [vR 140, vL 7302244] τ14 (fun v τ16 => ∃ b17 : Bool, v = some (vB b17) ∧ ((b17 = false → M0 E d qX11_isWord [vR 140, vL 1751478885] τ16 (fun v τ18 => ∃ b19 : Bool, v = some (vB b19) ∧ ((b19 = false → M0 E d qX11_isWord [vR 140, vL 1801810036] τ18 (fun v τ20 => ∃ b21 : Bool, v = some (vB b21) ∧ ((b21 = false → V0 E (d + 1) qX11_operand 321 [some (vR 140), none, none, none] [vI (-1)] τ20 Q) ∧ (b21 = true → V0 E (d + 1) qX11_operand 321 [some (vR 140), none, none, none] [vI 6] τ20 Q)))) ∧ (b19 = true → V0 E (d + 1) qX11_operand 321 [some (vR 140), none, none, none] [vI 5] τ18 Q)))) ∧ (b17 = true → V0 E (d + 1) qX11_operand 321 [some (vR 140), none, none, none] [vI 4] τ16 Q)))) ∧ (b15 = true → V0 E (d + 1) qX11_operand 321 [some (vR 140), none, none, none] [vI 3] τ14 Q)))) ∧ (b13 = true → V0 E (d + 1) qX11_operand 321 [some (vR 140), none, none, none] [vI 2] τ12 Q)))) ∧ (b11 = true → V0 E (d + 1) qX11_operand 321 [some (vR 140), none, none, none] [vI 1] τ10 Q)))) ∧ ((τ7 140 3) = 2 → V0 E (d + 1) qX11_operand 321 [some (vR 140), none, none, none] [vI 0] τ7 Q))) ∧ (b8 = true → M0 E d qX11_isWord [vR 140, vL 7170414] τ7 (fun v τ22 => ∃ b23 : Bool, v = some (vB b23) ∧ ((b23 = false → V0 E (d + 1) qX11_operand 174 [some (vR 140), none, none, none] [vI 16] τ22 Q) ∧ (b23 = true → V0 E (d + 1) qX11_operand 174 [some (vR 140), none, none, none] [vI 15] τ22 Q)))))))))) ∧ (b2 = true → M0 E d qX11_opens [vR 140, vI 2] τ1 (fun v τ24 => v = none ∧ Q (some (vB false)) τ24))))) : V0 E (d + 1) qX11_operand 121 [some (vR 140), none, none, none] [] τ Q := by
  refine u_aload_n (i := 0) (pc' := 122) dX11_operand_121 rfl rfl rfl ?_
  refine u_bipush (pc' := 124) dX11_operand_122 rfl (by decide) ?_
  refine u_invV (q' := qX11_isSign) (As := [vI 40]) (st := []) (pc' := 127) dX11_operand_124 rfl gX11_isSign wm_1507 rfl rfl (by decide) kd_140 wm_1509 wp_81 rfl (Nat.le_of_ble_eq_true rfl) (M0.mono h (fun v τ1 h => ?_))
  obtain ⟨b2, rfl, h⟩ := h
  show V0 E (d + 1) qX11_operand 127 [some (vR 140), none, none, none] [vB b2] τ1 Q
  refine u_if_eq (tgt := 137) (pc' := 130) dX11_operand_127 rfl (by decide) (bI_R _) (fun hb => ?_) (fun hb => ?_)
  · have h := h.1 (bI_0.mp hb)
    refine u_aload_n (i := 0) (pc' := 138) dX11_operand_137 rfl rfl rfl ?_
    refine u_ldc2 (z := 7170414) (pc' := 141) dX11_operand_138 rfl wm_1556 (by decide) ?_
    refine u_invV (q' := qX11_isWord) (As := [vL 7170414]) (st := []) (pc' := 144) dX11_operand_141 rfl gX11_isWord wm_1487 rfl rfl (by decide) kd_140 wm_1489 wp_77 rfl (Nat.le_of_ble_eq_true rfl) (M0.mono h (fun v τ3 h => ?_))
    obtain ⟨b4, rfl, h⟩ := h
    show V0 E (d + 1) qX11_operand 144 [some (vR 140), none, none, none] [vB b4] τ3 Q
    refine u_if_ne (tgt := 157) (pc' := 147) dX11_operand_144 rfl (by decide) (bI_R _) (fun hb => ?_) (fun hb => ?_)
    · have h := h.1 (bI_n0.mp hb)
      refine u_aload_n (i := 0) (pc' := 158) dX11_operand_157 rfl rfl rfl ?_
      refine u_ldc2 (z := 7170414) (pc' := 161) dX11_operand_158 rfl wm_1556 (by decide) ?_
      refine u_invV (q' := qX11_isWord) (As := [vL 7170414]) (st := []) (pc' := 164) dX11_operand_161 rfl gX11_isWord wm_1487 rfl rfl (by decide) kd_140 wm_1489 wp_77 rfl (Nat.le_of_ble_eq_true rfl) (M0.mono h (fun v τ5 h => ?_))
      obtain ⟨b6, rfl, h⟩ := h
      show V0 E (d + 1) qX11_operand 164 [some (vR 140), none, none, none] [vB b6] τ5 Q
      refine u_if_eq (tgt := 172) (pc' := 167) dX11_operand_164 rfl (by decide) (bI_R _) (fun hb => ?_) (fun hb => ?_)
      · have h := h.1 (bI_0.mp hb)
        refine u_bipush (pc' := 174) dX11_operand_172 rfl (by decide) ?_
        exact u_less (ls' := [some (vR 140), none, none, none]) ⟨rfl, trivial⟩ h
      · have h := h.2 (bI_n0.mp hb)
        refine u_bipush (pc' := 169) dX11_operand_167 rfl (by decide) ?_
        refine u_goto (tgt := 174) dX11_operand_169 (by decide) ?_
        exact u_less (ls' := [some (vR 140), none, none, none]) ⟨rfl, trivial⟩ h
    · have h := h.2 (bI_0.mp hb)
      refine u_aload_n (i := 0) (pc' := 148) dX11_operand_147 rfl rfl rfl ?_
      refine u_ldc2 (z := 7168376) (pc' := 151) dX11_operand_148 rfl wm_1557 (by decide) ?_
      refine u_invV (q' := qX11_isWord) (As := [vL 7168376]) (st := []) (pc' := 154) dX11_operand_151 rfl gX11_isWord wm_1487 rfl rfl (by decide) kd_140 wm_1489 wp_77 rfl (Nat.le_of_ble_eq_true rfl) (M0.mono h (fun v τ7 h => ?_))
      obtain ⟨b8, rfl, h⟩ := h
      show V0 E (d + 1) qX11_operand 154 [some (vR 140), none, none, none] [vB b8] τ7 Q
      refine u_if_eq (tgt := 223) (pc' := 157) dX11_operand_154 rfl (by decide) (bI_R _) (fun hb => ?_) (fun hb => ?_)
      · have h := h.1 (bI_0.mp hb)
        refine u_aload_n (i := 0) (pc' := 224) dX11_operand_223 rfl rfl rfl ?_
        refine u_getI (z := (τ7 140 3)) (pc' := 227) dX11_operand_224 rfl fl_TuneDoorModel_20 rfl (by decide) (by decide) kd_140 rfl (fun r9 => ?_)
        refine u_iconst (pc' := 228) dX11_operand_227 rfl ?_
        refine u_icmp_ne (tgt := 235) (pc' := 231) dX11_operand_228 rfl (by decide) r9 ⟨by decide, by decide⟩ (fun hb => ?_) (fun hb => ?_)
        · have h := h.1 hb
          refine u_aload_n (i := 0) (pc' := 236) dX11_operand_235 rfl rfl rfl ?_
          refine u_ldc2 (z := 7566701) (pc' := 239) dX11_operand_236 rfl wm_1551 (by decide) ?_
          refine u_invV (q' := qX11_isWord) (As := [vL 7566701]) (st := []) (pc' := 242) dX11_operand_239 rfl gX11_isWord wm_1487 rfl rfl (by decide) kd_140 wm_1489 wp_77 rfl (Nat.le_of_ble_eq_true rfl) (M0.mono h (fun v τ10 h => ?_))
          obtain ⟨b11, rfl, h⟩ := h
          show V0 E (d + 1) qX11_operand 242 [some (vR 140), none, none, none] [vB b11] τ10 Q
          refine u_if_eq (tgt := 249) (pc' := 245) dX11_operand_242 rfl (by decide) (bI_R _) (fun hb => ?_) (fun hb => ?_)
          · have h := h.1 (bI_0.mp hb)
            refine u_aload_n (i := 0) (pc' := 250) dX11_operand_249 rfl rfl rfl ?_
            refine u_ldc2 (z := 439855772532) (pc' := 253) dX11_operand_250 rfl wm_1552 (by decide) ?_
            refine u_invV (q' := qX11_isWord) (As := [vL 439855772532]) (st := []) (pc' := 256) dX11_operand_253 rfl gX11_isWord wm_1487 rfl rfl (by decide) kd_140 wm_1489 wp_77 rfl (Nat.le_of_ble_eq_true rfl) (M0.mono h (fun v τ12 h => ?_))
            obtain ⟨b13, rfl, h⟩ := h
            show V0 E (d + 1) qX11_operand 256 [some (vR 140), none, none, none] [vB b13] τ12 Q
            refine u_if_eq (tgt := 263) (pc' := 259) dX11_operand_256 rfl (by decide) (bI_R _) (fun hb => ?_) (fun hb => ?_)
            · have h := h.1 (bI_0.mp hb)
              refine u_aload_n (i := 0) (pc' := 264) dX11_operand_263 rfl rfl rfl ?_
              refine u_ldc2 (z := 1818325876) (pc' := 267) dX11_operand_264 rfl wm_1553 (by decide) ?_
              refine u_invV (q' := qX11_isWord) (As := [vL 1818325876]) (st := []) (pc' := 270) dX11_operand_267 rfl gX11_isWord wm_1487 rfl rfl (by decide) kd_140 wm_1489 wp_77 rfl (Nat.le_of_ble_eq_true rfl) (M0.mono h (fun v τ14 h => ?_))
              obtain ⟨b15, rfl, h⟩ := h
              show V0 E (d + 1) qX11_operand 270 [some (vR 140), none, none, none] [vB b15] τ14 Q
              refine u_if_eq (tgt := 277) (pc' := 273) dX11_operand_270 rfl (by decide) (bI_R _) (fun hb => ?_) (fun hb => ?_)
              · have h := h.1 (bI_0.mp hb)
                refine u_aload_n (i := 0) (pc' := 278) dX11_operand_277 rfl rfl rfl ?_
                refine u_ldc2 (z := 7302244) (pc' := 281) dX11_operand_278 rfl wm_1554 (by decide) ?_
                refine u_invV (q' := qX11_isWord) (As := [vL 7302244]) (st := []) (pc' := 284) dX11_operand_281 rfl gX11_isWord wm_1487 rfl rfl (by decide) kd_140 wm_1489 wp_77 rfl (Nat.le_of_ble_eq_true rfl) (M0.mono h (fun v τ16 h => ?_))
                obtain ⟨b17, rfl, h⟩ := h
                show V0 E (d + 1) qX11_operand 284 [some (vR 140), none, none, none] [vB b17] τ16 Q
                refine u_if_eq (tgt := 291) (pc' := 287) dX11_operand_284 rfl (by decide) (bI_R _) (fun hb => ?_) (fun hb => ?_)
                · have h := h.1 (bI_0.mp hb)
                  refine u_aload_n (i := 0) (pc' := 292) dX11_operand_291 rfl rfl rfl ?_
                  refine u_ldc2 (z := 1751478885) (pc' := 295) dX11_operand_292 rfl wm_1555 (by decide) ?_
                  refine u_invV (q' := qX11_isWord) (As := [vL 1751478885]) (st := []) (pc' := 298) dX11_operand_295 rfl gX11_isWord wm_1487 rfl rfl (by decide) kd_140 wm_1489 wp_77 rfl (Nat.le_of_ble_eq_true rfl) (M0.mono h (fun v τ18 h => ?_))
                  obtain ⟨b19, rfl, h⟩ := h
                  show V0 E (d + 1) qX11_operand 298 [some (vR 140), none, none, none] [vB b19] τ18 Q
                  refine u_if_eq (tgt := 305) (pc' := 301) dX11_operand_298 rfl (by decide) (bI_R _) (fun hb => ?_) (fun hb => ?_)
                  · have h := h.1 (bI_0.mp hb)
                    refine u_aload_n (i := 0) (pc' := 306) dX11_operand_305 rfl rfl rfl ?_
                    refine u_ldc2 (z := 1801810036) (pc' := 309) dX11_operand_306 rfl wm_1535 (by decide) ?_
                    refine u_invV (q' := qX11_isWord) (As := [vL 1801810036]) (st := []) (pc' := 312) dX11_operand_309 rfl gX11_isWord wm_1487 rfl rfl (by decide) kd_140 wm_1489 wp_77 rfl (Nat.le_of_ble_eq_true rfl) (M0.mono h (fun v τ20 h => ?_))
                    obtain ⟨b21, rfl, h⟩ := h
                    show V0 E (d + 1) qX11_operand 312 [some (vR 140), none, none, none] [vB b21] τ20 Q
                    refine u_if_eq (tgt := 320) (pc' := 315) dX11_operand_312 rfl (by decide) (bI_R _) (fun hb => ?_) (fun hb => ?_)
                    · have h := h.1 (bI_0.mp hb)
                      refine u_iconst (pc' := 321) dX11_operand_320 rfl ?_
                      exact u_less (ls' := [some (vR 140), none, none, none]) ⟨rfl, trivial⟩ h
                    · have h := h.2 (bI_n0.mp hb)
                      refine u_bipush (pc' := 317) dX11_operand_315 rfl (by decide) ?_
                      refine u_goto (tgt := 321) dX11_operand_317 (by decide) ?_
                      exact u_less (ls' := [some (vR 140), none, none, none]) ⟨rfl, trivial⟩ h
                  · have h := h.2 (bI_n0.mp hb)
                    refine u_iconst (pc' := 302) dX11_operand_301 rfl ?_
                    refine u_goto (tgt := 321) dX11_operand_302 (by decide) ?_
                    exact u_less (ls' := [some (vR 140), none, none, none]) ⟨rfl, trivial⟩ h
                · have h := h.2 (bI_n0.mp hb)
                  refine u_iconst (pc' := 288) dX11_operand_287 rfl ?_
                  refine u_goto (tgt := 321) dX11_operand_288 (by decide) ?_
                  exact u_less (ls' := [some (vR 140), none, none, none]) ⟨rfl, trivial⟩ h
              · have h := h.2 (bI_n0.mp hb)
                refine u_iconst (pc' := 274) dX11_operand_273 rfl ?_
                refine u_goto (tgt := 321) dX11_operand_274 (by decide) ?_
                exact u_less (ls' := [some (vR 140), none, none, none]) ⟨rfl, trivial⟩ h
            · have h := h.2 (bI_n0.mp hb)
              refine u_iconst (pc' := 260) dX11_operand_259 rfl ?_
              refine u_goto (tgt := 321) dX11_operand_260 (by decide) ?_
              exact u_less (ls' := [some (vR 140), none, none, none]) ⟨rfl, trivial⟩ h
          · have h := h.2 (bI_n0.mp hb)
            refine u_iconst (pc' := 246) dX11_operand_245 rfl ?_
            refine u_goto (tgt := 321) dX11_operand_246 (by decide) ?_
            exact u_less (ls' := [some (vR 140), none, none, none]) ⟨rfl, trivial⟩ h
        · have h := h.2 hb
          refine u_iconst (pc' := 232) dX11_operand_231 rfl ?_
          refine u_goto (tgt := 321) dX11_operand_232 (by decide) ?_
          exact u_less (ls' := [some (vR 140), none, none, none]) ⟨rfl, trivial⟩ h
      · have h := h.2 (bI_n0.mp hb)
        refine u_aload_n (i := 0) (pc' := 158) dX11_operand_157 rfl rfl rfl ?_
        refine u_ldc2 (z := 7170414) (pc' := 161) dX11_operand_158 rfl wm_1556 (by decide) ?_
        refine u_invV (q' := qX11_isWord) (As := [vL 7170414]) (st := []) (pc' := 164) dX11_operand_161 rfl gX11_isWord wm_1487 rfl rfl (by decide) kd_140 wm_1489 wp_77 rfl (Nat.le_of_ble_eq_true rfl) (M0.mono h (fun v τ22 h => ?_))
        obtain ⟨b23, rfl, h⟩ := h
        show V0 E (d + 1) qX11_operand 164 [some (vR 140), none, none, none] [vB b23] τ22 Q
        refine u_if_eq (tgt := 172) (pc' := 167) dX11_operand_164 rfl (by decide) (bI_R _) (fun hb => ?_) (fun hb => ?_)
        · have h := h.1 (bI_0.mp hb)
          refine u_bipush (pc' := 174) dX11_operand_172 rfl (by decide) ?_
          exact u_less (ls' := [some (vR 140), none, none, none]) ⟨rfl, trivial⟩ h
        · have h := h.2 (bI_n0.mp hb)
          refine u_bipush (pc' := 169) dX11_operand_167 rfl (by decide) ?_
          refine u_goto (tgt := 174) dX11_operand_169 (by decide) ?_
          exact u_less (ls' := [some (vR 140), none, none, none]) ⟨rfl, trivial⟩ h
  · have h := h.2 (bI_n0.mp hb)
    refine u_aload_n (i := 0) (pc' := 131) dX11_operand_130 rfl rfl rfl ?_
    refine u_iconst (pc' := 132) dX11_operand_131 rfl ?_
    refine u_invV (q' := qX11_opens) (As := [vI 2]) (st := []) (pc' := 135) dX11_operand_132 rfl gX11_opens wm_1589 rfl rfl (by decide) kd_140 wm_1591 wp_94 rfl (Nat.le_of_ble_eq_true rfl) (M0.mono h (fun v τ24 h => ?_))
    obtain ⟨rfl, h⟩ := h
    show V0 E (d + 1) qX11_operand 135 [some (vR 140), none, none, none] [] τ24 Q
    refine u_iconst (pc' := 136) dX11_operand_135 rfl ?_
    exact u_zret (b := false) dX11_operand_136 rfl rfl h
set_option maxRecDepth 20000 in
theorem bX11_operand_174 {E : mm_Env} {d : Nat} {τ : mm_Mem} {Q : mm_Q0} {y0 : Int} (h : M0 E d qX11_ahead [vR 140] τ (fun v τ1 => v = none ∧ M0 E d qX11_isSign [vR 140, vI 40] τ1 (fun v τ2 => ∃ b3 : Bool, v = some (vB b3) ∧ ((b3 = true → M0 E d qX11_opens [vR 140, vI 3] τ2 (fun v τ4 => v = none ∧ (((τ4 140 8) ≠ 0 → Q (some (vB false)) τ4) ∧ ((τ4 140 8) = 0 → 0 ≤ ((τ4 140 45) - 1) ∧ ((τ4 140 45) - 1) < 20 ∧ inR y0 ∧ Q (some (vB false)) (wr τ4 170 ((τ4 140 45) - 1).toNat y0))))) ∧ (b3 = false → M0 E d qX11_blame [vR 140, vI 1, vI (τ2 140 4)] τ2 (fun v τ11 => v = none ∧ M0 E d qX11_opens [vR 140, vI 3] τ11 (fun v τ12 => v = none ∧ (((τ12 140 8) ≠ 0 → Q (some (vB false)) τ12) ∧ ((τ12 140 8) = 0 → 0 ≤ ((τ12 140 45) - 1) ∧ ((τ12 140 45) - 1) < 20 ∧ inR y0 ∧ Q (some (vB false)) (wr τ12 170 ((τ12 140 45) - 1).toNat y0)))))))))) : V0 E (d + 1) qX11_operand 174 [some (vR 140), none, none, none] [vI y0] τ Q := by
  refine s_istore_n (i := 3) (ls' := [some (vR 140), none, none, some (vI y0)]) (pc' := 175) dX11_operand_174 rfl rfl (Nat.le_of_ble_eq_true rfl) rfl rfl ?_
  refine u_aload_n (i := 0) (pc' := 176) dX11_operand_175 rfl rfl rfl ?_
  refine u_invV (q' := qX11_ahead) (As := []) (st := []) (pc' := 179) dX11_operand_176 rfl gX11_ahead wm_1468 rfl rfl (by decide) kd_140 wm_1470 wp_74 rfl (Nat.le_of_ble_eq_true rfl) (M0.mono h (fun v τ1 h => ?_))
  obtain ⟨rfl, h⟩ := h
  show V0 E (d + 1) qX11_operand 179 [some (vR 140), none, none, some (vI y0)] [] τ1 Q
  refine u_aload_n (i := 0) (pc' := 180) dX11_operand_179 rfl rfl rfl ?_
  refine u_bipush (pc' := 182) dX11_operand_180 rfl (by decide) ?_
  refine u_invV (q' := qX11_isSign) (As := [vI 40]) (st := []) (pc' := 185) dX11_operand_182 rfl gX11_isSign wm_1507 rfl rfl (by decide) kd_140 wm_1509 wp_81 rfl (Nat.le_of_ble_eq_true rfl) (M0.mono h (fun v τ2 h => ?_))
  obtain ⟨b3, rfl, h⟩ := h
  show V0 E (d + 1) qX11_operand 185 [some (vR 140), none, none, some (vI y0)] [vB b3] τ2 Q
  refine u_if_ne (tgt := 197) (pc' := 188) dX11_operand_185 rfl (by decide) (bI_R _) (fun hb => ?_) (fun hb => ?_)
  · have h := h.1 (bI_n0.mp hb)
    refine u_aload_n (i := 0) (pc' := 198) dX11_operand_197 rfl rfl rfl ?_
    refine u_iconst (pc' := 199) dX11_operand_198 rfl ?_
    refine u_invV (q' := qX11_opens) (As := [vI 3]) (st := []) (pc' := 202) dX11_operand_199 rfl gX11_opens wm_1589 rfl rfl (by decide) kd_140 wm_1591 wp_94 rfl (Nat.le_of_ble_eq_true rfl) (M0.mono h (fun v τ4 h => ?_))
    obtain ⟨rfl, h⟩ := h
    show V0 E (d + 1) qX11_operand 202 [some (vR 140), none, none, some (vI y0)] [] τ4 Q
    refine u_aload_n (i := 0) (pc' := 203) dX11_operand_202 rfl rfl rfl ?_
    refine u_getI (z := (τ4 140 8)) (pc' := 206) dX11_operand_203 rfl fl_TuneDoorModel_36 rfl (by decide) (by decide) kd_140 rfl (fun r5 => ?_)
    refine u_if_ne (tgt := 221) (pc' := 209) dX11_operand_206 rfl (by decide) r5 (fun hb => ?_) (fun hb => ?_)
    · have h := h.1 hb
      refine u_iconst (pc' := 222) dX11_operand_221 rfl ?_
      exact u_zret (b := false) dX11_operand_222 rfl rfl h
    · have h := h.2 hb
      refine u_aload_n (i := 0) (pc' := 210) dX11_operand_209 rfl rfl rfl ?_
      refine u_getR (a := 170) (pc' := 213) dX11_operand_210 rfl fl_TuneDoorModel_143 rfl (by decide) kd_140 rfl ?_
      refine u_aload_n (i := 0) (pc' := 214) dX11_operand_213 rfl rfl rfl ?_
      refine u_getI (z := (τ4 140 45)) (pc' := 217) dX11_operand_214 rfl fl_TuneDoorModel_149 rfl (by decide) (by decide) kd_140 rfl (fun r6 => ?_)
      refine u_iconst (pc' := 218) dX11_operand_217 rfl ?_
      refine u_isub (pc' := 219) dX11_operand_218 rfl ?_
      refine u_iload_n (i := 3) (pc' := 220) dX11_operand_219 rfl rfl rfl ?_
      obtain ⟨c7, c8, c9, h⟩ := h
      refine u_iastore (k := ((τ4 140 45) - 1).toNat) (pc' := 221) dX11_operand_220 rfl (by decide) kd_170 c7 c8 (by decide) rfl c9 ?_
      refine u_iconst (pc' := 222) dX11_operand_221 rfl ?_
      exact u_zret (b := false) dX11_operand_222 rfl rfl h
  · have h := h.2 (bI_0.mp hb)
    refine u_aload_n (i := 0) (pc' := 189) dX11_operand_188 rfl rfl rfl ?_
    refine u_iconst (pc' := 190) dX11_operand_189 rfl ?_
    refine u_aload_n (i := 0) (pc' := 191) dX11_operand_190 rfl rfl rfl ?_
    refine u_getI (z := (τ2 140 4)) (pc' := 194) dX11_operand_191 rfl fl_TuneDoorModel_23 rfl (by decide) (by decide) kd_140 rfl (fun r10 => ?_)
    refine u_invV (q' := qX11_blame) (As := [vI 1, vI (τ2 140 4)]) (st := []) (pc' := 197) dX11_operand_194 rfl gX11_blame wm_1478 rfl rfl (by decide) kd_140 wm_1480 wp_75 rfl (Nat.le_of_ble_eq_true rfl) (M0.mono h (fun v τ11 h => ?_))
    obtain ⟨rfl, h⟩ := h
    show V0 E (d + 1) qX11_operand 197 [some (vR 140), none, none, some (vI y0)] [] τ11 Q
    refine u_aload_n (i := 0) (pc' := 198) dX11_operand_197 rfl rfl rfl ?_
    refine u_iconst (pc' := 199) dX11_operand_198 rfl ?_
    refine u_invV (q' := qX11_opens) (As := [vI 3]) (st := []) (pc' := 202) dX11_operand_199 rfl gX11_opens wm_1589 rfl rfl (by decide) kd_140 wm_1591 wp_94 rfl (Nat.le_of_ble_eq_true rfl) (M0.mono h (fun v τ12 h => ?_))
    obtain ⟨rfl, h⟩ := h
    show V0 E (d + 1) qX11_operand 202 [some (vR 140), none, none, some (vI y0)] [] τ12 Q
    refine u_aload_n (i := 0) (pc' := 203) dX11_operand_202 rfl rfl rfl ?_
    refine u_getI (z := (τ12 140 8)) (pc' := 206) dX11_operand_203 rfl fl_TuneDoorModel_36 rfl (by decide) (by decide) kd_140 rfl (fun r13 => ?_)
    refine u_if_ne (tgt := 221) (pc' := 209) dX11_operand_206 rfl (by decide) r13 (fun hb => ?_) (fun hb => ?_)
    · have h := h.1 hb
      refine u_iconst (pc' := 222) dX11_operand_221 rfl ?_
      exact u_zret (b := false) dX11_operand_222 rfl rfl h
    · have h := h.2 hb
      refine u_aload_n (i := 0) (pc' := 210) dX11_operand_209 rfl rfl rfl ?_
      refine u_getR (a := 170) (pc' := 213) dX11_operand_210 rfl fl_TuneDoorModel_143 rfl (by decide) kd_140 rfl ?_
      refine u_aload_n (i := 0) (pc' := 214) dX11_operand_213 rfl rfl rfl ?_
      refine u_getI (z := (τ12 140 45)) (pc' := 217) dX11_operand_214 rfl fl_TuneDoorModel_149 rfl (by decide) (by decide) kd_140 rfl (fun r14 => ?_)
      refine u_iconst (pc' := 218) dX11_operand_217 rfl ?_
      refine u_isub (pc' := 219) dX11_operand_218 rfl ?_
      refine u_iload_n (i := 3) (pc' := 220) dX11_operand_219 rfl rfl rfl ?_
      obtain ⟨c15, c16, c17, h⟩ := h
      refine u_iastore (k := ((τ12 140 45) - 1).toNat) (pc' := 221) dX11_operand_220 rfl (by decide) kd_170 c15 c16 (by decide) rfl c17 ?_
      refine u_iconst (pc' := 222) dX11_operand_221 rfl ?_
      exact u_zret (b := false) dX11_operand_222 rfl rfl h
set_option maxRecDepth 20000 in
theorem bX11_operand_321 {E : mm_Env} {d : Nat} {τ : mm_Mem} {Q : mm_Q0} {y0 : Int} (h : inR y0 ∧ ((y0 ≠ (-1) → (((τ 140 8) ≤ 0 → M0 E d qX11_add [vR 140, vI y0, vI (τ 140 6)] τ (fun v τ4 => v = none ∧ M0 E d qX11_ahead [vR 140] τ4 (fun v τ5 => v = none ∧ Q (some (vB true)) τ5))) ∧ (¬ (τ 140 8) ≤ 0 → Q (some (vB true)) τ))) ∧ (y0 = (-1) → M0 E d qX11_blame [vR 140, vI 1, vI (τ 140 4)] τ (fun v τ7 => v = none ∧ (((τ7 140 8) ≤ 0 → M0 E d qX11_add [vR 140, vI y0, vI (τ7 140 6)] τ7 (fun v τ10 => v = none ∧ M0 E d qX11_ahead [vR 140] τ10 (fun v τ11 => v = none ∧ Q (some (vB true)) τ11))) ∧ (¬ (τ7 140 8) ≤ 0 → Q (some (vB true)) τ7)))))) : V0 E (d + 1) qX11_operand 321 [some (vR 140), none, none, none] [vI y0] τ Q := by
  refine s_istore_n (i := 3) (ls' := [some (vR 140), none, none, some (vI y0)]) (pc' := 322) dX11_operand_321 rfl rfl (Nat.le_of_ble_eq_true rfl) rfl rfl ?_
  refine u_iload_n (i := 3) (pc' := 323) dX11_operand_322 rfl rfl rfl ?_
  refine u_iconst (pc' := 324) dX11_operand_323 rfl ?_
  obtain ⟨c1, h⟩ := h
  refine u_icmp_ne (tgt := 336) (pc' := 327) dX11_operand_324 rfl (by decide) c1 ⟨by decide, by decide⟩ (fun hb => ?_) (fun hb => ?_)
  · have h := h.1 hb
    refine u_aload_n (i := 0) (pc' := 337) dX11_operand_336 rfl rfl rfl ?_
    refine u_getI (z := (τ 140 8)) (pc' := 340) dX11_operand_337 rfl fl_TuneDoorModel_36 rfl (by decide) (by decide) kd_140 rfl (fun r2 => ?_)
    refine u_if_le (tgt := 345) (pc' := 343) dX11_operand_340 rfl (by decide) r2 (fun hb => ?_) (fun hb => ?_)
    · have h := h.1 hb
      refine u_aload_n (i := 0) (pc' := 346) dX11_operand_345 rfl rfl rfl ?_
      refine u_iload_n (i := 3) (pc' := 347) dX11_operand_346 rfl rfl rfl ?_
      refine u_aload_n (i := 0) (pc' := 348) dX11_operand_347 rfl rfl rfl ?_
      refine u_getI (z := (τ 140 6)) (pc' := 351) dX11_operand_348 rfl fl_TuneDoorModel_29 rfl (by decide) (by decide) kd_140 rfl (fun r3 => ?_)
      refine u_invV (q' := qX11_add) (As := [vI y0, vI (τ 140 6)]) (st := []) (pc' := 354) dX11_operand_351 rfl gX11_add wm_1593 rfl rfl (by decide) kd_140 wm_1595 wp_95 rfl (Nat.le_of_ble_eq_true rfl) (M0.mono h (fun v τ4 h => ?_))
      obtain ⟨rfl, h⟩ := h
      show V0 E (d + 1) qX11_operand 354 [some (vR 140), none, none, some (vI y0)] [] τ4 Q
      refine u_aload_n (i := 0) (pc' := 355) dX11_operand_354 rfl rfl rfl ?_
      refine u_invV (q' := qX11_ahead) (As := []) (st := []) (pc' := 358) dX11_operand_355 rfl gX11_ahead wm_1468 rfl rfl (by decide) kd_140 wm_1470 wp_74 rfl (Nat.le_of_ble_eq_true rfl) (M0.mono h (fun v τ5 h => ?_))
      obtain ⟨rfl, h⟩ := h
      show V0 E (d + 1) qX11_operand 358 [some (vR 140), none, none, some (vI y0)] [] τ5 Q
      refine u_iconst (pc' := 359) dX11_operand_358 rfl ?_
      exact u_zret (b := true) dX11_operand_359 rfl rfl h
    · have h := h.2 hb
      refine u_iconst (pc' := 344) dX11_operand_343 rfl ?_
      exact u_zret (b := true) dX11_operand_344 rfl rfl h
  · have h := h.2 hb
    refine u_aload_n (i := 0) (pc' := 328) dX11_operand_327 rfl rfl rfl ?_
    refine u_iconst (pc' := 329) dX11_operand_328 rfl ?_
    refine u_aload_n (i := 0) (pc' := 330) dX11_operand_329 rfl rfl rfl ?_
    refine u_getI (z := (τ 140 4)) (pc' := 333) dX11_operand_330 rfl fl_TuneDoorModel_23 rfl (by decide) (by decide) kd_140 rfl (fun r6 => ?_)
    refine u_invV (q' := qX11_blame) (As := [vI 1, vI (τ 140 4)]) (st := []) (pc' := 336) dX11_operand_333 rfl gX11_blame wm_1478 rfl rfl (by decide) kd_140 wm_1480 wp_75 rfl (Nat.le_of_ble_eq_true rfl) (M0.mono h (fun v τ7 h => ?_))
    obtain ⟨rfl, h⟩ := h
    show V0 E (d + 1) qX11_operand 336 [some (vR 140), none, none, some (vI y0)] [] τ7 Q
    refine u_aload_n (i := 0) (pc' := 337) dX11_operand_336 rfl rfl rfl ?_
    refine u_getI (z := (τ7 140 8)) (pc' := 340) dX11_operand_337 rfl fl_TuneDoorModel_36 rfl (by decide) (by decide) kd_140 rfl (fun r8 => ?_)
    refine u_if_le (tgt := 345) (pc' := 343) dX11_operand_340 rfl (by decide) r8 (fun hb => ?_) (fun hb => ?_)
    · have h := h.1 hb
      refine u_aload_n (i := 0) (pc' := 346) dX11_operand_345 rfl rfl rfl ?_
      refine u_iload_n (i := 3) (pc' := 347) dX11_operand_346 rfl rfl rfl ?_
      refine u_aload_n (i := 0) (pc' := 348) dX11_operand_347 rfl rfl rfl ?_
      refine u_getI (z := (τ7 140 6)) (pc' := 351) dX11_operand_348 rfl fl_TuneDoorModel_29 rfl (by decide) (by decide) kd_140 rfl (fun r9 => ?_)
      refine u_invV (q' := qX11_add) (As := [vI y0, vI (τ7 140 6)]) (st := []) (pc' := 354) dX11_operand_351 rfl gX11_add wm_1593 rfl rfl (by decide) kd_140 wm_1595 wp_95 rfl (Nat.le_of_ble_eq_true rfl) (M0.mono h (fun v τ10 h => ?_))
      obtain ⟨rfl, h⟩ := h
      show V0 E (d + 1) qX11_operand 354 [some (vR 140), none, none, some (vI y0)] [] τ10 Q
      refine u_aload_n (i := 0) (pc' := 355) dX11_operand_354 rfl rfl rfl ?_
      refine u_invV (q' := qX11_ahead) (As := []) (st := []) (pc' := 358) dX11_operand_355 rfl gX11_ahead wm_1468 rfl rfl (by decide) kd_140 wm_1470 wp_74 rfl (Nat.le_of_ble_eq_true rfl) (M0.mono h (fun v τ11 h => ?_))
      obtain ⟨rfl, h⟩ := h
      show V0 E (d + 1) qX11_operand 358 [some (vR 140), none, none, some (vI y0)] [] τ11 Q
      refine u_iconst (pc' := 359) dX11_operand_358 rfl ?_
      exact u_zret (b := true) dX11_operand_359 rfl rfl h
    · have h := h.2 hb
      refine u_iconst (pc' := 344) dX11_operand_343 rfl ?_
      exact u_zret (b := true) dX11_operand_344 rfl rfl h
set_option maxRecDepth 20000 in
theorem bX11_isTest_0 {E : mm_Env} {d : Nat} {τ : mm_Mem} {Q : mm_Q0} {a0 : Int} (h : inR a0 ∧ ((a0 = 1 → Q (some (vB true)) τ) ∧ (¬ a0 = 1 → ((a0 ≠ 5 → Q (some (vB false)) τ) ∧ (a0 = 5 → Q (some (vB true)) τ))))) : V0 E d qX11_isTest 0 [some (vI a0)] [] τ Q := by
  refine u_iload_n (i := 0) (pc' := 1) dX11_isTest_0 rfl rfl rfl ?_
  refine u_iconst (pc' := 2) dX11_isTest_1 rfl ?_
  obtain ⟨c1, h⟩ := h
  refine u_icmp_eq (tgt := 10) (pc' := 5) dX11_isTest_2 rfl (by decide) c1 ⟨by decide, by decide⟩ (fun hb => ?_) (fun hb => ?_)
  · have h := h.1 hb
    refine u_iconst (pc' := 11) dX11_isTest_10 rfl ?_
    refine u_goto (tgt := 15) dX11_isTest_11 (by decide) ?_
    exact u_zret (b := true) dX11_isTest_15 rfl rfl h
  · have h := h.2 hb
    refine u_iload_n (i := 0) (pc' := 6) dX11_isTest_5 rfl rfl rfl ?_
    refine u_iconst (pc' := 7) dX11_isTest_6 rfl ?_
    refine u_icmp_ne (tgt := 14) (pc' := 10) dX11_isTest_7 rfl (by decide) c1 ⟨by decide, by decide⟩ (fun hb => ?_) (fun hb => ?_)
    · have h := h.1 hb
      refine u_iconst (pc' := 15) dX11_isTest_14 rfl ?_
      exact u_zret (b := false) dX11_isTest_15 rfl rfl h
    · have h := h.2 hb
      refine u_iconst (pc' := 11) dX11_isTest_10 rfl ?_
      refine u_goto (tgt := 15) dX11_isTest_11 (by decide) ?_
      exact u_zret (b := true) dX11_isTest_15 rfl rfl h
theorem mX11_isTest {E : mm_Env} {d : Nat} {τ : mm_Mem} {Q : mm_Q0} {a0 : Int} (h : inR a0 ∧ ((a0 = 1 → Q (some (vB true)) τ) ∧ (¬ a0 = 1 → ((a0 ≠ 5 → Q (some (vB false)) τ) ∧ (a0 = 5 → Q (some (vB true)) τ))))) : M0 E d qX11_isTest [vI a0] τ Q := M0_of rfl (Nat.le_of_ble_eq_true rfl) [some (vI a0)] rfl (bX11_isTest_0  h)
set_option maxRecDepth 20000 in
theorem bX11_holdsBack_0 {E : mm_Env} {d : Nat} {τ : mm_Mem} {Q : mm_Q0} {a0 : Int} (h : 0 ≤ (τ 140 48) ∧ (τ 140 48) < 500 ∧ inR a0 ∧ inR ((τ 140 48) + 1) ∧ Q none (wr (wr τ 172 (τ 140 48).toNat a0) 140 48 ((τ 140 48) + 1))) : V0 E d qX11_holdsBack 0 [some (vR 140), some (vI a0)] [] τ Q := by
  refine u_aload_n (i := 0) (pc' := 1) dX11_holdsBack_0 rfl rfl rfl ?_
  refine u_getR (a := 172) (pc' := 4) dX11_holdsBack_1 rfl fl_TuneDoorModel_155 rfl (by decide) kd_140 rfl ?_
  refine u_aload_n (i := 0) (pc' := 5) dX11_holdsBack_4 rfl rfl rfl ?_
  refine u_getI (z := (τ 140 48)) (pc' := 8) dX11_holdsBack_5 rfl fl_TuneDoorModel_158 rfl (by decide) (by decide) kd_140 rfl (fun r1 => ?_)
  refine u_iload_n (i := 1) (pc' := 9) dX11_holdsBack_8 rfl rfl rfl ?_
  obtain ⟨c2, c3, c4, h⟩ := h
  refine u_iastore (k := (τ 140 48).toNat) (pc' := 10) dX11_holdsBack_9 rfl (by decide) kd_172 c2 c3 (by decide) rfl c4 ?_
  refine u_aload_n (i := 0) (pc' := 11) dX11_holdsBack_10 rfl rfl rfl ?_
  refine u_dup (pc' := 12) dX11_holdsBack_11 rfl (fun _ hh => by cases hh) ?_
  refine u_getI (z := (τ 140 48)) (pc' := 15) dX11_holdsBack_12 rfl fl_TuneDoorModel_158 rfl (by decide) (by decide) kd_140 rfl (fun r5 => ?_)
  refine u_iconst (pc' := 16) dX11_holdsBack_15 rfl ?_
  refine u_iadd (pc' := 17) dX11_holdsBack_16 rfl ?_
  obtain ⟨c6, h⟩ := h
  refine u_putI (pc' := 20) dX11_holdsBack_17 rfl fl_TuneDoorModel_158 rfl rfl (by decide) (by decide) kd_140 c6 ?_
  exact u_ret dX11_holdsBack_20 rfl h
theorem mX11_holdsBack {E : mm_Env} {d : Nat} {τ : mm_Mem} {Q : mm_Q0} {a0 : Int} (h : 0 ≤ (τ 140 48) ∧ (τ 140 48) < 500 ∧ inR a0 ∧ inR ((τ 140 48) + 1) ∧ Q none (wr (wr τ 172 (τ 140 48).toNat a0) 140 48 ((τ 140 48) + 1))) : M0 E d qX11_holdsBack [vR 140, vI a0] τ Q := M0_of rfl (Nat.le_of_ble_eq_true rfl) [some (vR 140), some (vI a0)] rfl (bX11_holdsBack_0  h)
set_option maxRecDepth 20000 in
theorem bX11_opens_0 {E : mm_Env} {d : Nat} {τ : mm_Mem} {Q : mm_Q0} {a0 : Int} (h : (((τ 140 46) ≠ 8 → (((τ 140 8) ≤ 0 → inR ((τ 140 46) + 1) ∧ M0 E d qX11_ahead [vR 140] (wr τ 140 46 ((τ 140 46) + 1)) (fun v τ5 => v = none ∧ M0 E d qX11_pushes [vR 140, vI a0] τ5 (fun v τ6 => v = none ∧ Q none τ6))) ∧ (¬ (τ 140 8) ≤ 0 → Q none τ))) ∧ ((τ 140 46) = 8 → M0 E d qX11_blame [vR 140, vI 5, vI (τ 140 4)] τ (fun v τ8 => v = none ∧ (((τ8 140 8) ≤ 0 → inR ((τ8 140 46) + 1) ∧ M0 E d qX11_ahead [vR 140] (wr τ8 140 46 ((τ8 140 46) + 1)) (fun v τ12 => v = none ∧ M0 E d qX11_pushes [vR 140, vI a0] τ12 (fun v τ13 => v = none ∧ Q none τ13))) ∧ (¬ (τ8 140 8) ≤ 0 → Q none τ8)))))) : V0 E (d + 1) qX11_opens 0 [some (vR 140), some (vI a0)] [] τ Q := by
  refine u_aload_n (i := 0) (pc' := 1) dX11_opens_0 rfl rfl rfl ?_
  refine u_getI (z := (τ 140 46)) (pc' := 4) dX11_opens_1 rfl fl_TuneDoorModel_152 rfl (by decide) (by decide) kd_140 rfl (fun r1 => ?_)
  refine u_bipush (pc' := 6) dX11_opens_4 rfl (by decide) ?_
  refine u_icmp_ne (tgt := 18) (pc' := 9) dX11_opens_6 rfl (by decide) r1 ⟨by decide, by decide⟩ (fun hb => ?_) (fun hb => ?_)
  · have h := h.1 hb
    refine u_aload_n (i := 0) (pc' := 19) dX11_opens_18 rfl rfl rfl ?_
    refine u_getI (z := (τ 140 8)) (pc' := 22) dX11_opens_19 rfl fl_TuneDoorModel_36 rfl (by decide) (by decide) kd_140 rfl (fun r2 => ?_)
    refine u_if_le (tgt := 26) (pc' := 25) dX11_opens_22 rfl (by decide) r2 (fun hb => ?_) (fun hb => ?_)
    · have h := h.1 hb
      refine u_aload_n (i := 0) (pc' := 27) dX11_opens_26 rfl rfl rfl ?_
      refine u_dup (pc' := 28) dX11_opens_27 rfl (fun _ hh => by cases hh) ?_
      refine u_getI (z := (τ 140 46)) (pc' := 31) dX11_opens_28 rfl fl_TuneDoorModel_152 rfl (by decide) (by decide) kd_140 rfl (fun r3 => ?_)
      refine u_iconst (pc' := 32) dX11_opens_31 rfl ?_
      refine u_iadd (pc' := 33) dX11_opens_32 rfl ?_
      obtain ⟨c4, h⟩ := h
      refine u_putI (pc' := 36) dX11_opens_33 rfl fl_TuneDoorModel_152 rfl rfl (by decide) (by decide) kd_140 c4 ?_
      refine u_aload_n (i := 0) (pc' := 37) dX11_opens_36 rfl rfl rfl ?_
      refine u_invV (q' := qX11_ahead) (As := []) (st := []) (pc' := 40) dX11_opens_37 rfl gX11_ahead wm_1468 rfl rfl (by decide) kd_140 wm_1470 wp_74 rfl (Nat.le_of_ble_eq_true rfl) (M0.mono h (fun v τ5 h => ?_))
      obtain ⟨rfl, h⟩ := h
      show V0 E (d + 1) qX11_opens 40 [some (vR 140), some (vI a0)] [] τ5 Q
      refine u_aload_n (i := 0) (pc' := 41) dX11_opens_40 rfl rfl rfl ?_
      refine u_iload_n (i := 1) (pc' := 42) dX11_opens_41 rfl rfl rfl ?_
      refine u_invV (q' := qX11_pushes) (As := [vI a0]) (st := []) (pc' := 45) dX11_opens_42 rfl gX11_pushes wm_1574 rfl rfl (by decide) kd_140 wm_1576 wp_91 rfl (Nat.le_of_ble_eq_true rfl) (M0.mono h (fun v τ6 h => ?_))
      obtain ⟨rfl, h⟩ := h
      show V0 E (d + 1) qX11_opens 45 [some (vR 140), some (vI a0)] [] τ6 Q
      exact u_ret dX11_opens_45 rfl h
    · have h := h.2 hb
      exact u_ret dX11_opens_25 rfl h
  · have h := h.2 hb
    refine u_aload_n (i := 0) (pc' := 10) dX11_opens_9 rfl rfl rfl ?_
    refine u_iconst (pc' := 11) dX11_opens_10 rfl ?_
    refine u_aload_n (i := 0) (pc' := 12) dX11_opens_11 rfl rfl rfl ?_
    refine u_getI (z := (τ 140 4)) (pc' := 15) dX11_opens_12 rfl fl_TuneDoorModel_23 rfl (by decide) (by decide) kd_140 rfl (fun r7 => ?_)
    refine u_invV (q' := qX11_blame) (As := [vI 5, vI (τ 140 4)]) (st := []) (pc' := 18) dX11_opens_15 rfl gX11_blame wm_1478 rfl rfl (by decide) kd_140 wm_1480 wp_75 rfl (Nat.le_of_ble_eq_true rfl) (M0.mono h (fun v τ8 h => ?_))
    obtain ⟨rfl, h⟩ := h
    show V0 E (d + 1) qX11_opens 18 [some (vR 140), some (vI a0)] [] τ8 Q
    refine u_aload_n (i := 0) (pc' := 19) dX11_opens_18 rfl rfl rfl ?_
    refine u_getI (z := (τ8 140 8)) (pc' := 22) dX11_opens_19 rfl fl_TuneDoorModel_36 rfl (by decide) (by decide) kd_140 rfl (fun r9 => ?_)
    refine u_if_le (tgt := 26) (pc' := 25) dX11_opens_22 rfl (by decide) r9 (fun hb => ?_) (fun hb => ?_)
    · have h := h.1 hb
      refine u_aload_n (i := 0) (pc' := 27) dX11_opens_26 rfl rfl rfl ?_
      refine u_dup (pc' := 28) dX11_opens_27 rfl (fun _ hh => by cases hh) ?_
      refine u_getI (z := (τ8 140 46)) (pc' := 31) dX11_opens_28 rfl fl_TuneDoorModel_152 rfl (by decide) (by decide) kd_140 rfl (fun r10 => ?_)
      refine u_iconst (pc' := 32) dX11_opens_31 rfl ?_
      refine u_iadd (pc' := 33) dX11_opens_32 rfl ?_
      obtain ⟨c11, h⟩ := h
      refine u_putI (pc' := 36) dX11_opens_33 rfl fl_TuneDoorModel_152 rfl rfl (by decide) (by decide) kd_140 c11 ?_
      refine u_aload_n (i := 0) (pc' := 37) dX11_opens_36 rfl rfl rfl ?_
      refine u_invV (q' := qX11_ahead) (As := []) (st := []) (pc' := 40) dX11_opens_37 rfl gX11_ahead wm_1468 rfl rfl (by decide) kd_140 wm_1470 wp_74 rfl (Nat.le_of_ble_eq_true rfl) (M0.mono h (fun v τ12 h => ?_))
      obtain ⟨rfl, h⟩ := h
      show V0 E (d + 1) qX11_opens 40 [some (vR 140), some (vI a0)] [] τ12 Q
      refine u_aload_n (i := 0) (pc' := 41) dX11_opens_40 rfl rfl rfl ?_
      refine u_iload_n (i := 1) (pc' := 42) dX11_opens_41 rfl rfl rfl ?_
      refine u_invV (q' := qX11_pushes) (As := [vI a0]) (st := []) (pc' := 45) dX11_opens_42 rfl gX11_pushes wm_1574 rfl rfl (by decide) kd_140 wm_1576 wp_91 rfl (Nat.le_of_ble_eq_true rfl) (M0.mono h (fun v τ13 h => ?_))
      obtain ⟨rfl, h⟩ := h
      show V0 E (d + 1) qX11_opens 45 [some (vR 140), some (vI a0)] [] τ13 Q
      exact u_ret dX11_opens_45 rfl h
    · have h := h.2 hb
      exact u_ret dX11_opens_25 rfl h
theorem mX11_opens {E : mm_Env} {d : Nat} {τ : mm_Mem} {Q : mm_Q0} {a0 : Int} (h : (((τ 140 46) ≠ 8 → (((τ 140 8) ≤ 0 → inR ((τ 140 46) + 1) ∧ M0 E d qX11_ahead [vR 140] (wr τ 140 46 ((τ 140 46) + 1)) (fun v τ5 => v = none ∧ M0 E d qX11_pushes [vR 140, vI a0] τ5 (fun v τ6 => v = none ∧ Q none τ6))) ∧ (¬ (τ 140 8) ≤ 0 → Q none τ))) ∧ ((τ 140 46) = 8 → M0 E d qX11_blame [vR 140, vI 5, vI (τ 140 4)] τ (fun v τ8 => v = none ∧ (((τ8 140 8) ≤ 0 → inR ((τ8 140 46) + 1) ∧ M0 E d qX11_ahead [vR 140] (wr τ8 140 46 ((τ8 140 46) + 1)) (fun v τ12 => v = none ∧ M0 E d qX11_pushes [vR 140, vI a0] τ12 (fun v τ13 => v = none ∧ Q none τ13))) ∧ (¬ (τ8 140 8) ≤ 0 → Q none τ8)))))) : M0 E (d + 1) qX11_opens [vR 140, vI a0] τ Q := M0_of rfl (Nat.le_of_ble_eq_true rfl) [some (vR 140), some (vI a0)] rfl (bX11_opens_0  h)
set_option maxRecDepth 20000 in
theorem bX11_add_0 {E : mm_Env} {d : Nat} {τ : mm_Mem} {Q : mm_Q0} {a0 : Int} {a1 : Int} (h : 0 ≤ ((1600 * (τ 140 39)) + (τ 140 38)) ∧ ((1600 * (τ 140 39)) + (τ 140 38)) < 3200 ∧ inR a0 ∧ 0 ≤ ((1600 * (τ 140 39)) + (τ 140 38)) ∧ ((1600 * (τ 140 39)) + (τ 140 38)) < 3200 ∧ inR a1 ∧ inR ((τ 140 38) + 1) ∧ Q none (wr (wr (wr τ 165 ((1600 * (τ 140 39)) + (τ 140 38)).toNat a0) 166 ((1600 * (τ 140 39)) + (τ 140 38)).toNat a1) 140 38 ((τ 140 38) + 1))) : V0 E d qX11_add 0 [some (vR 140), some (vI a0), some (vI a1)] [] τ Q := by
  refine u_aload_n (i := 0) (pc' := 1) dX11_add_0 rfl rfl rfl ?_
  refine u_getR (a := 165) (pc' := 4) dX11_add_1 rfl fl_TuneDoorModel_121 rfl (by decide) kd_140 rfl ?_
  refine u_sipush (pc' := 7) dX11_add_4 rfl (by decide) ?_
  refine u_aload_n (i := 0) (pc' := 8) dX11_add_7 rfl rfl rfl ?_
  refine u_getI (z := (τ 140 39)) (pc' := 11) dX11_add_8 rfl fl_TuneDoorModel_130 rfl (by decide) (by decide) kd_140 rfl (fun r1 => ?_)
  refine u_imul (pc' := 12) dX11_add_11 rfl ?_
  refine u_aload_n (i := 0) (pc' := 13) dX11_add_12 rfl rfl rfl ?_
  refine u_getI (z := (τ 140 38)) (pc' := 16) dX11_add_13 rfl fl_TuneDoorModel_127 rfl (by decide) (by decide) kd_140 rfl (fun r2 => ?_)
  refine u_iadd (pc' := 17) dX11_add_16 rfl ?_
  refine u_iload_n (i := 1) (pc' := 18) dX11_add_17 rfl rfl rfl ?_
  obtain ⟨c3, c4, c5, h⟩ := h
  refine u_iastore (k := ((1600 * (τ 140 39)) + (τ 140 38)).toNat) (pc' := 19) dX11_add_18 rfl (by decide) kd_165 c3 c4 (by decide) rfl c5 ?_
  refine u_aload_n (i := 0) (pc' := 20) dX11_add_19 rfl rfl rfl ?_
  refine u_getR (a := 166) (pc' := 23) dX11_add_20 rfl fl_TuneDoorModel_124 rfl (by decide) kd_140 rfl ?_
  refine u_sipush (pc' := 26) dX11_add_23 rfl (by decide) ?_
  refine u_aload_n (i := 0) (pc' := 27) dX11_add_26 rfl rfl rfl ?_
  refine u_getI (z := (τ 140 39)) (pc' := 30) dX11_add_27 rfl fl_TuneDoorModel_130 rfl (by decide) (by decide) kd_140 rfl (fun r6 => ?_)
  refine u_imul (pc' := 31) dX11_add_30 rfl ?_
  refine u_aload_n (i := 0) (pc' := 32) dX11_add_31 rfl rfl rfl ?_
  refine u_getI (z := (τ 140 38)) (pc' := 35) dX11_add_32 rfl fl_TuneDoorModel_127 rfl (by decide) (by decide) kd_140 rfl (fun r7 => ?_)
  refine u_iadd (pc' := 36) dX11_add_35 rfl ?_
  refine u_iload_n (i := 2) (pc' := 37) dX11_add_36 rfl rfl rfl ?_
  obtain ⟨c8, c9, c10, h⟩ := h
  refine u_iastore (k := ((1600 * (τ 140 39)) + (τ 140 38)).toNat) (pc' := 38) dX11_add_37 rfl (by decide) kd_166 c8 c9 (by decide) rfl c10 ?_
  refine u_aload_n (i := 0) (pc' := 39) dX11_add_38 rfl rfl rfl ?_
  refine u_dup (pc' := 40) dX11_add_39 rfl (fun _ hh => by cases hh) ?_
  refine u_getI (z := (τ 140 38)) (pc' := 43) dX11_add_40 rfl fl_TuneDoorModel_127 rfl (by decide) (by decide) kd_140 rfl (fun r11 => ?_)
  refine u_iconst (pc' := 44) dX11_add_43 rfl ?_
  refine u_iadd (pc' := 45) dX11_add_44 rfl ?_
  obtain ⟨c12, h⟩ := h
  refine u_putI (pc' := 48) dX11_add_45 rfl fl_TuneDoorModel_127 rfl rfl (by decide) (by decide) kd_140 c12 ?_
  exact u_ret dX11_add_48 rfl h
theorem mX11_add {E : mm_Env} {d : Nat} {τ : mm_Mem} {Q : mm_Q0} {a0 : Int} {a1 : Int} (h : 0 ≤ ((1600 * (τ 140 39)) + (τ 140 38)) ∧ ((1600 * (τ 140 39)) + (τ 140 38)) < 3200 ∧ inR a0 ∧ 0 ≤ ((1600 * (τ 140 39)) + (τ 140 38)) ∧ ((1600 * (τ 140 39)) + (τ 140 38)) < 3200 ∧ inR a1 ∧ inR ((τ 140 38) + 1) ∧ Q none (wr (wr (wr τ 165 ((1600 * (τ 140 39)) + (τ 140 38)).toNat a0) 166 ((1600 * (τ 140 39)) + (τ 140 38)).toNat a1) 140 38 ((τ 140 38) + 1))) : M0 E d qX11_add [vR 140, vI a0, vI a1] τ Q := M0_of rfl (Nat.le_of_ble_eq_true rfl) [some (vR 140), some (vI a0), some (vI a1)] rfl (bX11_add_0  h)
set_option maxRecDepth 20000 in
theorem bX11_goesOn_0 {E : mm_Env} {d : Nat} {τ : mm_Mem} {Q : mm_Q0}  (h : 0 ≤ ((τ 140 45) - 1) ∧ ((τ 140 45) - 1) < 20 ∧ M0 E d qX11_isTest [vI (τ 167 ((τ 140 45) - 1).toNat)] τ (fun v τ5 => ∃ b6 : Bool, v = some (vB b6) ∧ 0 ≤ ((τ 140 45) - 1) ∧ ((τ 140 45) - 1) < 20 ∧ ((2 ≤ (τ5 168 ((τ 140 45) - 1).toNat) → ((b6 = false → V0 E (d + 1) qX11_goesOn 272 [some (vR 140), some (vI ((τ 140 45) - 1)), some (vI (τ 167 ((τ 140 45) - 1).toNat)), some (vB b6), none] [] τ5 Q) ∧ (b6 = true → 0 ≤ ((τ 140 45) - 1) ∧ ((τ 140 45) - 1) < 20 ∧ (((τ5 168 ((τ 140 45) - 1).toNat) ≠ 0 → V0 E (d + 1) qX11_goesOn 272 [some (vR 140), some (vI ((τ 140 45) - 1)), some (vI (τ 167 ((τ 140 45) - 1).toNat)), some (vB b6), none] [] τ5 Q) ∧ ((τ5 168 ((τ 140 45) - 1).toNat) = 0 → M0 E d qX11_isSign [vR 140, vI 60] τ5 (fun v τ13 => ∃ b14 : Bool, v = some (vB b14) ∧ ((b14 = true → V0 E (d + 1) qX11_goesOn 215 [some (vR 140), some (vI ((τ 140 45) - 1)), none, none, none] [] τ13 Q) ∧ (b14 = false → M0 E d qX11_isSign [vR 140, vI 62] τ13 (fun v τ15 => ∃ b16 : Bool, v = some (vB b16) ∧ ((b16 = true → V0 E (d + 1) qX11_goesOn 215 [some (vR 140), some (vI ((τ 140 45) - 1)), none, none, none] [] τ15 Q) ∧ (b16 = false → M0 E d qX11_isSign [vR 140, vI 61] τ15 (fun v τ17 => ∃ b18 : Bool, v = some (vB b18) ∧ ((b18 = false → V0 E (d + 1) qX11_goesOn 272 [some (vR 140), some (vI ((τ 140 45) - 1)), some (vI (τ 167 ((τ 140 45) - 1).toNat)), some (vB b6), none] [] τ17 Q) ∧ (b18 = true → V0 E (d + 1) qX11_goesOn 215 [some (vR 140), some (vI ((τ 140 45) - 1)), none, none, none] [] τ17 Q)))))))))))))) ∧ (¬ 2 ≤ (τ5 168 ((τ 140 45) - 1).toNat) → M0 E d qX11_isSign [vR 140, vI 43] τ5 (fun v τ19 => ∃ b20 : Bool, v = some (vB b20) ∧ ((b20 = true → M0 E d qX11_isSign [vR 140, vI 43] τ19 (fun v τ21 => ∃ b22 : Bool, v = some (vB b22) ∧ ((b22 = true → V0 E (d + 1) qX11_goesOn 99 [some (vR 140), none, none, none, none] [vI 5, vR 140] τ21 Q) ∧ (b22 = false → M0 E d qX11_isSign [vR 140, vI 45] τ21 (fun v τ23 => ∃ b24 : Bool, v = some (vB b24) ∧ ((b24 = false → V0 E (d + 1) qX11_goesOn 99 [some (vR 140), none, none, none, none] [vI 6, vR 140] τ23 Q) ∧ (b24 = true → V0 E (d + 1) qX11_goesOn 99 [some (vR 140), none, none, none, none] [vI 5, vR 140] τ23 Q))))))) ∧ (b20 = false → M0 E d qX11_isSign [vR 140, vI 45] τ19 (fun v τ25 => ∃ b26 : Bool, v = some (vB b26) ∧ ((b26 = true → M0 E d qX11_isSign [vR 140, vI 43] τ25 (fun v τ27 => ∃ b28 : Bool, v = some (vB b28) ∧ ((b28 = true → V0 E (d + 1) qX11_goesOn 99 [some (vR 140), none, none, none, none] [vI 5, vR 140] τ27 Q) ∧ (b28 = false → M0 E d qX11_isSign [vR 140, vI 45] τ27 (fun v τ29 => ∃ b30 : Bool, v = some (vB b30) ∧ ((b30 = false → V0 E (d + 1) qX11_goesOn 99 [some (vR 140), none, none, none, none] [vI 6, vR 140] τ29 Q) ∧ (b30 = true → V0 E (d + 1) qX11_goesOn 99 [some (vR 140), none, none, none, none] [vI 5, vR 140] τ29 Q))))))) ∧ (b26 = false → M0 E d qX11_isSign [vR 140, vI 42] τ25 (fun v τ31 => ∃ b32 : Bool, v = some (vB b32) ∧ ((b32 = true → M0 E d qX11_isSign [vR 140, vI 43] τ31 (fun v τ33 => ∃ b34 : Bool, v = some (vB b34) ∧ ((b34 = true → V0 E (d + 1) qX11_goesOn 99 [some (vR 140), none, none, none, none] [vI 5, vR 140] τ33 Q) ∧ (b34 = false → M0 E d qX11_isSign [vR 140, vI 45] τ33 (fun v τ35 => ∃ b36 : Bool, v = some (vB b36) ∧ ((b36 = false → V0 E (d + 1) qX11_goesOn 99 [some (vR 140), none, none, none, none] [vI 6, vR 140] τ35 Q) ∧ (b36 = true → V0 E (d + 1) qX11_goesOn 99 [some (vR 140), none, none, none, none] [vI 5, vR 140] τ35 Q))))))) ∧ (b32 = false → M0 E d qX11_isSign [vR 140, vI 47] τ31 (fun v τ37 => ∃ b38 : Bool, v = some (vB b38) ∧ ((b38 = true → M0 E d qX11_isSign [vR 140, vI 43] τ37 (fun v τ39 => ∃ b40 : Bool, v = some (vB b40) ∧ ((b40 = true → V0 E (d + 1) qX11_goesOn 99 [some (vR 140), none, none, none, none] [vI 5, vR 140] τ39 Q) ∧ (b40 = false → M0 E d qX11_isSign [vR 140, vI 45] τ39 (fun v τ41 => ∃ b42 : Bool, v = some (vB b42) ∧ ((b42 = false → V0 E (d + 1) qX11_goesOn 99 [some (vR 140), none, none, none, none] [vI 6, vR 140] τ41 Q) ∧ (b42 = true → V0 E (d + 1) qX11_goesOn 99 [some (vR 140), none, none, none, none] [vI 5, vR 140] τ41 Q))))))) ∧ (b38 = false → M0 E d qX11_isSign [vR 140, vI 37] τ37 (fun v τ43 => ∃ b44 : Bool, v = some (vB b44) ∧ ((b44 = false → ((b6 = false → V0 E (d + 1) qX11_goesOn 272 [some (vR 140), some (vI ((τ 140 45) - 1)), some (vI (τ 167 ((τ 140 45) - 1).toNat)), some (vB b6), none] [] τ43 Q) ∧ (b6 = true → 0 ≤ ((τ 140 45) - 1) ∧ ((τ 140 45) - 1) < 20 ∧ (((τ43 168 ((τ 140 45) - 1).toNat) ≠ 0 → V0 E (d + 1) qX11_goesOn 272 [some (vR 140), some (vI ((τ 140 45) - 1)), some (vI (τ 167 ((τ 140 45) - 1).toNat)), some (vB b6), none] [] τ43 Q) ∧ ((τ43 168 ((τ 140 45) - 1).toNat) = 0 → M0 E d qX11_isSign [vR 140, vI 60] τ43 (fun v τ48 => ∃ b49 : Bool, v = some (vB b49) ∧ ((b49 = true → V0 E (d + 1) qX11_goesOn 215 [some (vR 140), some (vI ((τ 140 45) - 1)), none, none, none] [] τ48 Q) ∧ (b49 = false → M0 E d qX11_isSign [vR 140, vI 62] τ48 (fun v τ50 => ∃ b51 : Bool, v = some (vB b51) ∧ ((b51 = true → V0 E (d + 1) qX11_goesOn 215 [some (vR 140), some (vI ((τ 140 45) - 1)), none, none, none] [] τ50 Q) ∧ (b51 = false → M0 E d qX11_isSign [vR 140, vI 61] τ50 (fun v τ52 => ∃ b53 : Bool, v = some (vB b53) ∧ ((b53 = false → V0 E (d + 1) qX11_goesOn 272 [some (vR 140), some (vI ((τ 140 45) - 1)), some (vI (τ 167 ((τ 140 45) - 1).toNat)), some (vB b6), none] [] τ52 Q) ∧ (b53 = true → V0 E (d + 1) qX11_goesOn 215 [some (vR 140), some (vI ((τ 140 45) - 1)), none, none, none] [] τ52 Q)))))))))))))) ∧ (b44 = true → M0 E d qX11_isSign [vR 140, vI 43] τ43 (fun v τ54 => ∃ b55 : Bool, v = some (vB b55) ∧ ((b55 = true → V0 E (d + 1) qX11_goesOn 99 [some (vR 140), none, none, none, none] [vI 5, vR 140] τ54 Q) ∧ (b55 = false → M0 E d qX11_isSign [vR 140, vI 45] τ54 (fun v τ56 => ∃ b57 : Bool, v = some (vB b57) ∧ ((b57 = false → V0 E (d + 1) qX11_goesOn 99 [some (vR 140), none, none, none, none] [vI 6, vR 140] τ56 Q) ∧ (b57 = true → V0 E (d + 1) qX11_goesOn 99 [some (vR 140), none, none, none, none] [vI 5, vR 140] τ56 Q))))))))))))))))))))))))) : V0 E (d + 1) qX11_goesOn 0 [some (vR 140), none, none, none, none] [] τ Q := by
  refine u_aload_n (i := 0) (pc' := 1) dX11_goesOn_0 rfl rfl rfl ?_
  refine u_getI (z := (τ 140 45)) (pc' := 4) dX11_goesOn_1 rfl fl_TuneDoorModel_149 rfl (by decide) (by decide) kd_140 rfl (fun r1 => ?_)
  refine u_iconst (pc' := 5) dX11_goesOn_4 rfl ?_
  refine u_isub (pc' := 6) dX11_goesOn_5 rfl ?_
  refine s_istore_n (i := 1) (ls' := [some (vR 140), some (vI ((τ 140 45) - 1)), none, none, none]) (pc' := 7) dX11_goesOn_6 rfl rfl (Nat.le_of_ble_eq_true rfl) rfl rfl ?_
  refine u_aload_n (i := 0) (pc' := 8) dX11_goesOn_7 rfl rfl rfl ?_
  refine u_getR (a := 167) (pc' := 11) dX11_goesOn_8 rfl fl_TuneDoorModel_133 rfl (by decide) kd_140 rfl ?_
  refine u_iload_n (i := 1) (pc' := 12) dX11_goesOn_11 rfl rfl rfl ?_
  obtain ⟨c2, c3, h⟩ := h
  refine u_iaload (k := ((τ 140 45) - 1).toNat) (z := (τ 167 ((τ 140 45) - 1).toNat)) (pc' := 13) dX11_goesOn_12 rfl (by decide) kd_167 c2 c3 (by decide) rfl rfl (fun r4 => ?_)
  refine s_istore_n (i := 2) (ls' := [some (vR 140), some (vI ((τ 140 45) - 1)), some (vI (τ 167 ((τ 140 45) - 1).toNat)), none, none]) (pc' := 14) dX11_goesOn_13 rfl rfl (Nat.le_of_ble_eq_true rfl) rfl rfl ?_
  refine u_iload_n (i := 2) (pc' := 15) dX11_goesOn_14 rfl rfl rfl ?_
  refine u_invS (q' := qX11_isTest) (As := [vI (τ 167 ((τ 140 45) - 1).toNat)]) (st := []) (pc' := 18) dX11_goesOn_15 rfl gX11_isTest wm_1582 wm_1583 rfl (Nat.le_of_ble_eq_true rfl) (M0.mono h (fun v τ5 h => ?_))
  obtain ⟨b6, rfl, h⟩ := h
  show V0 E (d + 1) qX11_goesOn 18 [some (vR 140), some (vI ((τ 140 45) - 1)), some (vI (τ 167 ((τ 140 45) - 1).toNat)), none, none] [vB b6] τ5 Q
  refine s_istore_n (i := 3) (ls' := [some (vR 140), some (vI ((τ 140 45) - 1)), some (vI (τ 167 ((τ 140 45) - 1).toNat)), some (vB b6), none]) (pc' := 19) dX11_goesOn_18 rfl rfl (Nat.le_of_ble_eq_true rfl) rfl rfl ?_
  refine u_aload_n (i := 0) (pc' := 20) dX11_goesOn_19 rfl rfl rfl ?_
  refine u_getR (a := 168) (pc' := 23) dX11_goesOn_20 rfl fl_TuneDoorModel_136 rfl (by decide) kd_140 rfl ?_
  refine u_iload_n (i := 1) (pc' := 24) dX11_goesOn_23 rfl rfl rfl ?_
  obtain ⟨c7, c8, h⟩ := h
  refine u_iaload (k := ((τ 140 45) - 1).toNat) (z := (τ5 168 ((τ 140 45) - 1).toNat)) (pc' := 25) dX11_goesOn_24 rfl (by decide) kd_168 c7 c8 (by decide) rfl rfl (fun r9 => ?_)
  refine u_iconst (pc' := 26) dX11_goesOn_25 rfl ?_
  refine u_icmp_ge (tgt := 175) (pc' := 29) dX11_goesOn_26 rfl (by decide) r9 ⟨by decide, by decide⟩ (fun hb => ?_) (fun hb => ?_)
  · have h := h.1 hb
    refine u_iload_n (i := 3) (pc' := 176) dX11_goesOn_175 rfl rfl rfl ?_
    refine u_if_eq (tgt := 272) (pc' := 179) dX11_goesOn_176 rfl (by decide) (bI_R _) (fun hb => ?_) (fun hb => ?_)
    · have h := h.1 (bI_0.mp hb)
      exact u_less (ls' := [some (vR 140), some (vI ((τ 140 45) - 1)), some (vI (τ 167 ((τ 140 45) - 1).toNat)), some (vB b6), none]) ⟨rfl, ⟨rfl, ⟨rfl, ⟨rfl, trivial⟩⟩⟩⟩ h
    · have h := h.2 (bI_n0.mp hb)
      refine u_aload_n (i := 0) (pc' := 180) dX11_goesOn_179 rfl rfl rfl ?_
      refine u_getR (a := 168) (pc' := 183) dX11_goesOn_180 rfl fl_TuneDoorModel_136 rfl (by decide) kd_140 rfl ?_
      refine u_iload_n (i := 1) (pc' := 184) dX11_goesOn_183 rfl rfl rfl ?_
      obtain ⟨c10, c11, h⟩ := h
      refine u_iaload (k := ((τ 140 45) - 1).toNat) (z := (τ5 168 ((τ 140 45) - 1).toNat)) (pc' := 185) dX11_goesOn_184 rfl (by decide) kd_168 c10 c11 (by decide) rfl rfl (fun r12 => ?_)
      refine u_if_ne (tgt := 272) (pc' := 188) dX11_goesOn_185 rfl (by decide) r12 (fun hb => ?_) (fun hb => ?_)
      · have h := h.1 hb
        exact u_less (ls' := [some (vR 140), some (vI ((τ 140 45) - 1)), some (vI (τ 167 ((τ 140 45) - 1).toNat)), some (vB b6), none]) ⟨rfl, ⟨rfl, ⟨rfl, ⟨rfl, trivial⟩⟩⟩⟩ h
      · have h := h.2 hb
        refine u_aload_n (i := 0) (pc' := 189) dX11_goesOn_188 rfl rfl rfl ?_
        refine u_bipush (pc' := 191) dX11_goesOn_189 rfl (by decide) ?_
        refine u_invV (q' := qX11_isSign) (As := [vI 60]) (st := []) (pc' := 194) dX11_goesOn_191 rfl gX11_isSign wm_1507 rfl rfl (by decide) kd_140 wm_1509 wp_81 rfl (Nat.le_of_ble_eq_true rfl) (M0.mono h (fun v τ13 h => ?_))
        obtain ⟨b14, rfl, h⟩ := h
        show V0 E (d + 1) qX11_goesOn 194 [some (vR 140), some (vI ((τ 140 45) - 1)), some (vI (τ 167 ((τ 140 45) - 1).toNat)), some (vB b6), none] [vB b14] τ13 Q
        refine u_if_ne (tgt := 215) (pc' := 197) dX11_goesOn_194 rfl (by decide) (bI_R _) (fun hb => ?_) (fun hb => ?_)
        · have h := h.1 (bI_n0.mp hb)
          exact u_less (ls' := [some (vR 140), some (vI ((τ 140 45) - 1)), none, none, none]) ⟨rfl, ⟨rfl, trivial⟩⟩ h
        · have h := h.2 (bI_0.mp hb)
          refine u_aload_n (i := 0) (pc' := 198) dX11_goesOn_197 rfl rfl rfl ?_
          refine u_bipush (pc' := 200) dX11_goesOn_198 rfl (by decide) ?_
          refine u_invV (q' := qX11_isSign) (As := [vI 62]) (st := []) (pc' := 203) dX11_goesOn_200 rfl gX11_isSign wm_1507 rfl rfl (by decide) kd_140 wm_1509 wp_81 rfl (Nat.le_of_ble_eq_true rfl) (M0.mono h (fun v τ15 h => ?_))
          obtain ⟨b16, rfl, h⟩ := h
          show V0 E (d + 1) qX11_goesOn 203 [some (vR 140), some (vI ((τ 140 45) - 1)), some (vI (τ 167 ((τ 140 45) - 1).toNat)), some (vB b6), none] [vB b16] τ15 Q
          refine u_if_ne (tgt := 215) (pc' := 206) dX11_goesOn_203 rfl (by decide) (bI_R _) (fun hb => ?_) (fun hb => ?_)
          · have h := h.1 (bI_n0.mp hb)
            exact u_less (ls' := [some (vR 140), some (vI ((τ 140 45) - 1)), none, none, none]) ⟨rfl, ⟨rfl, trivial⟩⟩ h
          · have h := h.2 (bI_0.mp hb)
            refine u_aload_n (i := 0) (pc' := 207) dX11_goesOn_206 rfl rfl rfl ?_
            refine u_bipush (pc' := 209) dX11_goesOn_207 rfl (by decide) ?_
            refine u_invV (q' := qX11_isSign) (As := [vI 61]) (st := []) (pc' := 212) dX11_goesOn_209 rfl gX11_isSign wm_1507 rfl rfl (by decide) kd_140 wm_1509 wp_81 rfl (Nat.le_of_ble_eq_true rfl) (M0.mono h (fun v τ17 h => ?_))
            obtain ⟨b18, rfl, h⟩ := h
            show V0 E (d + 1) qX11_goesOn 212 [some (vR 140), some (vI ((τ 140 45) - 1)), some (vI (τ 167 ((τ 140 45) - 1).toNat)), some (vB b6), none] [vB b18] τ17 Q
            refine u_if_eq (tgt := 272) (pc' := 215) dX11_goesOn_212 rfl (by decide) (bI_R _) (fun hb => ?_) (fun hb => ?_)
            · have h := h.1 (bI_0.mp hb)
              exact u_less (ls' := [some (vR 140), some (vI ((τ 140 45) - 1)), some (vI (τ 167 ((τ 140 45) - 1).toNat)), some (vB b6), none]) ⟨rfl, ⟨rfl, ⟨rfl, ⟨rfl, trivial⟩⟩⟩⟩ h
            · have h := h.2 (bI_n0.mp hb)
              exact u_less (ls' := [some (vR 140), some (vI ((τ 140 45) - 1)), none, none, none]) ⟨rfl, ⟨rfl, trivial⟩⟩ h
  · have h := h.2 hb
    refine u_aload_n (i := 0) (pc' := 30) dX11_goesOn_29 rfl rfl rfl ?_
    refine u_bipush (pc' := 32) dX11_goesOn_30 rfl (by decide) ?_
    refine u_invV (q' := qX11_isSign) (As := [vI 43]) (st := []) (pc' := 35) dX11_goesOn_32 rfl gX11_isSign wm_1507 rfl rfl (by decide) kd_140 wm_1509 wp_81 rfl (Nat.le_of_ble_eq_true rfl) (M0.mono h (fun v τ19 h => ?_))
    obtain ⟨b20, rfl, h⟩ := h
    show V0 E (d + 1) qX11_goesOn 35 [some (vR 140), some (vI ((τ 140 45) - 1)), some (vI (τ 167 ((τ 140 45) - 1).toNat)), some (vB b6), none] [vB b20] τ19 Q
    refine u_if_ne (tgt := 74) (pc' := 38) dX11_goesOn_35 rfl (by decide) (bI_R _) (fun hb => ?_) (fun hb => ?_)
    · have h := h.1 (bI_n0.mp hb)
      refine u_aload_n (i := 0) (pc' := 75) dX11_goesOn_74 rfl rfl rfl ?_
      refine u_aload_n (i := 0) (pc' := 76) dX11_goesOn_75 rfl rfl rfl ?_
      refine u_bipush (pc' := 78) dX11_goesOn_76 rfl (by decide) ?_
      refine u_invV (q' := qX11_isSign) (As := [vI 43]) (st := [vR 140]) (pc' := 81) dX11_goesOn_78 rfl gX11_isSign wm_1507 rfl rfl (by decide) kd_140 wm_1509 wp_81 rfl (Nat.le_of_ble_eq_true rfl) (M0.mono h (fun v τ21 h => ?_))
      obtain ⟨b22, rfl, h⟩ := h
      show V0 E (d + 1) qX11_goesOn 81 [some (vR 140), some (vI ((τ 140 45) - 1)), some (vI (τ 167 ((τ 140 45) - 1).toNat)), some (vB b6), none] [vB b22, vR 140] τ21 Q
      refine u_if_ne (tgt := 93) (pc' := 84) dX11_goesOn_81 rfl (by decide) (bI_R _) (fun hb => ?_) (fun hb => ?_)
      · have h := h.1 (bI_n0.mp hb)
        refine u_iconst (pc' := 94) dX11_goesOn_93 rfl ?_
        refine u_goto (tgt := 99) dX11_goesOn_94 (by decide) ?_
        exact u_less (ls' := [some (vR 140), none, none, none, none]) ⟨rfl, trivial⟩ h
      · have h := h.2 (bI_0.mp hb)
        refine u_aload_n (i := 0) (pc' := 85) dX11_goesOn_84 rfl rfl rfl ?_
        refine u_bipush (pc' := 87) dX11_goesOn_85 rfl (by decide) ?_
        refine u_invV (q' := qX11_isSign) (As := [vI 45]) (st := [vR 140]) (pc' := 90) dX11_goesOn_87 rfl gX11_isSign wm_1507 rfl rfl (by decide) kd_140 wm_1509 wp_81 rfl (Nat.le_of_ble_eq_true rfl) (M0.mono h (fun v τ23 h => ?_))
        obtain ⟨b24, rfl, h⟩ := h
        show V0 E (d + 1) qX11_goesOn 90 [some (vR 140), some (vI ((τ 140 45) - 1)), some (vI (τ 167 ((τ 140 45) - 1).toNat)), some (vB b6), none] [vB b24, vR 140] τ23 Q
        refine u_if_eq (tgt := 97) (pc' := 93) dX11_goesOn_90 rfl (by decide) (bI_R _) (fun hb => ?_) (fun hb => ?_)
        · have h := h.1 (bI_0.mp hb)
          refine u_bipush (pc' := 99) dX11_goesOn_97 rfl (by decide) ?_
          exact u_less (ls' := [some (vR 140), none, none, none, none]) ⟨rfl, trivial⟩ h
        · have h := h.2 (bI_n0.mp hb)
          refine u_iconst (pc' := 94) dX11_goesOn_93 rfl ?_
          refine u_goto (tgt := 99) dX11_goesOn_94 (by decide) ?_
          exact u_less (ls' := [some (vR 140), none, none, none, none]) ⟨rfl, trivial⟩ h
    · have h := h.2 (bI_0.mp hb)
      refine u_aload_n (i := 0) (pc' := 39) dX11_goesOn_38 rfl rfl rfl ?_
      refine u_bipush (pc' := 41) dX11_goesOn_39 rfl (by decide) ?_
      refine u_invV (q' := qX11_isSign) (As := [vI 45]) (st := []) (pc' := 44) dX11_goesOn_41 rfl gX11_isSign wm_1507 rfl rfl (by decide) kd_140 wm_1509 wp_81 rfl (Nat.le_of_ble_eq_true rfl) (M0.mono h (fun v τ25 h => ?_))
      obtain ⟨b26, rfl, h⟩ := h
      show V0 E (d + 1) qX11_goesOn 44 [some (vR 140), some (vI ((τ 140 45) - 1)), some (vI (τ 167 ((τ 140 45) - 1).toNat)), some (vB b6), none] [vB b26] τ25 Q
      refine u_if_ne (tgt := 74) (pc' := 47) dX11_goesOn_44 rfl (by decide) (bI_R _) (fun hb => ?_) (fun hb => ?_)
      · have h := h.1 (bI_n0.mp hb)
        refine u_aload_n (i := 0) (pc' := 75) dX11_goesOn_74 rfl rfl rfl ?_
        refine u_aload_n (i := 0) (pc' := 76) dX11_goesOn_75 rfl rfl rfl ?_
        refine u_bipush (pc' := 78) dX11_goesOn_76 rfl (by decide) ?_
        refine u_invV (q' := qX11_isSign) (As := [vI 43]) (st := [vR 140]) (pc' := 81) dX11_goesOn_78 rfl gX11_isSign wm_1507 rfl rfl (by decide) kd_140 wm_1509 wp_81 rfl (Nat.le_of_ble_eq_true rfl) (M0.mono h (fun v τ27 h => ?_))
        obtain ⟨b28, rfl, h⟩ := h
        show V0 E (d + 1) qX11_goesOn 81 [some (vR 140), some (vI ((τ 140 45) - 1)), some (vI (τ 167 ((τ 140 45) - 1).toNat)), some (vB b6), none] [vB b28, vR 140] τ27 Q
        refine u_if_ne (tgt := 93) (pc' := 84) dX11_goesOn_81 rfl (by decide) (bI_R _) (fun hb => ?_) (fun hb => ?_)
        · have h := h.1 (bI_n0.mp hb)
          refine u_iconst (pc' := 94) dX11_goesOn_93 rfl ?_
          refine u_goto (tgt := 99) dX11_goesOn_94 (by decide) ?_
          exact u_less (ls' := [some (vR 140), none, none, none, none]) ⟨rfl, trivial⟩ h
        · have h := h.2 (bI_0.mp hb)
          refine u_aload_n (i := 0) (pc' := 85) dX11_goesOn_84 rfl rfl rfl ?_
          refine u_bipush (pc' := 87) dX11_goesOn_85 rfl (by decide) ?_
          refine u_invV (q' := qX11_isSign) (As := [vI 45]) (st := [vR 140]) (pc' := 90) dX11_goesOn_87 rfl gX11_isSign wm_1507 rfl rfl (by decide) kd_140 wm_1509 wp_81 rfl (Nat.le_of_ble_eq_true rfl) (M0.mono h (fun v τ29 h => ?_))
          obtain ⟨b30, rfl, h⟩ := h
          show V0 E (d + 1) qX11_goesOn 90 [some (vR 140), some (vI ((τ 140 45) - 1)), some (vI (τ 167 ((τ 140 45) - 1).toNat)), some (vB b6), none] [vB b30, vR 140] τ29 Q
          refine u_if_eq (tgt := 97) (pc' := 93) dX11_goesOn_90 rfl (by decide) (bI_R _) (fun hb => ?_) (fun hb => ?_)
          · have h := h.1 (bI_0.mp hb)
            refine u_bipush (pc' := 99) dX11_goesOn_97 rfl (by decide) ?_
            exact u_less (ls' := [some (vR 140), none, none, none, none]) ⟨rfl, trivial⟩ h
          · have h := h.2 (bI_n0.mp hb)
            refine u_iconst (pc' := 94) dX11_goesOn_93 rfl ?_
            refine u_goto (tgt := 99) dX11_goesOn_94 (by decide) ?_
            exact u_less (ls' := [some (vR 140), none, none, none, none]) ⟨rfl, trivial⟩ h
      · have h := h.2 (bI_0.mp hb)
        refine u_aload_n (i := 0) (pc' := 48) dX11_goesOn_47 rfl rfl rfl ?_
        refine u_bipush (pc' := 50) dX11_goesOn_48 rfl (by decide) ?_
        refine u_invV (q' := qX11_isSign) (As := [vI 42]) (st := []) (pc' := 53) dX11_goesOn_50 rfl gX11_isSign wm_1507 rfl rfl (by decide) kd_140 wm_1509 wp_81 rfl (Nat.le_of_ble_eq_true rfl) (M0.mono h (fun v τ31 h => ?_))
        obtain ⟨b32, rfl, h⟩ := h
        show V0 E (d + 1) qX11_goesOn 53 [some (vR 140), some (vI ((τ 140 45) - 1)), some (vI (τ 167 ((τ 140 45) - 1).toNat)), some (vB b6), none] [vB b32] τ31 Q
        refine u_if_ne (tgt := 74) (pc' := 56) dX11_goesOn_53 rfl (by decide) (bI_R _) (fun hb => ?_) (fun hb => ?_)
        · have h := h.1 (bI_n0.mp hb)
          refine u_aload_n (i := 0) (pc' := 75) dX11_goesOn_74 rfl rfl rfl ?_
          refine u_aload_n (i := 0) (pc' := 76) dX11_goesOn_75 rfl rfl rfl ?_
          refine u_bipush (pc' := 78) dX11_goesOn_76 rfl (by decide) ?_
          refine u_invV (q' := qX11_isSign) (As := [vI 43]) (st := [vR 140]) (pc' := 81) dX11_goesOn_78 rfl gX11_isSign wm_1507 rfl rfl (by decide) kd_140 wm_1509 wp_81 rfl (Nat.le_of_ble_eq_true rfl) (M0.mono h (fun v τ33 h => ?_))
          obtain ⟨b34, rfl, h⟩ := h
          show V0 E (d + 1) qX11_goesOn 81 [some (vR 140), some (vI ((τ 140 45) - 1)), some (vI (τ 167 ((τ 140 45) - 1).toNat)), some (vB b6), none] [vB b34, vR 140] τ33 Q
          refine u_if_ne (tgt := 93) (pc' := 84) dX11_goesOn_81 rfl (by decide) (bI_R _) (fun hb => ?_) (fun hb => ?_)
          · have h := h.1 (bI_n0.mp hb)
            refine u_iconst (pc' := 94) dX11_goesOn_93 rfl ?_
            refine u_goto (tgt := 99) dX11_goesOn_94 (by decide) ?_
            exact u_less (ls' := [some (vR 140), none, none, none, none]) ⟨rfl, trivial⟩ h
          · have h := h.2 (bI_0.mp hb)
            refine u_aload_n (i := 0) (pc' := 85) dX11_goesOn_84 rfl rfl rfl ?_
            refine u_bipush (pc' := 87) dX11_goesOn_85 rfl (by decide) ?_
            refine u_invV (q' := qX11_isSign) (As := [vI 45]) (st := [vR 140]) (pc' := 90) dX11_goesOn_87 rfl gX11_isSign wm_1507 rfl rfl (by decide) kd_140 wm_1509 wp_81 rfl (Nat.le_of_ble_eq_true rfl) (M0.mono h (fun v τ35 h => ?_))
            obtain ⟨b36, rfl, h⟩ := h
            show V0 E (d + 1) qX11_goesOn 90 [some (vR 140), some (vI ((τ 140 45) - 1)), some (vI (τ 167 ((τ 140 45) - 1).toNat)), some (vB b6), none] [vB b36, vR 140] τ35 Q
            refine u_if_eq (tgt := 97) (pc' := 93) dX11_goesOn_90 rfl (by decide) (bI_R _) (fun hb => ?_) (fun hb => ?_)
            · have h := h.1 (bI_0.mp hb)
              refine u_bipush (pc' := 99) dX11_goesOn_97 rfl (by decide) ?_
              exact u_less (ls' := [some (vR 140), none, none, none, none]) ⟨rfl, trivial⟩ h
            · have h := h.2 (bI_n0.mp hb)
              refine u_iconst (pc' := 94) dX11_goesOn_93 rfl ?_
              refine u_goto (tgt := 99) dX11_goesOn_94 (by decide) ?_
              exact u_less (ls' := [some (vR 140), none, none, none, none]) ⟨rfl, trivial⟩ h
        · have h := h.2 (bI_0.mp hb)
          refine u_aload_n (i := 0) (pc' := 57) dX11_goesOn_56 rfl rfl rfl ?_
          refine u_bipush (pc' := 59) dX11_goesOn_57 rfl (by decide) ?_
          refine u_invV (q' := qX11_isSign) (As := [vI 47]) (st := []) (pc' := 62) dX11_goesOn_59 rfl gX11_isSign wm_1507 rfl rfl (by decide) kd_140 wm_1509 wp_81 rfl (Nat.le_of_ble_eq_true rfl) (M0.mono h (fun v τ37 h => ?_))
          obtain ⟨b38, rfl, h⟩ := h
          show V0 E (d + 1) qX11_goesOn 62 [some (vR 140), some (vI ((τ 140 45) - 1)), some (vI (τ 167 ((τ 140 45) - 1).toNat)), some (vB b6), none] [vB b38] τ37 Q
          refine u_if_ne (tgt := 74) (pc' := 65) dX11_goesOn_62 rfl (by decide) (bI_R _) (fun hb => ?_) (fun hb => ?_)
          · have h := h.1 (bI_n0.mp hb)
            refine u_aload_n (i := 0) (pc' := 75) dX11_goesOn_74 rfl rfl rfl ?_
            refine u_aload_n (i := 0) (pc' := 76) dX11_goesOn_75 rfl rfl rfl ?_
            refine u_bipush (pc' := 78) dX11_goesOn_76 rfl (by decide) ?_
            refine u_invV (q' := qX11_isSign) (As := [vI 43]) (st := [vR 140]) (pc' := 81) dX11_goesOn_78 rfl gX11_isSign wm_1507 rfl rfl (by decide) kd_140 wm_1509 wp_81 rfl (Nat.le_of_ble_eq_true rfl) (M0.mono h (fun v τ39 h => ?_))
            obtain ⟨b40, rfl, h⟩ := h
            show V0 E (d + 1) qX11_goesOn 81 [some (vR 140), some (vI ((τ 140 45) - 1)), some (vI (τ 167 ((τ 140 45) - 1).toNat)), some (vB b6), none] [vB b40, vR 140] τ39 Q
            refine u_if_ne (tgt := 93) (pc' := 84) dX11_goesOn_81 rfl (by decide) (bI_R _) (fun hb => ?_) (fun hb => ?_)
            · have h := h.1 (bI_n0.mp hb)
              refine u_iconst (pc' := 94) dX11_goesOn_93 rfl ?_
              refine u_goto (tgt := 99) dX11_goesOn_94 (by decide) ?_
              exact u_less (ls' := [some (vR 140), none, none, none, none]) ⟨rfl, trivial⟩ h
            · have h := h.2 (bI_0.mp hb)
              refine u_aload_n (i := 0) (pc' := 85) dX11_goesOn_84 rfl rfl rfl ?_
              refine u_bipush (pc' := 87) dX11_goesOn_85 rfl (by decide) ?_
              refine u_invV (q' := qX11_isSign) (As := [vI 45]) (st := [vR 140]) (pc' := 90) dX11_goesOn_87 rfl gX11_isSign wm_1507 rfl rfl (by decide) kd_140 wm_1509 wp_81 rfl (Nat.le_of_ble_eq_true rfl) (M0.mono h (fun v τ41 h => ?_))
              obtain ⟨b42, rfl, h⟩ := h
              show V0 E (d + 1) qX11_goesOn 90 [some (vR 140), some (vI ((τ 140 45) - 1)), some (vI (τ 167 ((τ 140 45) - 1).toNat)), some (vB b6), none] [vB b42, vR 140] τ41 Q
              refine u_if_eq (tgt := 97) (pc' := 93) dX11_goesOn_90 rfl (by decide) (bI_R _) (fun hb => ?_) (fun hb => ?_)
              · have h := h.1 (bI_0.mp hb)
                refine u_bipush (pc' := 99) dX11_goesOn_97 rfl (by decide) ?_
                exact u_less (ls' := [some (vR 140), none, none, none, none]) ⟨rfl, trivial⟩ h
              · have h := h.2 (bI_n0.mp hb)
                refine u_iconst (pc' := 94) dX11_goesOn_93 rfl ?_
                refine u_goto (tgt := 99) dX11_goesOn_94 (by decide) ?_
                exact u_less (ls' := [some (vR 140), none, none, none, none]) ⟨rfl, trivial⟩ h
          · have h := h.2 (bI_0.mp hb)
            refine u_aload_n (i := 0) (pc' := 66) dX11_goesOn_65 rfl rfl rfl ?_
            refine u_bipush (pc' := 68) dX11_goesOn_66 rfl (by decide) ?_
            refine u_invV (q' := qX11_isSign) (As := [vI 37]) (st := []) (pc' := 71) dX11_goesOn_68 rfl gX11_isSign wm_1507 rfl rfl (by decide) kd_140 wm_1509 wp_81 rfl (Nat.le_of_ble_eq_true rfl) (M0.mono h (fun v τ43 h => ?_))
            obtain ⟨b44, rfl, h⟩ := h
            show V0 E (d + 1) qX11_goesOn 71 [some (vR 140), some (vI ((τ 140 45) - 1)), some (vI (τ 167 ((τ 140 45) - 1).toNat)), some (vB b6), none] [vB b44] τ43 Q
            refine u_if_eq (tgt := 175) (pc' := 74) dX11_goesOn_71 rfl (by decide) (bI_R _) (fun hb => ?_) (fun hb => ?_)
            · have h := h.1 (bI_0.mp hb)
              refine u_iload_n (i := 3) (pc' := 176) dX11_goesOn_175 rfl rfl rfl ?_
              refine u_if_eq (tgt := 272) (pc' := 179) dX11_goesOn_176 rfl (by decide) (bI_R _) (fun hb => ?_) (fun hb => ?_)
              · have h := h.1 (bI_0.mp hb)
                exact u_less (ls' := [some (vR 140), some (vI ((τ 140 45) - 1)), some (vI (τ 167 ((τ 140 45) - 1).toNat)), some (vB b6), none]) ⟨rfl, ⟨rfl, ⟨rfl, ⟨rfl, trivial⟩⟩⟩⟩ h
              · have h := h.2 (bI_n0.mp hb)
                refine u_aload_n (i := 0) (pc' := 180) dX11_goesOn_179 rfl rfl rfl ?_
                refine u_getR (a := 168) (pc' := 183) dX11_goesOn_180 rfl fl_TuneDoorModel_136 rfl (by decide) kd_140 rfl ?_
                refine u_iload_n (i := 1) (pc' := 184) dX11_goesOn_183 rfl rfl rfl ?_
                obtain ⟨c45, c46, h⟩ := h
                refine u_iaload (k := ((τ 140 45) - 1).toNat) (z := (τ43 168 ((τ 140 45) - 1).toNat)) (pc' := 185) dX11_goesOn_184 rfl (by decide) kd_168 c45 c46 (by decide) rfl rfl (fun r47 => ?_)
                refine u_if_ne (tgt := 272) (pc' := 188) dX11_goesOn_185 rfl (by decide) r47 (fun hb => ?_) (fun hb => ?_)
                · have h := h.1 hb
                  exact u_less (ls' := [some (vR 140), some (vI ((τ 140 45) - 1)), some (vI (τ 167 ((τ 140 45) - 1).toNat)), some (vB b6), none]) ⟨rfl, ⟨rfl, ⟨rfl, ⟨rfl, trivial⟩⟩⟩⟩ h
                · have h := h.2 hb
                  refine u_aload_n (i := 0) (pc' := 189) dX11_goesOn_188 rfl rfl rfl ?_
                  refine u_bipush (pc' := 191) dX11_goesOn_189 rfl (by decide) ?_
                  refine u_invV (q' := qX11_isSign) (As := [vI 60]) (st := []) (pc' := 194) dX11_goesOn_191 rfl gX11_isSign wm_1507 rfl rfl (by decide) kd_140 wm_1509 wp_81 rfl (Nat.le_of_ble_eq_true rfl) (M0.mono h (fun v τ48 h => ?_))
                  obtain ⟨b49, rfl, h⟩ := h
                  show V0 E (d + 1) qX11_goesOn 194 [some (vR 140), some (vI ((τ 140 45) - 1)), some (vI (τ 167 ((τ 140 45) - 1).toNat)), some (vB b6), none] [vB b49] τ48 Q
                  refine u_if_ne (tgt := 215) (pc' := 197) dX11_goesOn_194 rfl (by decide) (bI_R _) (fun hb => ?_) (fun hb => ?_)
                  · have h := h.1 (bI_n0.mp hb)
                    exact u_less (ls' := [some (vR 140), some (vI ((τ 140 45) - 1)), none, none, none]) ⟨rfl, ⟨rfl, trivial⟩⟩ h
                  · have h := h.2 (bI_0.mp hb)
                    refine u_aload_n (i := 0) (pc' := 198) dX11_goesOn_197 rfl rfl rfl ?_
                    refine u_bipush (pc' := 200) dX11_goesOn_198 rfl (by decide) ?_
                    refine u_invV (q' := qX11_isSign) (As := [vI 62]) (st := []) (pc' := 203) dX11_goesOn_200 rfl gX11_isSign wm_1507 rfl rfl (by decide) kd_140 wm_1509 wp_81 rfl (Nat.le_of_ble_eq_true rfl) (M0.mono h (fun v τ50 h => ?_))
                    obtain ⟨b51, rfl, h⟩ := h
                    show V0 E (d + 1) qX11_goesOn 203 [some (vR 140), some (vI ((τ 140 45) - 1)), some (vI (τ 167 ((τ 140 45) - 1).toNat)), some (vB b6), none] [vB b51] τ50 Q
                    refine u_if_ne (tgt := 215) (pc' := 206) dX11_goesOn_203 rfl (by decide) (bI_R _) (fun hb => ?_) (fun hb => ?_)
                    · have h := h.1 (bI_n0.mp hb)
                      exact u_less (ls' := [some (vR 140), some (vI ((τ 140 45) - 1)), none, none, none]) ⟨rfl, ⟨rfl, trivial⟩⟩ h
                    · have h := h.2 (bI_0.mp hb)
                      refine u_aload_n (i := 0) (pc' := 207) dX11_goesOn_206 rfl rfl rfl ?_
                      refine u_bipush (pc' := 209) dX11_goesOn_207 rfl (by decide) ?_
                      refine u_invV (q' := qX11_isSign) (As := [vI 61]) (st := []) (pc' := 212) dX11_goesOn_209 rfl gX11_isSign wm_1507 rfl rfl (by decide) kd_140 wm_1509 wp_81 rfl (Nat.le_of_ble_eq_true rfl) (M0.mono h (fun v τ52 h => ?_))
                      obtain ⟨b53, rfl, h⟩ := h
                      show V0 E (d + 1) qX11_goesOn 212 [some (vR 140), some (vI ((τ 140 45) - 1)), some (vI (τ 167 ((τ 140 45) - 1).toNat)), some (vB b6), none] [vB b53] τ52 Q
                      refine u_if_eq (tgt := 272) (pc' := 215) dX11_goesOn_212 rfl (by decide) (bI_R _) (fun hb => ?_) (fun hb => ?_)
                      · have h := h.1 (bI_0.mp hb)
                        exact u_less (ls' := [some (vR 140), some (vI ((τ 140 45) - 1)), some (vI (τ 167 ((τ 140 45) - 1).toNat)), some (vB b6), none]) ⟨rfl, ⟨rfl, ⟨rfl, ⟨rfl, trivial⟩⟩⟩⟩ h
                      · have h := h.2 (bI_n0.mp hb)
                        exact u_less (ls' := [some (vR 140), some (vI ((τ 140 45) - 1)), none, none, none]) ⟨rfl, ⟨rfl, trivial⟩⟩ h
            · have h := h.2 (bI_n0.mp hb)
              refine u_aload_n (i := 0) (pc' := 75) dX11_goesOn_74 rfl rfl rfl ?_
              refine u_aload_n (i := 0) (pc' := 76) dX11_goesOn_75 rfl rfl rfl ?_
              refine u_bipush (pc' := 78) dX11_goesOn_76 rfl (by decide) ?_
              refine u_invV (q' := qX11_isSign) (As := [vI 43]) (st := [vR 140]) (pc' := 81) dX11_goesOn_78 rfl gX11_isSign wm_1507 rfl rfl (by decide) kd_140 wm_1509 wp_81 rfl (Nat.le_of_ble_eq_true rfl) (M0.mono h (fun v τ54 h => ?_))
              obtain ⟨b55, rfl, h⟩ := h
              show V0 E (d + 1) qX11_goesOn 81 [some (vR 140), some (vI ((τ 140 45) - 1)), some (vI (τ 167 ((τ 140 45) - 1).toNat)), some (vB b6), none] [vB b55, vR 140] τ54 Q
              refine u_if_ne (tgt := 93) (pc' := 84) dX11_goesOn_81 rfl (by decide) (bI_R _) (fun hb => ?_) (fun hb => ?_)
              · have h := h.1 (bI_n0.mp hb)
                refine u_iconst (pc' := 94) dX11_goesOn_93 rfl ?_
                refine u_goto (tgt := 99) dX11_goesOn_94 (by decide) ?_
                exact u_less (ls' := [some (vR 140), none, none, none, none]) ⟨rfl, trivial⟩ h
              · have h := h.2 (bI_0.mp hb)
                refine u_aload_n (i := 0) (pc' := 85) dX11_goesOn_84 rfl rfl rfl ?_
                refine u_bipush (pc' := 87) dX11_goesOn_85 rfl (by decide) ?_
                refine u_invV (q' := qX11_isSign) (As := [vI 45]) (st := [vR 140]) (pc' := 90) dX11_goesOn_87 rfl gX11_isSign wm_1507 rfl rfl (by decide) kd_140 wm_1509 wp_81 rfl (Nat.le_of_ble_eq_true rfl) (M0.mono h (fun v τ56 h => ?_))
                obtain ⟨b57, rfl, h⟩ := h
                show V0 E (d + 1) qX11_goesOn 90 [some (vR 140), some (vI ((τ 140 45) - 1)), some (vI (τ 167 ((τ 140 45) - 1).toNat)), some (vB b6), none] [vB b57, vR 140] τ56 Q
                refine u_if_eq (tgt := 97) (pc' := 93) dX11_goesOn_90 rfl (by decide) (bI_R _) (fun hb => ?_) (fun hb => ?_)
                · have h := h.1 (bI_0.mp hb)
                  refine u_bipush (pc' := 99) dX11_goesOn_97 rfl (by decide) ?_
                  exact u_less (ls' := [some (vR 140), none, none, none, none]) ⟨rfl, trivial⟩ h
                · have h := h.2 (bI_n0.mp hb)
                  refine u_iconst (pc' := 94) dX11_goesOn_93 rfl ?_
                  refine u_goto (tgt := 99) dX11_goesOn_94 (by decide) ?_
                  exact u_less (ls' := [some (vR 140), none, none, none, none]) ⟨rfl, trivial⟩ h
theorem mX11_goesOn {E : mm_Env} {d : Nat} {τ : mm_Mem} {Q : mm_Q0}  (h : 0 ≤ ((τ 140 45) - 1) ∧ ((τ 140 45) - 1) < 20 ∧ M0 E d qX11_isTest [vI (τ 167 ((τ 140 45) - 1).toNat)] τ (fun v τ5 => ∃ b6 : Bool, v = some (vB b6) ∧ 0 ≤ ((τ 140 45) - 1) ∧ ((τ 140 45) - 1) < 20 ∧ ((2 ≤ (τ5 168 ((τ 140 45) - 1).toNat) → ((b6 = false → V0 E (d + 1) qX11_goesOn 272 [some (vR 140), some (vI ((τ 140 45) - 1)), some (vI (τ 167 ((τ 140 45) - 1).toNat)), some (vB b6), none] [] τ5 Q) ∧ (b6 = true → 0 ≤ ((τ 140 45) - 1) ∧ ((τ 140 45) - 1) < 20 ∧ (((τ5 168 ((τ 140 45) - 1).toNat) ≠ 0 → V0 E (d + 1) qX11_goesOn 272 [some (vR 140), some (vI ((τ 140 45) - 1)), some (vI (τ 167 ((τ 140 45) - 1).toNat)), some (vB b6), none] [] τ5 Q) ∧ ((τ5 168 ((τ 140 45) - 1).toNat) = 0 → M0 E d qX11_isSign [vR 140, vI 60] τ5 (fun v τ13 => ∃ b14 : Bool, v = some (vB b14) ∧ ((b14 = true → V0 E (d + 1) qX11_goesOn 215 [some (vR 140), some (vI ((τ 140 45) - 1)), none, none, none] [] τ13 Q) ∧ (b14 = false → M0 E d qX11_isSign [vR 140, vI 62] τ13 (fun v τ15 => ∃ b16 : Bool, v = some (vB b16) ∧ ((b16 = true → V0 E (d + 1) qX11_goesOn 215 [some (vR 140), some (vI ((τ 140 45) - 1)), none, none, none] [] τ15 Q) ∧ (b16 = false → M0 E d qX11_isSign [vR 140, vI 61] τ15 (fun v τ17 => ∃ b18 : Bool, v = some (vB b18) ∧ ((b18 = false → V0 E (d + 1) qX11_goesOn 272 [some (vR 140), some (vI ((τ 140 45) - 1)), some (vI (τ 167 ((τ 140 45) - 1).toNat)), some (vB b6), none] [] τ17 Q) ∧ (b18 = true → V0 E (d + 1) qX11_goesOn 215 [some (vR 140), some (vI ((τ 140 45) - 1)), none, none, none] [] τ17 Q)))))))))))))) ∧ (¬ 2 ≤ (τ5 168 ((τ 140 45) - 1).toNat) → M0 E d qX11_isSign [vR 140, vI 43] τ5 (fun v τ19 => ∃ b20 : Bool, v = some (vB b20) ∧ ((b20 = true → M0 E d qX11_isSign [vR 140, vI 43] τ19 (fun v τ21 => ∃ b22 : Bool, v = some (vB b22) ∧ ((b22 = true → V0 E (d + 1) qX11_goesOn 99 [some (vR 140), none, none, none, none] [vI 5, vR 140] τ21 Q) ∧ (b22 = false → M0 E d qX11_isSign [vR 140, vI 45] τ21 (fun v τ23 => ∃ b24 : Bool, v = some (vB b24) ∧ ((b24 = false → V0 E (d + 1) qX11_goesOn 99 [some (vR 140), none, none, none, none] [vI 6, vR 140] τ23 Q) ∧ (b24 = true → V0 E (d + 1) qX11_goesOn 99 [some (vR 140), none, none, none, none] [vI 5, vR 140] τ23 Q))))))) ∧ (b20 = false → M0 E d qX11_isSign [vR 140, vI 45] τ19 (fun v τ25 => ∃ b26 : Bool, v = some (vB b26) ∧ ((b26 = true → M0 E d qX11_isSign [vR 140, vI 43] τ25 (fun v τ27 => ∃ b28 : Bool, v = some (vB b28) ∧ ((b28 = true → V0 E (d + 1) qX11_goesOn 99 [some (vR 140), none, none, none, none] [vI 5, vR 140] τ27 Q) ∧ (b28 = false → M0 E d qX11_isSign [vR 140, vI 45] τ27 (fun v τ29 => ∃ b30 : Bool, v = some (vB b30) ∧ ((b30 = false → V0 E (d + 1) qX11_goesOn 99 [some (vR 140), none, none, none, none] [vI 6, vR 140] τ29 Q) ∧ (b30 = true → V0 E (d + 1) qX11_goesOn 99 [some (vR 140), none, none, none, none] [vI 5, vR 140] τ29 Q))))))) ∧ (b26 = false → M0 E d qX11_isSign [vR 140, vI 42] τ25 (fun v τ31 => ∃ b32 : Bool, v = some (vB b32) ∧ ((b32 = true → M0 E d qX11_isSign [vR 140, vI 43] τ31 (fun v τ33 => ∃ b34 : Bool, v = some (vB b34) ∧ ((b34 = true → V0 E (d + 1) qX11_goesOn 99 [some (vR 140), none, none, none, none] [vI 5, vR 140] τ33 Q) ∧ (b34 = false → M0 E d qX11_isSign [vR 140, vI 45] τ33 (fun v τ35 => ∃ b36 : Bool, v = some (vB b36) ∧ ((b36 = false → V0 E (d + 1) qX11_goesOn 99 [some (vR 140), none, none, none, none] [vI 6, vR 140] τ35 Q) ∧ (b36 = true → V0 E (d + 1) qX11_goesOn 99 [some (vR 140), none, none, none, none] [vI 5, vR 140] τ35 Q))))))) ∧ (b32 = false → M0 E d qX11_isSign [vR 140, vI 47] τ31 (fun v τ37 => ∃ b38 : Bool, v = some (vB b38) ∧ ((b38 = true → M0 E d qX11_isSign [vR 140, vI 43] τ37 (fun v τ39 => ∃ b40 : Bool, v = some (vB b40) ∧ ((b40 = true → V0 E (d + 1) qX11_goesOn 99 [some (vR 140), none, none, none, none] [vI 5, vR 140] τ39 Q) ∧ (b40 = false → M0 E d qX11_isSign [vR 140, vI 45] τ39 (fun v τ41 => ∃ b42 : Bool, v = some (vB b42) ∧ ((b42 = false → V0 E (d + 1) qX11_goesOn 99 [some (vR 140), none, none, none, none] [vI 6, vR 140] τ41 Q) ∧ (b42 = true → V0 E (d + 1) qX11_goesOn 99 [some (vR 140), none, none, none, none] [vI 5, vR 140] τ41 Q))))))) ∧ (b38 = false → M0 E d qX11_isSign [vR 140, vI 37] τ37 (fun v τ43 => ∃ b44 : Bool, v = some (vB b44) ∧ ((b44 = false → ((b6 = false → V0 E (d + 1) qX11_goesOn 272 [some (vR 140), some (vI ((τ 140 45) - 1)), some (vI (τ 167 ((τ 140 45) - 1).toNat)), some (vB b6), none] [] τ43 Q) ∧ (b6 = true → 0 ≤ ((τ 140 45) - 1) ∧ ((τ 140 45) - 1) < 20 ∧ (((τ43 168 ((τ 140 45) - 1).toNat) ≠ 0 → V0 E (d + 1) qX11_goesOn 272 [some (vR 140), some (vI ((τ 140 45) - 1)), some (vI (τ 167 ((τ 140 45) - 1).toNat)), some (vB b6), none] [] τ43 Q) ∧ ((τ43 168 ((τ 140 45) - 1).toNat) = 0 → M0 E d qX11_isSign [vR 140, vI 60] τ43 (fun v τ48 => ∃ b49 : Bool, v = some (vB b49) ∧ ((b49 = true → V0 E (d + 1) qX11_goesOn 215 [some (vR 140), some (vI ((τ 140 45) - 1)), none, none, none] [] τ48 Q) ∧ (b49 = false → M0 E d qX11_isSign [vR 140, vI 62] τ48 (fun v τ50 => ∃ b51 : Bool, v = some (vB b51) ∧ ((b51 = true → V0 E (d + 1) qX11_goesOn 215 [some (vR 140), some (vI ((τ 140 45) - 1)), none, none, none] [] τ50 Q) ∧ (b51 = false → M0 E d qX11_isSign [vR 140, vI 61] τ50 (fun v τ52 => ∃ b53 : Bool, v = some (vB b53) ∧ ((b53 = false → V0 E (d + 1) qX11_goesOn 272 [some (vR 140), some (vI ((τ 140 45) - 1)), some (vI (τ 167 ((τ 140 45) - 1).toNat)), some (vB b6), none] [] τ52 Q) ∧ (b53 = true → V0 E (d + 1) qX11_goesOn 215 [some (vR 140), some (vI ((τ 140 45) - 1)), none, none, none] [] τ52 Q)))))))))))))) ∧ (b44 = true → M0 E d qX11_isSign [vR 140, vI 43] τ43 (fun v τ54 => ∃ b55 : Bool, v = some (vB b55) ∧ ((b55 = true → V0 E (d + 1) qX11_goesOn 99 [some (vR 140), none, none, none, none] [vI 5, vR 140] τ54 Q) ∧ (b55 = false → M0 E d qX11_isSign [vR 140, vI 45] τ54 (fun v τ56 => ∃ b57 : Bool, v = some (vB b57) ∧ ((b57 = false → V0 E (d + 1) qX11_goesOn 99 [some (vR 140), none, none, none, none] [vI 6, vR 140] τ56 Q) ∧ (b57 = true → V0 E (d + 1) qX11_goesOn 99 [some (vR 140), none, none, none, none] [vI 5, vR 140] τ56 Q))))))))))))))))))))))))) : M0 E (d + 1) qX11_goesOn [vR 140] τ Q := M0_of rfl (Nat.le_of_ble_eq_true rfl) [some (vR 140), none, none, none, none] rfl (bX11_goesOn_0  h)
set_option maxRecDepth 20000 in
theorem bX11_goesOn_99 {E : mm_Env} {d : Nat} {τ : mm_Mem} {Q : mm_Q0} {y0 : Int} (h : M0 E d qX11_joins [vR 140, vI y0] τ (fun v τ1 => v = none ∧ M0 E d qX11_isSign [vR 140, vI 43] τ1 (fun v τ2 => ∃ b3 : Bool, v = some (vB b3) ∧ ((b3 = false → M0 E d qX11_isSign [vR 140, vI 45] τ2 (fun v τ4 => ∃ b5 : Bool, v = some (vB b5) ∧ ((b5 = false → M0 E d qX11_isSign [vR 140, vI 42] τ4 (fun v τ6 => ∃ b7 : Bool, v = some (vB b7) ∧ ((b7 = false → M0 E d qX11_isSign [vR 140, vI 47] τ6 (fun v τ8 => ∃ b9 : Bool, v = some (vB b9) ∧ ((b9 = false → M0 E d qX11_holdsBack [vR 140, vI 14] τ8 (fun v τ10 => v = none ∧ M0 E d qX11_ahead [vR 140] τ10 (fun v τ11 => v = none ∧ Q (some (vB true)) (wr τ11 140 49 0)))) ∧ (b9 = true → M0 E d qX11_holdsBack [vR 140, vI 13] τ8 (fun v τ12 => v = none ∧ M0 E d qX11_ahead [vR 140] τ12 (fun v τ13 => v = none ∧ Q (some (vB true)) (wr τ13 140 49 0))))))) ∧ (b7 = true → M0 E d qX11_holdsBack [vR 140, vI 12] τ6 (fun v τ14 => v = none ∧ M0 E d qX11_ahead [vR 140] τ14 (fun v τ15 => v = none ∧ Q (some (vB true)) (wr τ15 140 49 0))))))) ∧ (b5 = true → M0 E d qX11_holdsBack [vR 140, vI 11] τ4 (fun v τ16 => v = none ∧ M0 E d qX11_ahead [vR 140] τ16 (fun v τ17 => v = none ∧ Q (some (vB true)) (wr τ17 140 49 0))))))) ∧ (b3 = true → M0 E d qX11_holdsBack [vR 140, vI 10] τ2 (fun v τ18 => v = none ∧ M0 E d qX11_ahead [vR 140] τ18 (fun v τ19 => v = none ∧ Q (some (vB true)) (wr τ19 140 49 0)))))))) : V0 E (d + 1) qX11_goesOn 99 [some (vR 140), none, none, none, none] [vI y0, vR 140] τ Q := by
  refine u_invV (q' := qX11_joins) (As := [vI y0]) (st := []) (pc' := 102) dX11_goesOn_99 rfl gX11_joins wm_1601 rfl rfl (by decide) kd_140 wm_1603 wp_97 rfl (Nat.le_of_ble_eq_true rfl) (M0.mono h (fun v τ1 h => ?_))
  obtain ⟨rfl, h⟩ := h
  show V0 E (d + 1) qX11_goesOn 102 [some (vR 140), none, none, none, none] [] τ1 Q
  refine u_aload_n (i := 0) (pc' := 103) dX11_goesOn_102 rfl rfl rfl ?_
  refine u_aload_n (i := 0) (pc' := 104) dX11_goesOn_103 rfl rfl rfl ?_
  refine u_bipush (pc' := 106) dX11_goesOn_104 rfl (by decide) ?_
  refine u_invV (q' := qX11_isSign) (As := [vI 43]) (st := [vR 140]) (pc' := 109) dX11_goesOn_106 rfl gX11_isSign wm_1507 rfl rfl (by decide) kd_140 wm_1509 wp_81 rfl (Nat.le_of_ble_eq_true rfl) (M0.mono h (fun v τ2 h => ?_))
  obtain ⟨b3, rfl, h⟩ := h
  show V0 E (d + 1) qX11_goesOn 109 [some (vR 140), none, none, none, none] [vB b3, vR 140] τ2 Q
  refine u_if_eq (tgt := 117) (pc' := 112) dX11_goesOn_109 rfl (by decide) (bI_R _) (fun hb => ?_) (fun hb => ?_)
  · have h := h.1 (bI_0.mp hb)
    refine u_aload_n (i := 0) (pc' := 118) dX11_goesOn_117 rfl rfl rfl ?_
    refine u_bipush (pc' := 120) dX11_goesOn_118 rfl (by decide) ?_
    refine u_invV (q' := qX11_isSign) (As := [vI 45]) (st := [vR 140]) (pc' := 123) dX11_goesOn_120 rfl gX11_isSign wm_1507 rfl rfl (by decide) kd_140 wm_1509 wp_81 rfl (Nat.le_of_ble_eq_true rfl) (M0.mono h (fun v τ4 h => ?_))
    obtain ⟨b5, rfl, h⟩ := h
    show V0 E (d + 1) qX11_goesOn 123 [some (vR 140), none, none, none, none] [vB b5, vR 140] τ4 Q
    refine u_if_eq (tgt := 131) (pc' := 126) dX11_goesOn_123 rfl (by decide) (bI_R _) (fun hb => ?_) (fun hb => ?_)
    · have h := h.1 (bI_0.mp hb)
      refine u_aload_n (i := 0) (pc' := 132) dX11_goesOn_131 rfl rfl rfl ?_
      refine u_bipush (pc' := 134) dX11_goesOn_132 rfl (by decide) ?_
      refine u_invV (q' := qX11_isSign) (As := [vI 42]) (st := [vR 140]) (pc' := 137) dX11_goesOn_134 rfl gX11_isSign wm_1507 rfl rfl (by decide) kd_140 wm_1509 wp_81 rfl (Nat.le_of_ble_eq_true rfl) (M0.mono h (fun v τ6 h => ?_))
      obtain ⟨b7, rfl, h⟩ := h
      show V0 E (d + 1) qX11_goesOn 137 [some (vR 140), none, none, none, none] [vB b7, vR 140] τ6 Q
      refine u_if_eq (tgt := 145) (pc' := 140) dX11_goesOn_137 rfl (by decide) (bI_R _) (fun hb => ?_) (fun hb => ?_)
      · have h := h.1 (bI_0.mp hb)
        refine u_aload_n (i := 0) (pc' := 146) dX11_goesOn_145 rfl rfl rfl ?_
        refine u_bipush (pc' := 148) dX11_goesOn_146 rfl (by decide) ?_
        refine u_invV (q' := qX11_isSign) (As := [vI 47]) (st := [vR 140]) (pc' := 151) dX11_goesOn_148 rfl gX11_isSign wm_1507 rfl rfl (by decide) kd_140 wm_1509 wp_81 rfl (Nat.le_of_ble_eq_true rfl) (M0.mono h (fun v τ8 h => ?_))
        obtain ⟨b9, rfl, h⟩ := h
        show V0 E (d + 1) qX11_goesOn 151 [some (vR 140), none, none, none, none] [vB b9, vR 140] τ8 Q
        refine u_if_eq (tgt := 159) (pc' := 154) dX11_goesOn_151 rfl (by decide) (bI_R _) (fun hb => ?_) (fun hb => ?_)
        · have h := h.1 (bI_0.mp hb)
          refine u_bipush (pc' := 161) dX11_goesOn_159 rfl (by decide) ?_
          refine u_invV (q' := qX11_holdsBack) (As := [vI 14]) (st := []) (pc' := 164) dX11_goesOn_161 rfl gX11_holdsBack wm_1585 rfl rfl (by decide) kd_140 wm_1587 wp_93 rfl (Nat.le_of_ble_eq_true rfl) (M0.mono h (fun v τ10 h => ?_))
          obtain ⟨rfl, h⟩ := h
          show V0 E (d + 1) qX11_goesOn 164 [some (vR 140), none, none, none, none] [] τ10 Q
          refine u_aload_n (i := 0) (pc' := 165) dX11_goesOn_164 rfl rfl rfl ?_
          refine u_invV (q' := qX11_ahead) (As := []) (st := []) (pc' := 168) dX11_goesOn_165 rfl gX11_ahead wm_1468 rfl rfl (by decide) kd_140 wm_1470 wp_74 rfl (Nat.le_of_ble_eq_true rfl) (M0.mono h (fun v τ11 h => ?_))
          obtain ⟨rfl, h⟩ := h
          show V0 E (d + 1) qX11_goesOn 168 [some (vR 140), none, none, none, none] [] τ11 Q
          refine u_aload_n (i := 0) (pc' := 169) dX11_goesOn_168 rfl rfl rfl ?_
          refine u_iconst (pc' := 170) dX11_goesOn_169 rfl ?_
          refine u_putZ (b := false) (pc' := 173) dX11_goesOn_170 rfl fl_TuneDoorModel_161 rfl rfl (by decide) (by decide) kd_140 rfl ?_
          refine u_iconst (pc' := 174) dX11_goesOn_173 rfl ?_
          exact u_zret (b := true) dX11_goesOn_174 rfl rfl h
        · have h := h.2 (bI_n0.mp hb)
          refine u_bipush (pc' := 156) dX11_goesOn_154 rfl (by decide) ?_
          refine u_goto (tgt := 161) dX11_goesOn_156 (by decide) ?_
          refine u_invV (q' := qX11_holdsBack) (As := [vI 13]) (st := []) (pc' := 164) dX11_goesOn_161 rfl gX11_holdsBack wm_1585 rfl rfl (by decide) kd_140 wm_1587 wp_93 rfl (Nat.le_of_ble_eq_true rfl) (M0.mono h (fun v τ12 h => ?_))
          obtain ⟨rfl, h⟩ := h
          show V0 E (d + 1) qX11_goesOn 164 [some (vR 140), none, none, none, none] [] τ12 Q
          refine u_aload_n (i := 0) (pc' := 165) dX11_goesOn_164 rfl rfl rfl ?_
          refine u_invV (q' := qX11_ahead) (As := []) (st := []) (pc' := 168) dX11_goesOn_165 rfl gX11_ahead wm_1468 rfl rfl (by decide) kd_140 wm_1470 wp_74 rfl (Nat.le_of_ble_eq_true rfl) (M0.mono h (fun v τ13 h => ?_))
          obtain ⟨rfl, h⟩ := h
          show V0 E (d + 1) qX11_goesOn 168 [some (vR 140), none, none, none, none] [] τ13 Q
          refine u_aload_n (i := 0) (pc' := 169) dX11_goesOn_168 rfl rfl rfl ?_
          refine u_iconst (pc' := 170) dX11_goesOn_169 rfl ?_
          refine u_putZ (b := false) (pc' := 173) dX11_goesOn_170 rfl fl_TuneDoorModel_161 rfl rfl (by decide) (by decide) kd_140 rfl ?_
          refine u_iconst (pc' := 174) dX11_goesOn_173 rfl ?_
          exact u_zret (b := true) dX11_goesOn_174 rfl rfl h
      · have h := h.2 (bI_n0.mp hb)
        refine u_bipush (pc' := 142) dX11_goesOn_140 rfl (by decide) ?_
        refine u_goto (tgt := 161) dX11_goesOn_142 (by decide) ?_
        refine u_invV (q' := qX11_holdsBack) (As := [vI 12]) (st := []) (pc' := 164) dX11_goesOn_161 rfl gX11_holdsBack wm_1585 rfl rfl (by decide) kd_140 wm_1587 wp_93 rfl (Nat.le_of_ble_eq_true rfl) (M0.mono h (fun v τ14 h => ?_))
        obtain ⟨rfl, h⟩ := h
        show V0 E (d + 1) qX11_goesOn 164 [some (vR 140), none, none, none, none] [] τ14 Q
        refine u_aload_n (i := 0) (pc' := 165) dX11_goesOn_164 rfl rfl rfl ?_
        refine u_invV (q' := qX11_ahead) (As := []) (st := []) (pc' := 168) dX11_goesOn_165 rfl gX11_ahead wm_1468 rfl rfl (by decide) kd_140 wm_1470 wp_74 rfl (Nat.le_of_ble_eq_true rfl) (M0.mono h (fun v τ15 h => ?_))
        obtain ⟨rfl, h⟩ := h
        show V0 E (d + 1) qX11_goesOn 168 [some (vR 140), none, none, none, none] [] τ15 Q
        refine u_aload_n (i := 0) (pc' := 169) dX11_goesOn_168 rfl rfl rfl ?_
        refine u_iconst (pc' := 170) dX11_goesOn_169 rfl ?_
        refine u_putZ (b := false) (pc' := 173) dX11_goesOn_170 rfl fl_TuneDoorModel_161 rfl rfl (by decide) (by decide) kd_140 rfl ?_
        refine u_iconst (pc' := 174) dX11_goesOn_173 rfl ?_
        exact u_zret (b := true) dX11_goesOn_174 rfl rfl h
    · have h := h.2 (bI_n0.mp hb)
      refine u_bipush (pc' := 128) dX11_goesOn_126 rfl (by decide) ?_
      refine u_goto (tgt := 161) dX11_goesOn_128 (by decide) ?_
      refine u_invV (q' := qX11_holdsBack) (As := [vI 11]) (st := []) (pc' := 164) dX11_goesOn_161 rfl gX11_holdsBack wm_1585 rfl rfl (by decide) kd_140 wm_1587 wp_93 rfl (Nat.le_of_ble_eq_true rfl) (M0.mono h (fun v τ16 h => ?_))
      obtain ⟨rfl, h⟩ := h
      show V0 E (d + 1) qX11_goesOn 164 [some (vR 140), none, none, none, none] [] τ16 Q
      refine u_aload_n (i := 0) (pc' := 165) dX11_goesOn_164 rfl rfl rfl ?_
      refine u_invV (q' := qX11_ahead) (As := []) (st := []) (pc' := 168) dX11_goesOn_165 rfl gX11_ahead wm_1468 rfl rfl (by decide) kd_140 wm_1470 wp_74 rfl (Nat.le_of_ble_eq_true rfl) (M0.mono h (fun v τ17 h => ?_))
      obtain ⟨rfl, h⟩ := h
      show V0 E (d + 1) qX11_goesOn 168 [some (vR 140), none, none, none, none] [] τ17 Q
      refine u_aload_n (i := 0) (pc' := 169) dX11_goesOn_168 rfl rfl rfl ?_
      refine u_iconst (pc' := 170) dX11_goesOn_169 rfl ?_
      refine u_putZ (b := false) (pc' := 173) dX11_goesOn_170 rfl fl_TuneDoorModel_161 rfl rfl (by decide) (by decide) kd_140 rfl ?_
      refine u_iconst (pc' := 174) dX11_goesOn_173 rfl ?_
      exact u_zret (b := true) dX11_goesOn_174 rfl rfl h
  · have h := h.2 (bI_n0.mp hb)
    refine u_bipush (pc' := 114) dX11_goesOn_112 rfl (by decide) ?_
    refine u_goto (tgt := 161) dX11_goesOn_114 (by decide) ?_
    refine u_invV (q' := qX11_holdsBack) (As := [vI 10]) (st := []) (pc' := 164) dX11_goesOn_161 rfl gX11_holdsBack wm_1585 rfl rfl (by decide) kd_140 wm_1587 wp_93 rfl (Nat.le_of_ble_eq_true rfl) (M0.mono h (fun v τ18 h => ?_))
    obtain ⟨rfl, h⟩ := h
    show V0 E (d + 1) qX11_goesOn 164 [some (vR 140), none, none, none, none] [] τ18 Q
    refine u_aload_n (i := 0) (pc' := 165) dX11_goesOn_164 rfl rfl rfl ?_
    refine u_invV (q' := qX11_ahead) (As := []) (st := []) (pc' := 168) dX11_goesOn_165 rfl gX11_ahead wm_1468 rfl rfl (by decide) kd_140 wm_1470 wp_74 rfl (Nat.le_of_ble_eq_true rfl) (M0.mono h (fun v τ19 h => ?_))
    obtain ⟨rfl, h⟩ := h
    show V0 E (d + 1) qX11_goesOn 168 [some (vR 140), none, none, none, none] [] τ19 Q
    refine u_aload_n (i := 0) (pc' := 169) dX11_goesOn_168 rfl rfl rfl ?_
    refine u_iconst (pc' := 170) dX11_goesOn_169 rfl ?_
    refine u_putZ (b := false) (pc' := 173) dX11_goesOn_170 rfl fl_TuneDoorModel_161 rfl rfl (by decide) (by decide) kd_140 rfl ?_
    refine u_iconst (pc' := 174) dX11_goesOn_173 rfl ?_
    exact u_zret (b := true) dX11_goesOn_174 rfl rfl h
set_option maxRecDepth 20000 in
theorem bX11_goesOn_215 {E : mm_Env} {d : Nat} {τ : mm_Mem} {Q : mm_Q0} {x1 : Int} (h : M0 E d qX11_joins [vR 140, vI 5] τ (fun v τ1 => v = none ∧ M0 E d qX11_isSign [vR 140, vI 60] τ1 (fun v τ2 => ∃ b3 : Bool, v = some (vB b3) ∧ ((b3 = false → M0 E d qX11_isSign [vR 140, vI 62] τ2 (fun v τ4 => ∃ b5 : Bool, v = some (vB b5) ∧ ((b5 = false → M0 E d qX11_holdsBack [vR 140, vI 19] τ4 (fun v τ6 => v = none ∧ 0 ≤ x1 ∧ x1 < 20 ∧ M0 E d qX11_ahead [vR 140] (wr τ6 168 x1.toNat 1) (fun v τ9 => v = none ∧ Q (some (vB true)) (wr τ9 140 49 0)))) ∧ (b5 = true → M0 E d qX11_holdsBack [vR 140, vI 18] τ4 (fun v τ10 => v = none ∧ 0 ≤ x1 ∧ x1 < 20 ∧ M0 E d qX11_ahead [vR 140] (wr τ10 168 x1.toNat 1) (fun v τ13 => v = none ∧ Q (some (vB true)) (wr τ13 140 49 0))))))) ∧ (b3 = true → M0 E d qX11_holdsBack [vR 140, vI 17] τ2 (fun v τ14 => v = none ∧ 0 ≤ x1 ∧ x1 < 20 ∧ M0 E d qX11_ahead [vR 140] (wr τ14 168 x1.toNat 1) (fun v τ17 => v = none ∧ Q (some (vB true)) (wr τ17 140 49 0)))))))) : V0 E (d + 1) qX11_goesOn 215 [some (vR 140), some (vI x1), none, none, none] [] τ Q := by
  refine u_aload_n (i := 0) (pc' := 216) dX11_goesOn_215 rfl rfl rfl ?_
  refine u_iconst (pc' := 217) dX11_goesOn_216 rfl ?_
  refine u_invV (q' := qX11_joins) (As := [vI 5]) (st := []) (pc' := 220) dX11_goesOn_217 rfl gX11_joins wm_1601 rfl rfl (by decide) kd_140 wm_1603 wp_97 rfl (Nat.le_of_ble_eq_true rfl) (M0.mono h (fun v τ1 h => ?_))
  obtain ⟨rfl, h⟩ := h
  show V0 E (d + 1) qX11_goesOn 220 [some (vR 140), some (vI x1), none, none, none] [] τ1 Q
  refine u_aload_n (i := 0) (pc' := 221) dX11_goesOn_220 rfl rfl rfl ?_
  refine u_aload_n (i := 0) (pc' := 222) dX11_goesOn_221 rfl rfl rfl ?_
  refine u_bipush (pc' := 224) dX11_goesOn_222 rfl (by decide) ?_
  refine u_invV (q' := qX11_isSign) (As := [vI 60]) (st := [vR 140]) (pc' := 227) dX11_goesOn_224 rfl gX11_isSign wm_1507 rfl rfl (by decide) kd_140 wm_1509 wp_81 rfl (Nat.le_of_ble_eq_true rfl) (M0.mono h (fun v τ2 h => ?_))
  obtain ⟨b3, rfl, h⟩ := h
  show V0 E (d + 1) qX11_goesOn 227 [some (vR 140), some (vI x1), none, none, none] [vB b3, vR 140] τ2 Q
  refine u_if_eq (tgt := 235) (pc' := 230) dX11_goesOn_227 rfl (by decide) (bI_R _) (fun hb => ?_) (fun hb => ?_)
  · have h := h.1 (bI_0.mp hb)
    refine u_aload_n (i := 0) (pc' := 236) dX11_goesOn_235 rfl rfl rfl ?_
    refine u_bipush (pc' := 238) dX11_goesOn_236 rfl (by decide) ?_
    refine u_invV (q' := qX11_isSign) (As := [vI 62]) (st := [vR 140]) (pc' := 241) dX11_goesOn_238 rfl gX11_isSign wm_1507 rfl rfl (by decide) kd_140 wm_1509 wp_81 rfl (Nat.le_of_ble_eq_true rfl) (M0.mono h (fun v τ4 h => ?_))
    obtain ⟨b5, rfl, h⟩ := h
    show V0 E (d + 1) qX11_goesOn 241 [some (vR 140), some (vI x1), none, none, none] [vB b5, vR 140] τ4 Q
    refine u_if_eq (tgt := 249) (pc' := 244) dX11_goesOn_241 rfl (by decide) (bI_R _) (fun hb => ?_) (fun hb => ?_)
    · have h := h.1 (bI_0.mp hb)
      refine u_bipush (pc' := 251) dX11_goesOn_249 rfl (by decide) ?_
      refine u_invV (q' := qX11_holdsBack) (As := [vI 19]) (st := []) (pc' := 254) dX11_goesOn_251 rfl gX11_holdsBack wm_1585 rfl rfl (by decide) kd_140 wm_1587 wp_93 rfl (Nat.le_of_ble_eq_true rfl) (M0.mono h (fun v τ6 h => ?_))
      obtain ⟨rfl, h⟩ := h
      show V0 E (d + 1) qX11_goesOn 254 [some (vR 140), some (vI x1), none, none, none] [] τ6 Q
      refine u_aload_n (i := 0) (pc' := 255) dX11_goesOn_254 rfl rfl rfl ?_
      refine u_getR (a := 168) (pc' := 258) dX11_goesOn_255 rfl fl_TuneDoorModel_136 rfl (by decide) kd_140 rfl ?_
      refine u_iload_n (i := 1) (pc' := 259) dX11_goesOn_258 rfl rfl rfl ?_
      refine u_iconst (pc' := 260) dX11_goesOn_259 rfl ?_
      obtain ⟨c7, c8, h⟩ := h
      refine u_iastore (k := x1.toNat) (pc' := 261) dX11_goesOn_260 rfl (by decide) kd_168 c7 c8 (by decide) rfl ⟨by decide, by decide⟩ ?_
      refine u_aload_n (i := 0) (pc' := 262) dX11_goesOn_261 rfl rfl rfl ?_
      refine u_invV (q' := qX11_ahead) (As := []) (st := []) (pc' := 265) dX11_goesOn_262 rfl gX11_ahead wm_1468 rfl rfl (by decide) kd_140 wm_1470 wp_74 rfl (Nat.le_of_ble_eq_true rfl) (M0.mono h (fun v τ9 h => ?_))
      obtain ⟨rfl, h⟩ := h
      show V0 E (d + 1) qX11_goesOn 265 [some (vR 140), some (vI x1), none, none, none] [] τ9 Q
      refine u_aload_n (i := 0) (pc' := 266) dX11_goesOn_265 rfl rfl rfl ?_
      refine u_iconst (pc' := 267) dX11_goesOn_266 rfl ?_
      refine u_putZ (b := false) (pc' := 270) dX11_goesOn_267 rfl fl_TuneDoorModel_161 rfl rfl (by decide) (by decide) kd_140 rfl ?_
      refine u_iconst (pc' := 271) dX11_goesOn_270 rfl ?_
      exact u_zret (b := true) dX11_goesOn_271 rfl rfl h
    · have h := h.2 (bI_n0.mp hb)
      refine u_bipush (pc' := 246) dX11_goesOn_244 rfl (by decide) ?_
      refine u_goto (tgt := 251) dX11_goesOn_246 (by decide) ?_
      refine u_invV (q' := qX11_holdsBack) (As := [vI 18]) (st := []) (pc' := 254) dX11_goesOn_251 rfl gX11_holdsBack wm_1585 rfl rfl (by decide) kd_140 wm_1587 wp_93 rfl (Nat.le_of_ble_eq_true rfl) (M0.mono h (fun v τ10 h => ?_))
      obtain ⟨rfl, h⟩ := h
      show V0 E (d + 1) qX11_goesOn 254 [some (vR 140), some (vI x1), none, none, none] [] τ10 Q
      refine u_aload_n (i := 0) (pc' := 255) dX11_goesOn_254 rfl rfl rfl ?_
      refine u_getR (a := 168) (pc' := 258) dX11_goesOn_255 rfl fl_TuneDoorModel_136 rfl (by decide) kd_140 rfl ?_
      refine u_iload_n (i := 1) (pc' := 259) dX11_goesOn_258 rfl rfl rfl ?_
      refine u_iconst (pc' := 260) dX11_goesOn_259 rfl ?_
      obtain ⟨c11, c12, h⟩ := h
      refine u_iastore (k := x1.toNat) (pc' := 261) dX11_goesOn_260 rfl (by decide) kd_168 c11 c12 (by decide) rfl ⟨by decide, by decide⟩ ?_
      refine u_aload_n (i := 0) (pc' := 262) dX11_goesOn_261 rfl rfl rfl ?_
      refine u_invV (q' := qX11_ahead) (As := []) (st := []) (pc' := 265) dX11_goesOn_262 rfl gX11_ahead wm_1468 rfl rfl (by decide) kd_140 wm_1470 wp_74 rfl (Nat.le_of_ble_eq_true rfl) (M0.mono h (fun v τ13 h => ?_))
      obtain ⟨rfl, h⟩ := h
      show V0 E (d + 1) qX11_goesOn 265 [some (vR 140), some (vI x1), none, none, none] [] τ13 Q
      refine u_aload_n (i := 0) (pc' := 266) dX11_goesOn_265 rfl rfl rfl ?_
      refine u_iconst (pc' := 267) dX11_goesOn_266 rfl ?_
      refine u_putZ (b := false) (pc' := 270) dX11_goesOn_267 rfl fl_TuneDoorModel_161 rfl rfl (by decide) (by decide) kd_140 rfl ?_
      refine u_iconst (pc' := 271) dX11_goesOn_270 rfl ?_
      exact u_zret (b := true) dX11_goesOn_271 rfl rfl h
  · have h := h.2 (bI_n0.mp hb)
    refine u_bipush (pc' := 232) dX11_goesOn_230 rfl (by decide) ?_
    refine u_goto (tgt := 251) dX11_goesOn_232 (by decide) ?_
    refine u_invV (q' := qX11_holdsBack) (As := [vI 17]) (st := []) (pc' := 254) dX11_goesOn_251 rfl gX11_holdsBack wm_1585 rfl rfl (by decide) kd_140 wm_1587 wp_93 rfl (Nat.le_of_ble_eq_true rfl) (M0.mono h (fun v τ14 h => ?_))
    obtain ⟨rfl, h⟩ := h
    show V0 E (d + 1) qX11_goesOn 254 [some (vR 140), some (vI x1), none, none, none] [] τ14 Q
    refine u_aload_n (i := 0) (pc' := 255) dX11_goesOn_254 rfl rfl rfl ?_
    refine u_getR (a := 168) (pc' := 258) dX11_goesOn_255 rfl fl_TuneDoorModel_136 rfl (by decide) kd_140 rfl ?_
    refine u_iload_n (i := 1) (pc' := 259) dX11_goesOn_258 rfl rfl rfl ?_
    refine u_iconst (pc' := 260) dX11_goesOn_259 rfl ?_
    obtain ⟨c15, c16, h⟩ := h
    refine u_iastore (k := x1.toNat) (pc' := 261) dX11_goesOn_260 rfl (by decide) kd_168 c15 c16 (by decide) rfl ⟨by decide, by decide⟩ ?_
    refine u_aload_n (i := 0) (pc' := 262) dX11_goesOn_261 rfl rfl rfl ?_
    refine u_invV (q' := qX11_ahead) (As := []) (st := []) (pc' := 265) dX11_goesOn_262 rfl gX11_ahead wm_1468 rfl rfl (by decide) kd_140 wm_1470 wp_74 rfl (Nat.le_of_ble_eq_true rfl) (M0.mono h (fun v τ17 h => ?_))
    obtain ⟨rfl, h⟩ := h
    show V0 E (d + 1) qX11_goesOn 265 [some (vR 140), some (vI x1), none, none, none] [] τ17 Q
    refine u_aload_n (i := 0) (pc' := 266) dX11_goesOn_265 rfl rfl rfl ?_
    refine u_iconst (pc' := 267) dX11_goesOn_266 rfl ?_
    refine u_putZ (b := false) (pc' := 270) dX11_goesOn_267 rfl fl_TuneDoorModel_161 rfl rfl (by decide) (by decide) kd_140 rfl ?_
    refine u_iconst (pc' := 271) dX11_goesOn_270 rfl ?_
    exact u_zret (b := true) dX11_goesOn_271 rfl rfl h
set_option maxRecDepth 20000 in
theorem bX11_goesOn_272 {E : mm_Env} {d : Nat} {τ : mm_Mem} {Q : mm_Q0} {x1 : Int} {x2 : Int} {x3 : Bool} (h : ((x3 = false → ((x3 = false → V0 E (d + 1) qX11_goesOn 409 [some (vR 140), some (vI x1), some (vI x2), none, none] [] τ Q) ∧ (x3 = true → 0 ≤ x1 ∧ x1 < 20 ∧ (((τ 168 x1.toNat) ≠ 0 → V0 E (d + 1) qX11_goesOn 409 [some (vR 140), some (vI x1), some (vI x2), none, none] [] τ Q) ∧ ((τ 168 x1.toNat) = 0 → M0 E d qX11_blame [vR 140, vI 1, vI (τ 140 4)] τ (fun v τ5 => v = none ∧ V0 E (d + 1) qX11_goesOn 409 [some (vR 140), some (vI x1), some (vI x2), none, none] [] τ5 Q)))))) ∧ (x3 = true → M0 E d qX11_isWord [vR 140, vL 6385252] τ (fun v τ6 => ∃ b7 : Bool, v = some (vB b7) ∧ ((b7 = true → V0 E (d + 1) qX11_goesOn 296 [some (vR 140), some (vI x1), none, none, none] [] τ6 Q) ∧ (b7 = false → M0 E d qX11_isWord [vR 140, vL 28530] τ6 (fun v τ8 => ∃ b9 : Bool, v = some (vB b9) ∧ ((b9 = false → ((x3 = false → V0 E (d + 1) qX11_goesOn 409 [some (vR 140), some (vI x1), some (vI x2), none, none] [] τ8 Q) ∧ (x3 = true → 0 ≤ x1 ∧ x1 < 20 ∧ (((τ8 168 x1.toNat) ≠ 0 → V0 E (d + 1) qX11_goesOn 409 [some (vR 140), some (vI x1), some (vI x2), none, none] [] τ8 Q) ∧ ((τ8 168 x1.toNat) = 0 → M0 E d qX11_blame [vR 140, vI 1, vI (τ8 140 4)] τ8 (fun v τ14 => v = none ∧ V0 E (d + 1) qX11_goesOn 409 [some (vR 140), some (vI x1), some (vI x2), none, none] [] τ14 Q)))))) ∧ (b9 = true → V0 E (d + 1) qX11_goesOn 296 [some (vR 140), some (vI x1), none, none, none] [] τ8 Q))))))))) : V0 E (d + 1) qX11_goesOn 272 [some (vR 140), some (vI x1), some (vI x2), some (vB x3), none] [] τ Q := by
  refine u_iload_n (i := 3) (pc' := 273) dX11_goesOn_272 rfl rfl rfl ?_
  refine u_if_eq (tgt := 387) (pc' := 276) dX11_goesOn_273 rfl (by decide) (bI_R _) (fun hb => ?_) (fun hb => ?_)
  · have h := h.1 (bI_0.mp hb)
    refine u_iload_n (i := 3) (pc' := 388) dX11_goesOn_387 rfl rfl rfl ?_
    refine u_if_eq (tgt := 409) (pc' := 391) dX11_goesOn_388 rfl (by decide) (bI_R _) (fun hb => ?_) (fun hb => ?_)
    · have h := h.1 (bI_0.mp hb)
      exact u_less (ls' := [some (vR 140), some (vI x1), some (vI x2), none, none]) ⟨rfl, ⟨rfl, ⟨rfl, trivial⟩⟩⟩ h
    · have h := h.2 (bI_n0.mp hb)
      refine u_aload_n (i := 0) (pc' := 392) dX11_goesOn_391 rfl rfl rfl ?_
      refine u_getR (a := 168) (pc' := 395) dX11_goesOn_392 rfl fl_TuneDoorModel_136 rfl (by decide) kd_140 rfl ?_
      refine u_iload_n (i := 1) (pc' := 396) dX11_goesOn_395 rfl rfl rfl ?_
      obtain ⟨c1, c2, h⟩ := h
      refine u_iaload (k := x1.toNat) (z := (τ 168 x1.toNat)) (pc' := 397) dX11_goesOn_396 rfl (by decide) kd_168 c1 c2 (by decide) rfl rfl (fun r3 => ?_)
      refine u_if_ne (tgt := 409) (pc' := 400) dX11_goesOn_397 rfl (by decide) r3 (fun hb => ?_) (fun hb => ?_)
      · have h := h.1 hb
        exact u_less (ls' := [some (vR 140), some (vI x1), some (vI x2), none, none]) ⟨rfl, ⟨rfl, ⟨rfl, trivial⟩⟩⟩ h
      · have h := h.2 hb
        refine u_aload_n (i := 0) (pc' := 401) dX11_goesOn_400 rfl rfl rfl ?_
        refine u_iconst (pc' := 402) dX11_goesOn_401 rfl ?_
        refine u_aload_n (i := 0) (pc' := 403) dX11_goesOn_402 rfl rfl rfl ?_
        refine u_getI (z := (τ 140 4)) (pc' := 406) dX11_goesOn_403 rfl fl_TuneDoorModel_23 rfl (by decide) (by decide) kd_140 rfl (fun r4 => ?_)
        refine u_invV (q' := qX11_blame) (As := [vI 1, vI (τ 140 4)]) (st := []) (pc' := 409) dX11_goesOn_406 rfl gX11_blame wm_1478 rfl rfl (by decide) kd_140 wm_1480 wp_75 rfl (Nat.le_of_ble_eq_true rfl) (M0.mono h (fun v τ5 h => ?_))
        obtain ⟨rfl, h⟩ := h
        show V0 E (d + 1) qX11_goesOn 409 [some (vR 140), some (vI x1), some (vI x2), some (vB x3), none] [] τ5 Q
        exact u_less (ls' := [some (vR 140), some (vI x1), some (vI x2), none, none]) ⟨rfl, ⟨rfl, ⟨rfl, trivial⟩⟩⟩ h
  · have h := h.2 (bI_n0.mp hb)
    refine u_aload_n (i := 0) (pc' := 277) dX11_goesOn_276 rfl rfl rfl ?_
    refine u_ldc2 (z := 6385252) (pc' := 280) dX11_goesOn_277 rfl wm_1548 (by decide) ?_
    refine u_invV (q' := qX11_isWord) (As := [vL 6385252]) (st := []) (pc' := 283) dX11_goesOn_280 rfl gX11_isWord wm_1487 rfl rfl (by decide) kd_140 wm_1489 wp_77 rfl (Nat.le_of_ble_eq_true rfl) (M0.mono h (fun v τ6 h => ?_))
    obtain ⟨b7, rfl, h⟩ := h
    show V0 E (d + 1) qX11_goesOn 283 [some (vR 140), some (vI x1), some (vI x2), some (vB x3), none] [vB b7] τ6 Q
    refine u_if_ne (tgt := 296) (pc' := 286) dX11_goesOn_283 rfl (by decide) (bI_R _) (fun hb => ?_) (fun hb => ?_)
    · have h := h.1 (bI_n0.mp hb)
      exact u_less (ls' := [some (vR 140), some (vI x1), none, none, none]) ⟨rfl, ⟨rfl, trivial⟩⟩ h
    · have h := h.2 (bI_0.mp hb)
      refine u_aload_n (i := 0) (pc' := 287) dX11_goesOn_286 rfl rfl rfl ?_
      refine u_ldc2 (z := 28530) (pc' := 290) dX11_goesOn_287 rfl wm_1547 (by decide) ?_
      refine u_invV (q' := qX11_isWord) (As := [vL 28530]) (st := []) (pc' := 293) dX11_goesOn_290 rfl gX11_isWord wm_1487 rfl rfl (by decide) kd_140 wm_1489 wp_77 rfl (Nat.le_of_ble_eq_true rfl) (M0.mono h (fun v τ8 h => ?_))
      obtain ⟨b9, rfl, h⟩ := h
      show V0 E (d + 1) qX11_goesOn 293 [some (vR 140), some (vI x1), some (vI x2), some (vB x3), none] [vB b9] τ8 Q
      refine u_if_eq (tgt := 387) (pc' := 296) dX11_goesOn_293 rfl (by decide) (bI_R _) (fun hb => ?_) (fun hb => ?_)
      · have h := h.1 (bI_0.mp hb)
        refine u_iload_n (i := 3) (pc' := 388) dX11_goesOn_387 rfl rfl rfl ?_
        refine u_if_eq (tgt := 409) (pc' := 391) dX11_goesOn_388 rfl (by decide) (bI_R _) (fun hb => ?_) (fun hb => ?_)
        · have h := h.1 (bI_0.mp hb)
          exact u_less (ls' := [some (vR 140), some (vI x1), some (vI x2), none, none]) ⟨rfl, ⟨rfl, ⟨rfl, trivial⟩⟩⟩ h
        · have h := h.2 (bI_n0.mp hb)
          refine u_aload_n (i := 0) (pc' := 392) dX11_goesOn_391 rfl rfl rfl ?_
          refine u_getR (a := 168) (pc' := 395) dX11_goesOn_392 rfl fl_TuneDoorModel_136 rfl (by decide) kd_140 rfl ?_
          refine u_iload_n (i := 1) (pc' := 396) dX11_goesOn_395 rfl rfl rfl ?_
          obtain ⟨c10, c11, h⟩ := h
          refine u_iaload (k := x1.toNat) (z := (τ8 168 x1.toNat)) (pc' := 397) dX11_goesOn_396 rfl (by decide) kd_168 c10 c11 (by decide) rfl rfl (fun r12 => ?_)
          refine u_if_ne (tgt := 409) (pc' := 400) dX11_goesOn_397 rfl (by decide) r12 (fun hb => ?_) (fun hb => ?_)
          · have h := h.1 hb
            exact u_less (ls' := [some (vR 140), some (vI x1), some (vI x2), none, none]) ⟨rfl, ⟨rfl, ⟨rfl, trivial⟩⟩⟩ h
          · have h := h.2 hb
            refine u_aload_n (i := 0) (pc' := 401) dX11_goesOn_400 rfl rfl rfl ?_
            refine u_iconst (pc' := 402) dX11_goesOn_401 rfl ?_
            refine u_aload_n (i := 0) (pc' := 403) dX11_goesOn_402 rfl rfl rfl ?_
            refine u_getI (z := (τ8 140 4)) (pc' := 406) dX11_goesOn_403 rfl fl_TuneDoorModel_23 rfl (by decide) (by decide) kd_140 rfl (fun r13 => ?_)
            refine u_invV (q' := qX11_blame) (As := [vI 1, vI (τ8 140 4)]) (st := []) (pc' := 409) dX11_goesOn_406 rfl gX11_blame wm_1478 rfl rfl (by decide) kd_140 wm_1480 wp_75 rfl (Nat.le_of_ble_eq_true rfl) (M0.mono h (fun v τ14 h => ?_))
            obtain ⟨rfl, h⟩ := h
            show V0 E (d + 1) qX11_goesOn 409 [some (vR 140), some (vI x1), some (vI x2), some (vB x3), none] [] τ14 Q
            exact u_less (ls' := [some (vR 140), some (vI x1), some (vI x2), none, none]) ⟨rfl, ⟨rfl, ⟨rfl, trivial⟩⟩⟩ h
      · have h := h.2 (bI_n0.mp hb)
        exact u_less (ls' := [some (vR 140), some (vI x1), none, none, none]) ⟨rfl, ⟨rfl, trivial⟩⟩ h
set_option maxRecDepth 20000 in
theorem bX11_goesOn_296 {E : mm_Env} {d : Nat} {τ : mm_Mem} {Q : mm_Q0} {x1 : Int} (h : 0 ≤ x1 ∧ x1 < 20 ∧ (((τ 168 x1.toNat) ≠ 0 → (((τ 140 8) ≤ 0 → M0 E d qX11_isWord [vR 140, vL 6385252] τ (fun v τ5 => ∃ b6 : Bool, v = some (vB b6) ∧ ((b6 = false → V0 E (d + 1) qX11_goesOn 343 [some (vR 140), some (vI x1), none, none, some (vB b6)] [vI 1, vR 140] τ5 Q) ∧ (b6 = true → V0 E (d + 1) qX11_goesOn 343 [some (vR 140), some (vI x1), none, none, some (vB b6)] [vI 2, vR 140] τ5 Q)))) ∧ (¬ (τ 140 8) ≤ 0 → Q (some (vB false)) τ))) ∧ ((τ 168 x1.toNat) = 0 → M0 E d qX11_blame [vR 140, vI 1, vI (τ 140 4)] τ (fun v τ8 => v = none ∧ (((τ8 140 8) ≤ 0 → M0 E d qX11_isWord [vR 140, vL 6385252] τ8 (fun v τ10 => ∃ b11 : Bool, v = some (vB b11) ∧ ((b11 = false → V0 E (d + 1) qX11_goesOn 343 [some (vR 140), some (vI x1), none, none, some (vB b11)] [vI 1, vR 140] τ10 Q) ∧ (b11 = true → V0 E (d + 1) qX11_goesOn 343 [some (vR 140), some (vI x1), none, none, some (vB b11)] [vI 2, vR 140] τ10 Q)))) ∧ (¬ (τ8 140 8) ≤ 0 → Q (some (vB false)) τ8)))))) : V0 E (d + 1) qX11_goesOn 296 [some (vR 140), some (vI x1), none, none, none] [] τ Q := by
  refine u_aload_n (i := 0) (pc' := 297) dX11_goesOn_296 rfl rfl rfl ?_
  refine u_getR (a := 168) (pc' := 300) dX11_goesOn_297 rfl fl_TuneDoorModel_136 rfl (by decide) kd_140 rfl ?_
  refine u_iload_n (i := 1) (pc' := 301) dX11_goesOn_300 rfl rfl rfl ?_
  obtain ⟨c1, c2, h⟩ := h
  refine u_iaload (k := x1.toNat) (z := (τ 168 x1.toNat)) (pc' := 302) dX11_goesOn_301 rfl (by decide) kd_168 c1 c2 (by decide) rfl rfl (fun r3 => ?_)
  refine u_if_ne (tgt := 314) (pc' := 305) dX11_goesOn_302 rfl (by decide) r3 (fun hb => ?_) (fun hb => ?_)
  · have h := h.1 hb
    refine u_aload_n (i := 0) (pc' := 315) dX11_goesOn_314 rfl rfl rfl ?_
    refine u_getI (z := (τ 140 8)) (pc' := 318) dX11_goesOn_315 rfl fl_TuneDoorModel_36 rfl (by decide) (by decide) kd_140 rfl (fun r4 => ?_)
    refine u_if_le (tgt := 323) (pc' := 321) dX11_goesOn_318 rfl (by decide) r4 (fun hb => ?_) (fun hb => ?_)
    · have h := h.1 hb
      refine u_aload_n (i := 0) (pc' := 324) dX11_goesOn_323 rfl rfl rfl ?_
      refine u_ldc2 (z := 6385252) (pc' := 327) dX11_goesOn_324 rfl wm_1548 (by decide) ?_
      refine u_invV (q' := qX11_isWord) (As := [vL 6385252]) (st := []) (pc' := 330) dX11_goesOn_327 rfl gX11_isWord wm_1487 rfl rfl (by decide) kd_140 wm_1489 wp_77 rfl (Nat.le_of_ble_eq_true rfl) (M0.mono h (fun v τ5 h => ?_))
      obtain ⟨b6, rfl, h⟩ := h
      show V0 E (d + 1) qX11_goesOn 330 [some (vR 140), some (vI x1), none, none, none] [vB b6] τ5 Q
      refine s_istore (i := 4) (ls' := [some (vR 140), some (vI x1), none, none, some (vB b6)]) (pc' := 332) dX11_goesOn_330 rfl (Nat.le_of_ble_eq_true rfl) rfl rfl ?_
      refine u_aload_n (i := 0) (pc' := 333) dX11_goesOn_332 rfl rfl rfl ?_
      refine u_iload (i := 4) (pc' := 335) dX11_goesOn_333 rfl rfl ?_
      refine u_if_eq (tgt := 342) (pc' := 338) dX11_goesOn_335 rfl (by decide) (bI_R _) (fun hb => ?_) (fun hb => ?_)
      · have h := h.1 (bI_0.mp hb)
        refine u_iconst (pc' := 343) dX11_goesOn_342 rfl ?_
        exact u_less (ls' := [some (vR 140), some (vI x1), none, none, some (vB b6)]) ⟨rfl, ⟨rfl, ⟨rfl, trivial⟩⟩⟩ h
      · have h := h.2 (bI_n0.mp hb)
        refine u_iconst (pc' := 339) dX11_goesOn_338 rfl ?_
        refine u_goto (tgt := 343) dX11_goesOn_339 (by decide) ?_
        exact u_less (ls' := [some (vR 140), some (vI x1), none, none, some (vB b6)]) ⟨rfl, ⟨rfl, ⟨rfl, trivial⟩⟩⟩ h
    · have h := h.2 hb
      refine u_iconst (pc' := 322) dX11_goesOn_321 rfl ?_
      exact u_zret (b := false) dX11_goesOn_322 rfl rfl h
  · have h := h.2 hb
    refine u_aload_n (i := 0) (pc' := 306) dX11_goesOn_305 rfl rfl rfl ?_
    refine u_iconst (pc' := 307) dX11_goesOn_306 rfl ?_
    refine u_aload_n (i := 0) (pc' := 308) dX11_goesOn_307 rfl rfl rfl ?_
    refine u_getI (z := (τ 140 4)) (pc' := 311) dX11_goesOn_308 rfl fl_TuneDoorModel_23 rfl (by decide) (by decide) kd_140 rfl (fun r7 => ?_)
    refine u_invV (q' := qX11_blame) (As := [vI 1, vI (τ 140 4)]) (st := []) (pc' := 314) dX11_goesOn_311 rfl gX11_blame wm_1478 rfl rfl (by decide) kd_140 wm_1480 wp_75 rfl (Nat.le_of_ble_eq_true rfl) (M0.mono h (fun v τ8 h => ?_))
    obtain ⟨rfl, h⟩ := h
    show V0 E (d + 1) qX11_goesOn 314 [some (vR 140), some (vI x1), none, none, none] [] τ8 Q
    refine u_aload_n (i := 0) (pc' := 315) dX11_goesOn_314 rfl rfl rfl ?_
    refine u_getI (z := (τ8 140 8)) (pc' := 318) dX11_goesOn_315 rfl fl_TuneDoorModel_36 rfl (by decide) (by decide) kd_140 rfl (fun r9 => ?_)
    refine u_if_le (tgt := 323) (pc' := 321) dX11_goesOn_318 rfl (by decide) r9 (fun hb => ?_) (fun hb => ?_)
    · have h := h.1 hb
      refine u_aload_n (i := 0) (pc' := 324) dX11_goesOn_323 rfl rfl rfl ?_
      refine u_ldc2 (z := 6385252) (pc' := 327) dX11_goesOn_324 rfl wm_1548 (by decide) ?_
      refine u_invV (q' := qX11_isWord) (As := [vL 6385252]) (st := []) (pc' := 330) dX11_goesOn_327 rfl gX11_isWord wm_1487 rfl rfl (by decide) kd_140 wm_1489 wp_77 rfl (Nat.le_of_ble_eq_true rfl) (M0.mono h (fun v τ10 h => ?_))
      obtain ⟨b11, rfl, h⟩ := h
      show V0 E (d + 1) qX11_goesOn 330 [some (vR 140), some (vI x1), none, none, none] [vB b11] τ10 Q
      refine s_istore (i := 4) (ls' := [some (vR 140), some (vI x1), none, none, some (vB b11)]) (pc' := 332) dX11_goesOn_330 rfl (Nat.le_of_ble_eq_true rfl) rfl rfl ?_
      refine u_aload_n (i := 0) (pc' := 333) dX11_goesOn_332 rfl rfl rfl ?_
      refine u_iload (i := 4) (pc' := 335) dX11_goesOn_333 rfl rfl ?_
      refine u_if_eq (tgt := 342) (pc' := 338) dX11_goesOn_335 rfl (by decide) (bI_R _) (fun hb => ?_) (fun hb => ?_)
      · have h := h.1 (bI_0.mp hb)
        refine u_iconst (pc' := 343) dX11_goesOn_342 rfl ?_
        exact u_less (ls' := [some (vR 140), some (vI x1), none, none, some (vB b11)]) ⟨rfl, ⟨rfl, ⟨rfl, trivial⟩⟩⟩ h
      · have h := h.2 (bI_n0.mp hb)
        refine u_iconst (pc' := 339) dX11_goesOn_338 rfl ?_
        refine u_goto (tgt := 343) dX11_goesOn_339 (by decide) ?_
        exact u_less (ls' := [some (vR 140), some (vI x1), none, none, some (vB b11)]) ⟨rfl, ⟨rfl, ⟨rfl, trivial⟩⟩⟩ h
    · have h := h.2 hb
      refine u_iconst (pc' := 322) dX11_goesOn_321 rfl ?_
      exact u_zret (b := false) dX11_goesOn_322 rfl rfl h
set_option maxRecDepth 20000 in
theorem bX11_goesOn_343 {E : mm_Env} {d : Nat} {τ : mm_Mem} {Q : mm_Q0} {x1 : Int} {x4 : Bool} {y0 : Int} (h : M0 E d qX11_joins [vR 140, vI y0] τ (fun v τ1 => v = none ∧ ((x4 = false → M0 E d qX11_holdsBack [vR 140, vI 21] τ1 (fun v τ2 => v = none ∧ 0 ≤ x1 ∧ x1 < 20 ∧ 0 ≤ x1 ∧ x1 < 20 ∧ M0 E d qX11_ahead [vR 140] (wr (wr τ2 168 x1.toNat 0) 169 x1.toNat 1) (fun v τ7 => v = none ∧ Q (some (vB true)) (wr τ7 140 49 0)))) ∧ (x4 = true → M0 E d qX11_holdsBack [vR 140, vI 20] τ1 (fun v τ8 => v = none ∧ 0 ≤ x1 ∧ x1 < 20 ∧ 0 ≤ x1 ∧ x1 < 20 ∧ M0 E d qX11_ahead [vR 140] (wr (wr τ8 168 x1.toNat 0) 169 x1.toNat 1) (fun v τ13 => v = none ∧ Q (some (vB true)) (wr τ13 140 49 0))))))) : V0 E (d + 1) qX11_goesOn 343 [some (vR 140), some (vI x1), none, none, some (vB x4)] [vI y0, vR 140] τ Q := by
  refine u_invV (q' := qX11_joins) (As := [vI y0]) (st := []) (pc' := 346) dX11_goesOn_343 rfl gX11_joins wm_1601 rfl rfl (by decide) kd_140 wm_1603 wp_97 rfl (Nat.le_of_ble_eq_true rfl) (M0.mono h (fun v τ1 h => ?_))
  obtain ⟨rfl, h⟩ := h
  show V0 E (d + 1) qX11_goesOn 346 [some (vR 140), some (vI x1), none, none, some (vB x4)] [] τ1 Q
  refine u_aload_n (i := 0) (pc' := 347) dX11_goesOn_346 rfl rfl rfl ?_
  refine u_iload (i := 4) (pc' := 349) dX11_goesOn_347 rfl rfl ?_
  refine u_if_eq (tgt := 357) (pc' := 352) dX11_goesOn_349 rfl (by decide) (bI_R _) (fun hb => ?_) (fun hb => ?_)
  · have h := h.1 (bI_0.mp hb)
    refine u_bipush (pc' := 359) dX11_goesOn_357 rfl (by decide) ?_
    refine u_invV (q' := qX11_holdsBack) (As := [vI 21]) (st := []) (pc' := 362) dX11_goesOn_359 rfl gX11_holdsBack wm_1585 rfl rfl (by decide) kd_140 wm_1587 wp_93 rfl (Nat.le_of_ble_eq_true rfl) (M0.mono h (fun v τ2 h => ?_))
    obtain ⟨rfl, h⟩ := h
    show V0 E (d + 1) qX11_goesOn 362 [some (vR 140), some (vI x1), none, none, some (vB x4)] [] τ2 Q
    refine u_aload_n (i := 0) (pc' := 363) dX11_goesOn_362 rfl rfl rfl ?_
    refine u_getR (a := 168) (pc' := 366) dX11_goesOn_363 rfl fl_TuneDoorModel_136 rfl (by decide) kd_140 rfl ?_
    refine u_iload_n (i := 1) (pc' := 367) dX11_goesOn_366 rfl rfl rfl ?_
    refine u_iconst (pc' := 368) dX11_goesOn_367 rfl ?_
    obtain ⟨c3, c4, h⟩ := h
    refine u_iastore (k := x1.toNat) (pc' := 369) dX11_goesOn_368 rfl (by decide) kd_168 c3 c4 (by decide) rfl ⟨by decide, by decide⟩ ?_
    refine u_aload_n (i := 0) (pc' := 370) dX11_goesOn_369 rfl rfl rfl ?_
    refine u_getR (a := 169) (pc' := 373) dX11_goesOn_370 rfl fl_TuneDoorModel_139 rfl (by decide) kd_140 rfl ?_
    refine u_iload_n (i := 1) (pc' := 374) dX11_goesOn_373 rfl rfl rfl ?_
    refine u_iconst (pc' := 375) dX11_goesOn_374 rfl ?_
    obtain ⟨c5, c6, h⟩ := h
    refine u_bastore (k := x1.toNat) (b := true) (pc' := 376) dX11_goesOn_375 rfl (by decide) kd_169 c5 c6 (by decide) rfl rfl ?_
    refine u_aload_n (i := 0) (pc' := 377) dX11_goesOn_376 rfl rfl rfl ?_
    refine u_invV (q' := qX11_ahead) (As := []) (st := []) (pc' := 380) dX11_goesOn_377 rfl gX11_ahead wm_1468 rfl rfl (by decide) kd_140 wm_1470 wp_74 rfl (Nat.le_of_ble_eq_true rfl) (M0.mono h (fun v τ7 h => ?_))
    obtain ⟨rfl, h⟩ := h
    show V0 E (d + 1) qX11_goesOn 380 [some (vR 140), some (vI x1), none, none, some (vB x4)] [] τ7 Q
    refine u_aload_n (i := 0) (pc' := 381) dX11_goesOn_380 rfl rfl rfl ?_
    refine u_iconst (pc' := 382) dX11_goesOn_381 rfl ?_
    refine u_putZ (b := false) (pc' := 385) dX11_goesOn_382 rfl fl_TuneDoorModel_161 rfl rfl (by decide) (by decide) kd_140 rfl ?_
    refine u_iconst (pc' := 386) dX11_goesOn_385 rfl ?_
    exact u_zret (b := true) dX11_goesOn_386 rfl rfl h
  · have h := h.2 (bI_n0.mp hb)
    refine u_bipush (pc' := 354) dX11_goesOn_352 rfl (by decide) ?_
    refine u_goto (tgt := 359) dX11_goesOn_354 (by decide) ?_
    refine u_invV (q' := qX11_holdsBack) (As := [vI 20]) (st := []) (pc' := 362) dX11_goesOn_359 rfl gX11_holdsBack wm_1585 rfl rfl (by decide) kd_140 wm_1587 wp_93 rfl (Nat.le_of_ble_eq_true rfl) (M0.mono h (fun v τ8 h => ?_))
    obtain ⟨rfl, h⟩ := h
    show V0 E (d + 1) qX11_goesOn 362 [some (vR 140), some (vI x1), none, none, some (vB x4)] [] τ8 Q
    refine u_aload_n (i := 0) (pc' := 363) dX11_goesOn_362 rfl rfl rfl ?_
    refine u_getR (a := 168) (pc' := 366) dX11_goesOn_363 rfl fl_TuneDoorModel_136 rfl (by decide) kd_140 rfl ?_
    refine u_iload_n (i := 1) (pc' := 367) dX11_goesOn_366 rfl rfl rfl ?_
    refine u_iconst (pc' := 368) dX11_goesOn_367 rfl ?_
    obtain ⟨c9, c10, h⟩ := h
    refine u_iastore (k := x1.toNat) (pc' := 369) dX11_goesOn_368 rfl (by decide) kd_168 c9 c10 (by decide) rfl ⟨by decide, by decide⟩ ?_
    refine u_aload_n (i := 0) (pc' := 370) dX11_goesOn_369 rfl rfl rfl ?_
    refine u_getR (a := 169) (pc' := 373) dX11_goesOn_370 rfl fl_TuneDoorModel_139 rfl (by decide) kd_140 rfl ?_
    refine u_iload_n (i := 1) (pc' := 374) dX11_goesOn_373 rfl rfl rfl ?_
    refine u_iconst (pc' := 375) dX11_goesOn_374 rfl ?_
    obtain ⟨c11, c12, h⟩ := h
    refine u_bastore (k := x1.toNat) (b := true) (pc' := 376) dX11_goesOn_375 rfl (by decide) kd_169 c11 c12 (by decide) rfl rfl ?_
    refine u_aload_n (i := 0) (pc' := 377) dX11_goesOn_376 rfl rfl rfl ?_
    refine u_invV (q' := qX11_ahead) (As := []) (st := []) (pc' := 380) dX11_goesOn_377 rfl gX11_ahead wm_1468 rfl rfl (by decide) kd_140 wm_1470 wp_74 rfl (Nat.le_of_ble_eq_true rfl) (M0.mono h (fun v τ13 h => ?_))
    obtain ⟨rfl, h⟩ := h
    show V0 E (d + 1) qX11_goesOn 380 [some (vR 140), some (vI x1), none, none, some (vB x4)] [] τ13 Q
    refine u_aload_n (i := 0) (pc' := 381) dX11_goesOn_380 rfl rfl rfl ?_
    refine u_iconst (pc' := 382) dX11_goesOn_381 rfl ?_
    refine u_putZ (b := false) (pc' := 385) dX11_goesOn_382 rfl fl_TuneDoorModel_161 rfl rfl (by decide) (by decide) kd_140 rfl ?_
    refine u_iconst (pc' := 386) dX11_goesOn_385 rfl ?_
    exact u_zret (b := true) dX11_goesOn_386 rfl rfl h
set_option maxRecDepth 20000 in
theorem bX11_goesOn_409 {E : mm_Env} {d : Nat} {τ : mm_Mem} {Q : mm_Q0} {x1 : Int} {x2 : Int} (h : inR x2 ∧ ((2 ≤ x2 → ((x2 ≠ 3 → ((x2 ≠ 5 → M0 E d qX11_isSign [vR 140, vI 41] τ (fun v τ2 => ∃ b3 : Bool, v = some (vB b3) ∧ ((b3 = true → V0 E (d + 1) qX11_goesOn 511 [some (vR 140), some (vI x1), some (vI x2), none, none] [] τ2 Q) ∧ (b3 = false → M0 E d qX11_blame [vR 140, vI 1, vI (τ2 140 4)] τ2 (fun v τ5 => v = none ∧ V0 E (d + 1) qX11_goesOn 511 [some (vR 140), some (vI x1), some (vI x2), none, none] [] τ5 Q))))) ∧ (x2 = 5 → M0 E d qX11_isSign [vR 140, vI 93] τ (fun v τ6 => ∃ b7 : Bool, v = some (vB b7) ∧ ((b7 = true → V0 E (d + 1) qX11_goesOn 511 [some (vR 140), some (vI x1), some (vI x2), none, none] [] τ6 Q) ∧ (b7 = false → M0 E d qX11_blame [vR 140, vI 1, vI (τ6 140 4)] τ6 (fun v τ9 => v = none ∧ V0 E (d + 1) qX11_goesOn 511 [some (vR 140), some (vI x1), some (vI x2), none, none] [] τ9 Q))))))) ∧ (x2 = 3 → M0 E d qX11_isSign [vR 140, vI 44] τ (fun v τ10 => ∃ b11 : Bool, v = some (vB b11) ∧ ((b11 = true → (((τ10 140 8) ≤ 0 → M0 E d qX11_joins [vR 140, vI 1] τ10 (fun v τ13 => v = none ∧ 0 ≤ x1 ∧ x1 < 20 ∧ M0 E d qX11_ahead [vR 140] (wr τ13 167 x1.toNat 4) (fun v τ16 => v = none ∧ Q (some (vB true)) (wr τ16 140 49 0)))) ∧ (¬ (τ10 140 8) ≤ 0 → Q (some (vB false)) τ10))) ∧ (b11 = false → M0 E d qX11_blame [vR 140, vI 1, vI (τ10 140 4)] τ10 (fun v τ18 => v = none ∧ (((τ18 140 8) ≤ 0 → M0 E d qX11_joins [vR 140, vI 1] τ18 (fun v τ20 => v = none ∧ 0 ≤ x1 ∧ x1 < 20 ∧ M0 E d qX11_ahead [vR 140] (wr τ20 167 x1.toNat 4) (fun v τ23 => v = none ∧ Q (some (vB true)) (wr τ23 140 49 0)))) ∧ (¬ (τ18 140 8) ≤ 0 → Q (some (vB false)) τ18))))))))) ∧ (¬ 2 ≤ x2 → (((τ 140 8) ≠ 0 → Q (some (vB false)) τ) ∧ ((τ 140 8) = 0 → M0 E d qX11_joins [vR 140, vI 1] τ (fun v τ25 => v = none ∧ Q (some (vB false)) τ25)))))) : V0 E (d + 1) qX11_goesOn 409 [some (vR 140), some (vI x1), some (vI x2), none, none] [] τ Q := by
  refine u_iload_n (i := 2) (pc' := 410) dX11_goesOn_409 rfl rfl rfl ?_
  refine u_iconst (pc' := 411) dX11_goesOn_410 rfl ?_
  obtain ⟨c1, h⟩ := h
  refine u_icmp_ge (tgt := 428) (pc' := 414) dX11_goesOn_411 rfl (by decide) c1 ⟨by decide, by decide⟩ (fun hb => ?_) (fun hb => ?_)
  · have h := h.1 hb
    refine u_iload_n (i := 2) (pc' := 429) dX11_goesOn_428 rfl rfl rfl ?_
    refine u_iconst (pc' := 430) dX11_goesOn_429 rfl ?_
    refine u_icmp_ne (tgt := 483) (pc' := 433) dX11_goesOn_430 rfl (by decide) c1 ⟨by decide, by decide⟩ (fun hb => ?_) (fun hb => ?_)
    · have h := h.1 hb
      refine u_aload_n (i := 0) (pc' := 484) dX11_goesOn_483 rfl rfl rfl ?_
      refine u_iload_n (i := 2) (pc' := 485) dX11_goesOn_484 rfl rfl rfl ?_
      refine u_iconst (pc' := 486) dX11_goesOn_485 rfl ?_
      refine u_icmp_ne (tgt := 494) (pc' := 489) dX11_goesOn_486 rfl (by decide) c1 ⟨by decide, by decide⟩ (fun hb => ?_) (fun hb => ?_)
      · have h := h.1 hb
        refine u_bipush (pc' := 496) dX11_goesOn_494 rfl (by decide) ?_
        refine u_invV (q' := qX11_isSign) (As := [vI 41]) (st := []) (pc' := 499) dX11_goesOn_496 rfl gX11_isSign wm_1507 rfl rfl (by decide) kd_140 wm_1509 wp_81 rfl (Nat.le_of_ble_eq_true rfl) (M0.mono h (fun v τ2 h => ?_))
        obtain ⟨b3, rfl, h⟩ := h
        show V0 E (d + 1) qX11_goesOn 499 [some (vR 140), some (vI x1), some (vI x2), none, none] [vB b3] τ2 Q
        refine u_if_ne (tgt := 511) (pc' := 502) dX11_goesOn_499 rfl (by decide) (bI_R _) (fun hb => ?_) (fun hb => ?_)
        · have h := h.1 (bI_n0.mp hb)
          exact u_less (ls' := [some (vR 140), some (vI x1), some (vI x2), none, none]) ⟨rfl, ⟨rfl, ⟨rfl, trivial⟩⟩⟩ h
        · have h := h.2 (bI_0.mp hb)
          refine u_aload_n (i := 0) (pc' := 503) dX11_goesOn_502 rfl rfl rfl ?_
          refine u_iconst (pc' := 504) dX11_goesOn_503 rfl ?_
          refine u_aload_n (i := 0) (pc' := 505) dX11_goesOn_504 rfl rfl rfl ?_
          refine u_getI (z := (τ2 140 4)) (pc' := 508) dX11_goesOn_505 rfl fl_TuneDoorModel_23 rfl (by decide) (by decide) kd_140 rfl (fun r4 => ?_)
          refine u_invV (q' := qX11_blame) (As := [vI 1, vI (τ2 140 4)]) (st := []) (pc' := 511) dX11_goesOn_508 rfl gX11_blame wm_1478 rfl rfl (by decide) kd_140 wm_1480 wp_75 rfl (Nat.le_of_ble_eq_true rfl) (M0.mono h (fun v τ5 h => ?_))
          obtain ⟨rfl, h⟩ := h
          show V0 E (d + 1) qX11_goesOn 511 [some (vR 140), some (vI x1), some (vI x2), none, none] [] τ5 Q
          exact u_less (ls' := [some (vR 140), some (vI x1), some (vI x2), none, none]) ⟨rfl, ⟨rfl, ⟨rfl, trivial⟩⟩⟩ h
      · have h := h.2 hb
        refine u_bipush (pc' := 491) dX11_goesOn_489 rfl (by decide) ?_
        refine u_goto (tgt := 496) dX11_goesOn_491 (by decide) ?_
        refine u_invV (q' := qX11_isSign) (As := [vI 93]) (st := []) (pc' := 499) dX11_goesOn_496 rfl gX11_isSign wm_1507 rfl rfl (by decide) kd_140 wm_1509 wp_81 rfl (Nat.le_of_ble_eq_true rfl) (M0.mono h (fun v τ6 h => ?_))
        obtain ⟨b7, rfl, h⟩ := h
        show V0 E (d + 1) qX11_goesOn 499 [some (vR 140), some (vI x1), some (vI x2), none, none] [vB b7] τ6 Q
        refine u_if_ne (tgt := 511) (pc' := 502) dX11_goesOn_499 rfl (by decide) (bI_R _) (fun hb => ?_) (fun hb => ?_)
        · have h := h.1 (bI_n0.mp hb)
          exact u_less (ls' := [some (vR 140), some (vI x1), some (vI x2), none, none]) ⟨rfl, ⟨rfl, ⟨rfl, trivial⟩⟩⟩ h
        · have h := h.2 (bI_0.mp hb)
          refine u_aload_n (i := 0) (pc' := 503) dX11_goesOn_502 rfl rfl rfl ?_
          refine u_iconst (pc' := 504) dX11_goesOn_503 rfl ?_
          refine u_aload_n (i := 0) (pc' := 505) dX11_goesOn_504 rfl rfl rfl ?_
          refine u_getI (z := (τ6 140 4)) (pc' := 508) dX11_goesOn_505 rfl fl_TuneDoorModel_23 rfl (by decide) (by decide) kd_140 rfl (fun r8 => ?_)
          refine u_invV (q' := qX11_blame) (As := [vI 1, vI (τ6 140 4)]) (st := []) (pc' := 511) dX11_goesOn_508 rfl gX11_blame wm_1478 rfl rfl (by decide) kd_140 wm_1480 wp_75 rfl (Nat.le_of_ble_eq_true rfl) (M0.mono h (fun v τ9 h => ?_))
          obtain ⟨rfl, h⟩ := h
          show V0 E (d + 1) qX11_goesOn 511 [some (vR 140), some (vI x1), some (vI x2), none, none] [] τ9 Q
          exact u_less (ls' := [some (vR 140), some (vI x1), some (vI x2), none, none]) ⟨rfl, ⟨rfl, ⟨rfl, trivial⟩⟩⟩ h
    · have h := h.2 hb
      refine u_aload_n (i := 0) (pc' := 434) dX11_goesOn_433 rfl rfl rfl ?_
      refine u_bipush (pc' := 436) dX11_goesOn_434 rfl (by decide) ?_
      refine u_invV (q' := qX11_isSign) (As := [vI 44]) (st := []) (pc' := 439) dX11_goesOn_436 rfl gX11_isSign wm_1507 rfl rfl (by decide) kd_140 wm_1509 wp_81 rfl (Nat.le_of_ble_eq_true rfl) (M0.mono h (fun v τ10 h => ?_))
      obtain ⟨b11, rfl, h⟩ := h
      show V0 E (d + 1) qX11_goesOn 439 [some (vR 140), some (vI x1), some (vI x2), none, none] [vB b11] τ10 Q
      refine u_if_ne (tgt := 451) (pc' := 442) dX11_goesOn_439 rfl (by decide) (bI_R _) (fun hb => ?_) (fun hb => ?_)
      · have h := h.1 (bI_n0.mp hb)
        refine u_aload_n (i := 0) (pc' := 452) dX11_goesOn_451 rfl rfl rfl ?_
        refine u_getI (z := (τ10 140 8)) (pc' := 455) dX11_goesOn_452 rfl fl_TuneDoorModel_36 rfl (by decide) (by decide) kd_140 rfl (fun r12 => ?_)
        refine u_if_le (tgt := 460) (pc' := 458) dX11_goesOn_455 rfl (by decide) r12 (fun hb => ?_) (fun hb => ?_)
        · have h := h.1 hb
          refine u_aload_n (i := 0) (pc' := 461) dX11_goesOn_460 rfl rfl rfl ?_
          refine u_iconst (pc' := 462) dX11_goesOn_461 rfl ?_
          refine u_invV (q' := qX11_joins) (As := [vI 1]) (st := []) (pc' := 465) dX11_goesOn_462 rfl gX11_joins wm_1601 rfl rfl (by decide) kd_140 wm_1603 wp_97 rfl (Nat.le_of_ble_eq_true rfl) (M0.mono h (fun v τ13 h => ?_))
          obtain ⟨rfl, h⟩ := h
          show V0 E (d + 1) qX11_goesOn 465 [some (vR 140), some (vI x1), some (vI x2), none, none] [] τ13 Q
          refine u_aload_n (i := 0) (pc' := 466) dX11_goesOn_465 rfl rfl rfl ?_
          refine u_getR (a := 167) (pc' := 469) dX11_goesOn_466 rfl fl_TuneDoorModel_133 rfl (by decide) kd_140 rfl ?_
          refine u_iload_n (i := 1) (pc' := 470) dX11_goesOn_469 rfl rfl rfl ?_
          refine u_iconst (pc' := 471) dX11_goesOn_470 rfl ?_
          obtain ⟨c14, c15, h⟩ := h
          refine u_iastore (k := x1.toNat) (pc' := 472) dX11_goesOn_471 rfl (by decide) kd_167 c14 c15 (by decide) rfl ⟨by decide, by decide⟩ ?_
          refine u_aload_n (i := 0) (pc' := 473) dX11_goesOn_472 rfl rfl rfl ?_
          refine u_invV (q' := qX11_ahead) (As := []) (st := []) (pc' := 476) dX11_goesOn_473 rfl gX11_ahead wm_1468 rfl rfl (by decide) kd_140 wm_1470 wp_74 rfl (Nat.le_of_ble_eq_true rfl) (M0.mono h (fun v τ16 h => ?_))
          obtain ⟨rfl, h⟩ := h
          show V0 E (d + 1) qX11_goesOn 476 [some (vR 140), some (vI x1), some (vI x2), none, none] [] τ16 Q
          refine u_aload_n (i := 0) (pc' := 477) dX11_goesOn_476 rfl rfl rfl ?_
          refine u_iconst (pc' := 478) dX11_goesOn_477 rfl ?_
          refine u_putZ (b := false) (pc' := 481) dX11_goesOn_478 rfl fl_TuneDoorModel_161 rfl rfl (by decide) (by decide) kd_140 rfl ?_
          refine u_iconst (pc' := 482) dX11_goesOn_481 rfl ?_
          exact u_zret (b := true) dX11_goesOn_482 rfl rfl h
        · have h := h.2 hb
          refine u_iconst (pc' := 459) dX11_goesOn_458 rfl ?_
          exact u_zret (b := false) dX11_goesOn_459 rfl rfl h
      · have h := h.2 (bI_0.mp hb)
        refine u_aload_n (i := 0) (pc' := 443) dX11_goesOn_442 rfl rfl rfl ?_
        refine u_iconst (pc' := 444) dX11_goesOn_443 rfl ?_
        refine u_aload_n (i := 0) (pc' := 445) dX11_goesOn_444 rfl rfl rfl ?_
        refine u_getI (z := (τ10 140 4)) (pc' := 448) dX11_goesOn_445 rfl fl_TuneDoorModel_23 rfl (by decide) (by decide) kd_140 rfl (fun r17 => ?_)
        refine u_invV (q' := qX11_blame) (As := [vI 1, vI (τ10 140 4)]) (st := []) (pc' := 451) dX11_goesOn_448 rfl gX11_blame wm_1478 rfl rfl (by decide) kd_140 wm_1480 wp_75 rfl (Nat.le_of_ble_eq_true rfl) (M0.mono h (fun v τ18 h => ?_))
        obtain ⟨rfl, h⟩ := h
        show V0 E (d + 1) qX11_goesOn 451 [some (vR 140), some (vI x1), some (vI x2), none, none] [] τ18 Q
        refine u_aload_n (i := 0) (pc' := 452) dX11_goesOn_451 rfl rfl rfl ?_
        refine u_getI (z := (τ18 140 8)) (pc' := 455) dX11_goesOn_452 rfl fl_TuneDoorModel_36 rfl (by decide) (by decide) kd_140 rfl (fun r19 => ?_)
        refine u_if_le (tgt := 460) (pc' := 458) dX11_goesOn_455 rfl (by decide) r19 (fun hb => ?_) (fun hb => ?_)
        · have h := h.1 hb
          refine u_aload_n (i := 0) (pc' := 461) dX11_goesOn_460 rfl rfl rfl ?_
          refine u_iconst (pc' := 462) dX11_goesOn_461 rfl ?_
          refine u_invV (q' := qX11_joins) (As := [vI 1]) (st := []) (pc' := 465) dX11_goesOn_462 rfl gX11_joins wm_1601 rfl rfl (by decide) kd_140 wm_1603 wp_97 rfl (Nat.le_of_ble_eq_true rfl) (M0.mono h (fun v τ20 h => ?_))
          obtain ⟨rfl, h⟩ := h
          show V0 E (d + 1) qX11_goesOn 465 [some (vR 140), some (vI x1), some (vI x2), none, none] [] τ20 Q
          refine u_aload_n (i := 0) (pc' := 466) dX11_goesOn_465 rfl rfl rfl ?_
          refine u_getR (a := 167) (pc' := 469) dX11_goesOn_466 rfl fl_TuneDoorModel_133 rfl (by decide) kd_140 rfl ?_
          refine u_iload_n (i := 1) (pc' := 470) dX11_goesOn_469 rfl rfl rfl ?_
          refine u_iconst (pc' := 471) dX11_goesOn_470 rfl ?_
          obtain ⟨c21, c22, h⟩ := h
          refine u_iastore (k := x1.toNat) (pc' := 472) dX11_goesOn_471 rfl (by decide) kd_167 c21 c22 (by decide) rfl ⟨by decide, by decide⟩ ?_
          refine u_aload_n (i := 0) (pc' := 473) dX11_goesOn_472 rfl rfl rfl ?_
          refine u_invV (q' := qX11_ahead) (As := []) (st := []) (pc' := 476) dX11_goesOn_473 rfl gX11_ahead wm_1468 rfl rfl (by decide) kd_140 wm_1470 wp_74 rfl (Nat.le_of_ble_eq_true rfl) (M0.mono h (fun v τ23 h => ?_))
          obtain ⟨rfl, h⟩ := h
          show V0 E (d + 1) qX11_goesOn 476 [some (vR 140), some (vI x1), some (vI x2), none, none] [] τ23 Q
          refine u_aload_n (i := 0) (pc' := 477) dX11_goesOn_476 rfl rfl rfl ?_
          refine u_iconst (pc' := 478) dX11_goesOn_477 rfl ?_
          refine u_putZ (b := false) (pc' := 481) dX11_goesOn_478 rfl fl_TuneDoorModel_161 rfl rfl (by decide) (by decide) kd_140 rfl ?_
          refine u_iconst (pc' := 482) dX11_goesOn_481 rfl ?_
          exact u_zret (b := true) dX11_goesOn_482 rfl rfl h
        · have h := h.2 hb
          refine u_iconst (pc' := 459) dX11_goesOn_458 rfl ?_
          exact u_zret (b := false) dX11_goesOn_459 rfl rfl h
  · have h := h.2 hb
    refine u_aload_n (i := 0) (pc' := 415) dX11_goesOn_414 rfl rfl rfl ?_
    refine u_getI (z := (τ 140 8)) (pc' := 418) dX11_goesOn_415 rfl fl_TuneDoorModel_36 rfl (by decide) (by decide) kd_140 rfl (fun r24 => ?_)
    refine u_if_ne (tgt := 426) (pc' := 421) dX11_goesOn_418 rfl (by decide) r24 (fun hb => ?_) (fun hb => ?_)
    · have h := h.1 hb
      refine u_iconst (pc' := 427) dX11_goesOn_426 rfl ?_
      exact u_zret (b := false) dX11_goesOn_427 rfl rfl h
    · have h := h.2 hb
      refine u_aload_n (i := 0) (pc' := 422) dX11_goesOn_421 rfl rfl rfl ?_
      refine u_iconst (pc' := 423) dX11_goesOn_422 rfl ?_
      refine u_invV (q' := qX11_joins) (As := [vI 1]) (st := []) (pc' := 426) dX11_goesOn_423 rfl gX11_joins wm_1601 rfl rfl (by decide) kd_140 wm_1603 wp_97 rfl (Nat.le_of_ble_eq_true rfl) (M0.mono h (fun v τ25 h => ?_))
      obtain ⟨rfl, h⟩ := h
      show V0 E (d + 1) qX11_goesOn 426 [some (vR 140), some (vI x1), some (vI x2), none, none] [] τ25 Q
      refine u_iconst (pc' := 427) dX11_goesOn_426 rfl ?_
      exact u_zret (b := false) dX11_goesOn_427 rfl rfl h
set_option maxRecDepth 20000 in
theorem bX11_goesOn_511 {E : mm_Env} {d : Nat} {τ : mm_Mem} {Q : mm_Q0} {x1 : Int} {x2 : Int} (h : (((τ 140 8) ≤ 0 → M0 E d qX11_joins [vR 140, vI 1] τ (fun v τ2 => v = none ∧ inR ((τ2 140 45) - 1) ∧ inR ((τ2 140 46) - 1) ∧ inR x2 ∧ ((x2 ≠ 4 → ((x2 ≠ 5 → M0 E d qX11_ahead [vR 140] (wr (wr τ2 140 45 ((τ2 140 45) - 1)) 140 46 ((τ2 140 46) - 1)) (fun v τ8 => v = none ∧ Q (some (vB true)) τ8)) ∧ (x2 = 5 → 0 ≤ (((τ2 140 45) - 1) - 1) ∧ (((τ2 140 45) - 1) - 1) < 20 ∧ M0 E d qX11_ahead [vR 140] (wr (wr (wr τ2 140 45 ((τ2 140 45) - 1)) 140 46 ((τ2 140 46) - 1)) 168 (((τ2 140 45) - 1) - 1).toNat 2) (fun v τ12 => v = none ∧ Q (some (vB true)) τ12)))) ∧ (x2 = 4 → 0 ≤ x1 ∧ x1 < 20 ∧ M0 E d qX11_add [vR 140, vI (τ2 170 x1.toNat), vI 0] (wr (wr τ2 140 45 ((τ2 140 45) - 1)) 140 46 ((τ2 140 46) - 1)) (fun v τ16 => v = none ∧ ((x2 ≠ 5 → M0 E d qX11_ahead [vR 140] τ16 (fun v τ17 => v = none ∧ Q (some (vB true)) τ17)) ∧ (x2 = 5 → 0 ≤ ((τ16 140 45) - 1) ∧ ((τ16 140 45) - 1) < 20 ∧ M0 E d qX11_ahead [vR 140] (wr τ16 168 ((τ16 140 45) - 1).toNat 2) (fun v τ21 => v = none ∧ Q (some (vB true)) τ21)))))))) ∧ (¬ (τ 140 8) ≤ 0 → Q (some (vB false)) τ))) : V0 E (d + 1) qX11_goesOn 511 [some (vR 140), some (vI x1), some (vI x2), none, none] [] τ Q := by
  refine u_aload_n (i := 0) (pc' := 512) dX11_goesOn_511 rfl rfl rfl ?_
  refine u_getI (z := (τ 140 8)) (pc' := 515) dX11_goesOn_512 rfl fl_TuneDoorModel_36 rfl (by decide) (by decide) kd_140 rfl (fun r1 => ?_)
  refine u_if_le (tgt := 520) (pc' := 518) dX11_goesOn_515 rfl (by decide) r1 (fun hb => ?_) (fun hb => ?_)
  · have h := h.1 hb
    refine u_aload_n (i := 0) (pc' := 521) dX11_goesOn_520 rfl rfl rfl ?_
    refine u_iconst (pc' := 522) dX11_goesOn_521 rfl ?_
    refine u_invV (q' := qX11_joins) (As := [vI 1]) (st := []) (pc' := 525) dX11_goesOn_522 rfl gX11_joins wm_1601 rfl rfl (by decide) kd_140 wm_1603 wp_97 rfl (Nat.le_of_ble_eq_true rfl) (M0.mono h (fun v τ2 h => ?_))
    obtain ⟨rfl, h⟩ := h
    show V0 E (d + 1) qX11_goesOn 525 [some (vR 140), some (vI x1), some (vI x2), none, none] [] τ2 Q
    refine u_aload_n (i := 0) (pc' := 526) dX11_goesOn_525 rfl rfl rfl ?_
    refine u_dup (pc' := 527) dX11_goesOn_526 rfl (fun _ hh => by cases hh) ?_
    refine u_getI (z := (τ2 140 45)) (pc' := 530) dX11_goesOn_527 rfl fl_TuneDoorModel_149 rfl (by decide) (by decide) kd_140 rfl (fun r3 => ?_)
    refine u_iconst (pc' := 531) dX11_goesOn_530 rfl ?_
    refine u_isub (pc' := 532) dX11_goesOn_531 rfl ?_
    obtain ⟨c4, h⟩ := h
    refine u_putI (pc' := 535) dX11_goesOn_532 rfl fl_TuneDoorModel_149 rfl rfl (by decide) (by decide) kd_140 c4 ?_
    refine u_aload_n (i := 0) (pc' := 536) dX11_goesOn_535 rfl rfl rfl ?_
    refine u_dup (pc' := 537) dX11_goesOn_536 rfl (fun _ hh => by cases hh) ?_
    refine u_getI (z := (τ2 140 46)) (pc' := 540) dX11_goesOn_537 rfl fl_TuneDoorModel_152 rfl (by decide) (by decide) kd_140 rfl (fun r5 => ?_)
    refine u_iconst (pc' := 541) dX11_goesOn_540 rfl ?_
    refine u_isub (pc' := 542) dX11_goesOn_541 rfl ?_
    obtain ⟨c6, h⟩ := h
    refine u_putI (pc' := 545) dX11_goesOn_542 rfl fl_TuneDoorModel_152 rfl rfl (by decide) (by decide) kd_140 c6 ?_
    refine u_iload_n (i := 2) (pc' := 546) dX11_goesOn_545 rfl rfl rfl ?_
    refine u_iconst (pc' := 547) dX11_goesOn_546 rfl ?_
    obtain ⟨c7, h⟩ := h
    refine u_icmp_ne (tgt := 561) (pc' := 550) dX11_goesOn_547 rfl (by decide) c7 ⟨by decide, by decide⟩ (fun hb => ?_) (fun hb => ?_)
    · have h := h.1 hb
      refine u_iload_n (i := 2) (pc' := 562) dX11_goesOn_561 rfl rfl rfl ?_
      refine u_iconst (pc' := 563) dX11_goesOn_562 rfl ?_
      refine u_icmp_ne (tgt := 578) (pc' := 566) dX11_goesOn_563 rfl (by decide) c7 ⟨by decide, by decide⟩ (fun hb => ?_) (fun hb => ?_)
      · have h := h.1 hb
        refine u_aload_n (i := 0) (pc' := 579) dX11_goesOn_578 rfl rfl rfl ?_
        refine u_invV (q' := qX11_ahead) (As := []) (st := []) (pc' := 582) dX11_goesOn_579 rfl gX11_ahead wm_1468 rfl rfl (by decide) kd_140 wm_1470 wp_74 rfl (Nat.le_of_ble_eq_true rfl) (M0.mono h (fun v τ8 h => ?_))
        obtain ⟨rfl, h⟩ := h
        show V0 E (d + 1) qX11_goesOn 582 [some (vR 140), some (vI x1), some (vI x2), none, none] [] τ8 Q
        refine u_iconst (pc' := 583) dX11_goesOn_582 rfl ?_
        exact u_zret (b := true) dX11_goesOn_583 rfl rfl h
      · have h := h.2 hb
        refine u_aload_n (i := 0) (pc' := 567) dX11_goesOn_566 rfl rfl rfl ?_
        refine u_getR (a := 168) (pc' := 570) dX11_goesOn_567 rfl fl_TuneDoorModel_136 rfl (by decide) kd_140 rfl ?_
        refine u_aload_n (i := 0) (pc' := 571) dX11_goesOn_570 rfl rfl rfl ?_
        refine u_getI (z := ((τ2 140 45) - 1)) (pc' := 574) dX11_goesOn_571 rfl fl_TuneDoorModel_149 rfl (by decide) (by decide) kd_140 rfl (fun r9 => ?_)
        refine u_iconst (pc' := 575) dX11_goesOn_574 rfl ?_
        refine u_isub (pc' := 576) dX11_goesOn_575 rfl ?_
        refine u_iconst (pc' := 577) dX11_goesOn_576 rfl ?_
        obtain ⟨c10, c11, h⟩ := h
        refine u_iastore (k := (((τ2 140 45) - 1) - 1).toNat) (pc' := 578) dX11_goesOn_577 rfl (by decide) kd_168 c10 c11 (by decide) rfl ⟨by decide, by decide⟩ ?_
        refine u_aload_n (i := 0) (pc' := 579) dX11_goesOn_578 rfl rfl rfl ?_
        refine u_invV (q' := qX11_ahead) (As := []) (st := []) (pc' := 582) dX11_goesOn_579 rfl gX11_ahead wm_1468 rfl rfl (by decide) kd_140 wm_1470 wp_74 rfl (Nat.le_of_ble_eq_true rfl) (M0.mono h (fun v τ12 h => ?_))
        obtain ⟨rfl, h⟩ := h
        show V0 E (d + 1) qX11_goesOn 582 [some (vR 140), some (vI x1), some (vI x2), none, none] [] τ12 Q
        refine u_iconst (pc' := 583) dX11_goesOn_582 rfl ?_
        exact u_zret (b := true) dX11_goesOn_583 rfl rfl h
    · have h := h.2 hb
      refine u_aload_n (i := 0) (pc' := 551) dX11_goesOn_550 rfl rfl rfl ?_
      refine u_aload_n (i := 0) (pc' := 552) dX11_goesOn_551 rfl rfl rfl ?_
      refine u_getR (a := 170) (pc' := 555) dX11_goesOn_552 rfl fl_TuneDoorModel_143 rfl (by decide) kd_140 rfl ?_
      refine u_iload_n (i := 1) (pc' := 556) dX11_goesOn_555 rfl rfl rfl ?_
      obtain ⟨c13, c14, h⟩ := h
      refine u_iaload (k := x1.toNat) (z := (τ2 170 x1.toNat)) (pc' := 557) dX11_goesOn_556 rfl (by decide) kd_170 c13 c14 (by decide) rfl rfl (fun r15 => ?_)
      refine u_iconst (pc' := 558) dX11_goesOn_557 rfl ?_
      refine u_invV (q' := qX11_add) (As := [vI (τ2 170 x1.toNat), vI 0]) (st := []) (pc' := 561) dX11_goesOn_558 rfl gX11_add wm_1593 rfl rfl (by decide) kd_140 wm_1595 wp_95 rfl (Nat.le_of_ble_eq_true rfl) (M0.mono h (fun v τ16 h => ?_))
      obtain ⟨rfl, h⟩ := h
      show V0 E (d + 1) qX11_goesOn 561 [some (vR 140), some (vI x1), some (vI x2), none, none] [] τ16 Q
      refine u_iload_n (i := 2) (pc' := 562) dX11_goesOn_561 rfl rfl rfl ?_
      refine u_iconst (pc' := 563) dX11_goesOn_562 rfl ?_
      refine u_icmp_ne (tgt := 578) (pc' := 566) dX11_goesOn_563 rfl (by decide) c7 ⟨by decide, by decide⟩ (fun hb => ?_) (fun hb => ?_)
      · have h := h.1 hb
        refine u_aload_n (i := 0) (pc' := 579) dX11_goesOn_578 rfl rfl rfl ?_
        refine u_invV (q' := qX11_ahead) (As := []) (st := []) (pc' := 582) dX11_goesOn_579 rfl gX11_ahead wm_1468 rfl rfl (by decide) kd_140 wm_1470 wp_74 rfl (Nat.le_of_ble_eq_true rfl) (M0.mono h (fun v τ17 h => ?_))
        obtain ⟨rfl, h⟩ := h
        show V0 E (d + 1) qX11_goesOn 582 [some (vR 140), some (vI x1), some (vI x2), none, none] [] τ17 Q
        refine u_iconst (pc' := 583) dX11_goesOn_582 rfl ?_
        exact u_zret (b := true) dX11_goesOn_583 rfl rfl h
      · have h := h.2 hb
        refine u_aload_n (i := 0) (pc' := 567) dX11_goesOn_566 rfl rfl rfl ?_
        refine u_getR (a := 168) (pc' := 570) dX11_goesOn_567 rfl fl_TuneDoorModel_136 rfl (by decide) kd_140 rfl ?_
        refine u_aload_n (i := 0) (pc' := 571) dX11_goesOn_570 rfl rfl rfl ?_
        refine u_getI (z := (τ16 140 45)) (pc' := 574) dX11_goesOn_571 rfl fl_TuneDoorModel_149 rfl (by decide) (by decide) kd_140 rfl (fun r18 => ?_)
        refine u_iconst (pc' := 575) dX11_goesOn_574 rfl ?_
        refine u_isub (pc' := 576) dX11_goesOn_575 rfl ?_
        refine u_iconst (pc' := 577) dX11_goesOn_576 rfl ?_
        obtain ⟨c19, c20, h⟩ := h
        refine u_iastore (k := ((τ16 140 45) - 1).toNat) (pc' := 578) dX11_goesOn_577 rfl (by decide) kd_168 c19 c20 (by decide) rfl ⟨by decide, by decide⟩ ?_
        refine u_aload_n (i := 0) (pc' := 579) dX11_goesOn_578 rfl rfl rfl ?_
        refine u_invV (q' := qX11_ahead) (As := []) (st := []) (pc' := 582) dX11_goesOn_579 rfl gX11_ahead wm_1468 rfl rfl (by decide) kd_140 wm_1470 wp_74 rfl (Nat.le_of_ble_eq_true rfl) (M0.mono h (fun v τ21 h => ?_))
        obtain ⟨rfl, h⟩ := h
        show V0 E (d + 1) qX11_goesOn 582 [some (vR 140), some (vI x1), some (vI x2), none, none] [] τ21 Q
        refine u_iconst (pc' := 583) dX11_goesOn_582 rfl ?_
        exact u_zret (b := true) dX11_goesOn_583 rfl rfl h
  · have h := h.2 hb
    refine u_iconst (pc' := 519) dX11_goesOn_518 rfl ?_
    exact u_zret (b := false) dX11_goesOn_519 rfl rfl h
set_option maxRecDepth 20000 in
theorem bX11_joins_0 {E : mm_Env} {d : Nat} {τ : mm_Mem} {Q : mm_Q0} {a0 : Int} (h : 0 ≤ ((τ 140 45) - 1) ∧ ((τ 140 45) - 1) < 20 ∧ (((τ 140 48) ≤ (τ 171 ((τ 140 45) - 1).toNat) → Q none τ) ∧ (¬ (τ 140 48) ≤ (τ 171 ((τ 140 45) - 1).toNat) → 0 ≤ ((τ 140 48) - 1) ∧ ((τ 140 48) - 1) < 500 ∧ M0 E d qX11_rank [vI (τ 172 ((τ 140 48) - 1).toNat)] τ (fun v τ10 => ∃ r11 : Int, v = some (vI r11) ∧ inR r11 ∧ inR a0 ∧ ((r11 < a0 → Q none τ10) ∧ (¬ r11 < a0 → inR ((τ10 140 48) - 1) ∧ 0 ≤ ((τ10 140 48) - 1) ∧ ((τ10 140 48) - 1) < 500 ∧ M0 E d qX11_add [vR 140, vI (τ10 172 ((τ10 140 48) - 1).toNat), vI 0] (wr τ10 140 48 ((τ10 140 48) - 1)) (fun v τ20 => v = none ∧ V0 E (d + 1) qX11_joins 0 [some (vR 140), some (vI a0)] [] τ20 Q))))))) : V0 E (d + 1) qX11_joins 0 [some (vR 140), some (vI a0)] [] τ Q := by
  refine u_aload_n (i := 0) (pc' := 1) dX11_joins_0 rfl rfl rfl ?_
  refine u_getI (z := (τ 140 48)) (pc' := 4) dX11_joins_1 rfl fl_TuneDoorModel_158 rfl (by decide) (by decide) kd_140 rfl (fun r1 => ?_)
  refine u_aload_n (i := 0) (pc' := 5) dX11_joins_4 rfl rfl rfl ?_
  refine u_getR (a := 171) (pc' := 8) dX11_joins_5 rfl fl_TuneDoorModel_146 rfl (by decide) kd_140 rfl ?_
  refine u_aload_n (i := 0) (pc' := 9) dX11_joins_8 rfl rfl rfl ?_
  refine u_getI (z := (τ 140 45)) (pc' := 12) dX11_joins_9 rfl fl_TuneDoorModel_149 rfl (by decide) (by decide) kd_140 rfl (fun r2 => ?_)
  refine u_iconst (pc' := 13) dX11_joins_12 rfl ?_
  refine u_isub (pc' := 14) dX11_joins_13 rfl ?_
  obtain ⟨c3, c4, h⟩ := h
  refine u_iaload (k := ((τ 140 45) - 1).toNat) (z := (τ 171 ((τ 140 45) - 1).toNat)) (pc' := 15) dX11_joins_14 rfl (by decide) kd_171 c3 c4 (by decide) rfl rfl (fun r5 => ?_)
  refine u_icmp_le (tgt := 63) (pc' := 18) dX11_joins_15 rfl (by decide) r1 r5 (fun hb => ?_) (fun hb => ?_)
  · have h := h.1 hb
    exact u_ret dX11_joins_63 rfl h
  · have h := h.2 hb
    refine u_aload_n (i := 0) (pc' := 19) dX11_joins_18 rfl rfl rfl ?_
    refine u_getR (a := 172) (pc' := 22) dX11_joins_19 rfl fl_TuneDoorModel_155 rfl (by decide) kd_140 rfl ?_
    refine u_aload_n (i := 0) (pc' := 23) dX11_joins_22 rfl rfl rfl ?_
    refine u_getI (z := (τ 140 48)) (pc' := 26) dX11_joins_23 rfl fl_TuneDoorModel_158 rfl (by decide) (by decide) kd_140 rfl (fun r6 => ?_)
    refine u_iconst (pc' := 27) dX11_joins_26 rfl ?_
    refine u_isub (pc' := 28) dX11_joins_27 rfl ?_
    obtain ⟨c7, c8, h⟩ := h
    refine u_iaload (k := ((τ 140 48) - 1).toNat) (z := (τ 172 ((τ 140 48) - 1).toNat)) (pc' := 29) dX11_joins_28 rfl (by decide) kd_172 c7 c8 (by decide) rfl rfl (fun r9 => ?_)
    refine u_invS (q' := qX11_rank) (As := [vI (τ 172 ((τ 140 48) - 1).toNat)]) (st := []) (pc' := 32) dX11_joins_29 rfl gX11_rank wm_1605 wm_1606 rfl (Nat.le_of_ble_eq_true rfl) (M0.mono h (fun v τ10 h => ?_))
    obtain ⟨r11, rfl, h⟩ := h
    show V0 E (d + 1) qX11_joins 32 [some (vR 140), some (vI a0)] [vI r11] τ10 Q
    refine u_iload_n (i := 1) (pc' := 33) dX11_joins_32 rfl rfl rfl ?_
    obtain ⟨c12, c13, h⟩ := h
    refine u_icmp_lt (tgt := 63) (pc' := 36) dX11_joins_33 rfl (by decide) c12 c13 (fun hb => ?_) (fun hb => ?_)
    · have h := h.1 hb
      exact u_ret dX11_joins_63 rfl h
    · have h := h.2 hb
      refine u_aload_n (i := 0) (pc' := 37) dX11_joins_36 rfl rfl rfl ?_
      refine u_dup (pc' := 38) dX11_joins_37 rfl (fun _ hh => by cases hh) ?_
      refine u_getI (z := (τ10 140 48)) (pc' := 41) dX11_joins_38 rfl fl_TuneDoorModel_158 rfl (by decide) (by decide) kd_140 rfl (fun r14 => ?_)
      refine u_iconst (pc' := 42) dX11_joins_41 rfl ?_
      refine u_isub (pc' := 43) dX11_joins_42 rfl ?_
      obtain ⟨c15, h⟩ := h
      refine u_putI (pc' := 46) dX11_joins_43 rfl fl_TuneDoorModel_158 rfl rfl (by decide) (by decide) kd_140 c15 ?_
      refine u_aload_n (i := 0) (pc' := 47) dX11_joins_46 rfl rfl rfl ?_
      refine u_aload_n (i := 0) (pc' := 48) dX11_joins_47 rfl rfl rfl ?_
      refine u_getR (a := 172) (pc' := 51) dX11_joins_48 rfl fl_TuneDoorModel_155 rfl (by decide) kd_140 rfl ?_
      refine u_aload_n (i := 0) (pc' := 52) dX11_joins_51 rfl rfl rfl ?_
      refine u_getI (z := ((τ10 140 48) - 1)) (pc' := 55) dX11_joins_52 rfl fl_TuneDoorModel_158 rfl (by decide) (by decide) kd_140 rfl (fun r16 => ?_)
      obtain ⟨c17, c18, h⟩ := h
      refine u_iaload (k := ((τ10 140 48) - 1).toNat) (z := (τ10 172 ((τ10 140 48) - 1).toNat)) (pc' := 56) dX11_joins_55 rfl (by decide) kd_172 c17 c18 (by decide) rfl rfl (fun r19 => ?_)
      refine u_iconst (pc' := 57) dX11_joins_56 rfl ?_
      refine u_invV (q' := qX11_add) (As := [vI (τ10 172 ((τ10 140 48) - 1).toNat), vI 0]) (st := []) (pc' := 60) dX11_joins_57 rfl gX11_add wm_1593 rfl rfl (by decide) kd_140 wm_1595 wp_95 rfl (Nat.le_of_ble_eq_true rfl) (M0.mono h (fun v τ20 h => ?_))
      obtain ⟨rfl, h⟩ := h
      show V0 E (d + 1) qX11_joins 60 [some (vR 140), some (vI a0)] [] τ20 Q
      refine u_goto (tgt := 0) dX11_joins_60 (by decide) ?_
      exact u_less (ls' := [some (vR 140), some (vI a0)]) ⟨rfl, ⟨rfl, trivial⟩⟩ h
theorem mX11_joins {E : mm_Env} {d : Nat} {τ : mm_Mem} {Q : mm_Q0} {a0 : Int} (h : 0 ≤ ((τ 140 45) - 1) ∧ ((τ 140 45) - 1) < 20 ∧ (((τ 140 48) ≤ (τ 171 ((τ 140 45) - 1).toNat) → Q none τ) ∧ (¬ (τ 140 48) ≤ (τ 171 ((τ 140 45) - 1).toNat) → 0 ≤ ((τ 140 48) - 1) ∧ ((τ 140 48) - 1) < 500 ∧ M0 E d qX11_rank [vI (τ 172 ((τ 140 48) - 1).toNat)] τ (fun v τ10 => ∃ r11 : Int, v = some (vI r11) ∧ inR r11 ∧ inR a0 ∧ ((r11 < a0 → Q none τ10) ∧ (¬ r11 < a0 → inR ((τ10 140 48) - 1) ∧ 0 ≤ ((τ10 140 48) - 1) ∧ ((τ10 140 48) - 1) < 500 ∧ M0 E d qX11_add [vR 140, vI (τ10 172 ((τ10 140 48) - 1).toNat), vI 0] (wr τ10 140 48 ((τ10 140 48) - 1)) (fun v τ20 => v = none ∧ V0 E (d + 1) qX11_joins 0 [some (vR 140), some (vI a0)] [] τ20 Q))))))) : M0 E (d + 1) qX11_joins [vR 140, vI a0] τ Q := M0_of rfl (Nat.le_of_ble_eq_true rfl) [some (vR 140), some (vI a0)] rfl (bX11_joins_0  h)
set_option maxRecDepth 20000 in
theorem bX11_rank_0 {E : mm_Env} {d : Nat} {τ : mm_Mem} {Q : mm_Q0} {a0 : Int} (h : inR a0 ∧ ((a0 ≠ 21 → ((a0 ≠ 20 → ((a0 ≠ 22 → ((a0 = 17 → Q (some (vI 4)) τ) ∧ (¬ a0 = 17 → ((a0 = 18 → Q (some (vI 4)) τ) ∧ (¬ a0 = 18 → ((a0 ≠ 19 → ((a0 = 10 → Q (some (vI 5)) τ) ∧ (¬ a0 = 10 → ((a0 ≠ 11 → Q (some (vI 6)) τ) ∧ (a0 = 11 → Q (some (vI 5)) τ))))) ∧ (a0 = 19 → Q (some (vI 4)) τ))))))) ∧ (a0 = 22 → Q (some (vI 3)) τ))) ∧ (a0 = 20 → Q (some (vI 2)) τ))) ∧ (a0 = 21 → Q (some (vI 1)) τ))) : V0 E d qX11_rank 0 [some (vI a0)] [] τ Q := by
  refine u_iload_n (i := 0) (pc' := 1) dX11_rank_0 rfl rfl rfl ?_
  refine u_bipush (pc' := 3) dX11_rank_1 rfl (by decide) ?_
  obtain ⟨c1, h⟩ := h
  refine u_icmp_ne (tgt := 10) (pc' := 6) dX11_rank_3 rfl (by decide) c1 ⟨by decide, by decide⟩ (fun hb => ?_) (fun hb => ?_)
  · have h := h.1 hb
    refine u_iload_n (i := 0) (pc' := 11) dX11_rank_10 rfl rfl rfl ?_
    refine u_bipush (pc' := 13) dX11_rank_11 rfl (by decide) ?_
    refine u_icmp_ne (tgt := 20) (pc' := 16) dX11_rank_13 rfl (by decide) c1 ⟨by decide, by decide⟩ (fun hb => ?_) (fun hb => ?_)
    · have h := h.1 hb
      refine u_iload_n (i := 0) (pc' := 21) dX11_rank_20 rfl rfl rfl ?_
      refine u_bipush (pc' := 23) dX11_rank_21 rfl (by decide) ?_
      refine u_icmp_ne (tgt := 30) (pc' := 26) dX11_rank_23 rfl (by decide) c1 ⟨by decide, by decide⟩ (fun hb => ?_) (fun hb => ?_)
      · have h := h.1 hb
        refine u_iload_n (i := 0) (pc' := 31) dX11_rank_30 rfl rfl rfl ?_
        refine u_bipush (pc' := 33) dX11_rank_31 rfl (by decide) ?_
        refine u_icmp_eq (tgt := 48) (pc' := 36) dX11_rank_33 rfl (by decide) c1 ⟨by decide, by decide⟩ (fun hb => ?_) (fun hb => ?_)
        · have h := h.1 hb
          refine u_iconst (pc' := 49) dX11_rank_48 rfl ?_
          refine u_goto (tgt := 70) dX11_rank_49 (by decide) ?_
          exact u_iret dX11_rank_70 rfl h
        · have h := h.2 hb
          refine u_iload_n (i := 0) (pc' := 37) dX11_rank_36 rfl rfl rfl ?_
          refine u_bipush (pc' := 39) dX11_rank_37 rfl (by decide) ?_
          refine u_icmp_eq (tgt := 48) (pc' := 42) dX11_rank_39 rfl (by decide) c1 ⟨by decide, by decide⟩ (fun hb => ?_) (fun hb => ?_)
          · have h := h.1 hb
            refine u_iconst (pc' := 49) dX11_rank_48 rfl ?_
            refine u_goto (tgt := 70) dX11_rank_49 (by decide) ?_
            exact u_iret dX11_rank_70 rfl h
          · have h := h.2 hb
            refine u_iload_n (i := 0) (pc' := 43) dX11_rank_42 rfl rfl rfl ?_
            refine u_bipush (pc' := 45) dX11_rank_43 rfl (by decide) ?_
            refine u_icmp_ne (tgt := 52) (pc' := 48) dX11_rank_45 rfl (by decide) c1 ⟨by decide, by decide⟩ (fun hb => ?_) (fun hb => ?_)
            · have h := h.1 hb
              refine u_iload_n (i := 0) (pc' := 53) dX11_rank_52 rfl rfl rfl ?_
              refine u_bipush (pc' := 55) dX11_rank_53 rfl (by decide) ?_
              refine u_icmp_eq (tgt := 64) (pc' := 58) dX11_rank_55 rfl (by decide) c1 ⟨by decide, by decide⟩ (fun hb => ?_) (fun hb => ?_)
              · have h := h.1 hb
                refine u_iconst (pc' := 65) dX11_rank_64 rfl ?_
                refine u_goto (tgt := 70) dX11_rank_65 (by decide) ?_
                exact u_iret dX11_rank_70 rfl h
              · have h := h.2 hb
                refine u_iload_n (i := 0) (pc' := 59) dX11_rank_58 rfl rfl rfl ?_
                refine u_bipush (pc' := 61) dX11_rank_59 rfl (by decide) ?_
                refine u_icmp_ne (tgt := 68) (pc' := 64) dX11_rank_61 rfl (by decide) c1 ⟨by decide, by decide⟩ (fun hb => ?_) (fun hb => ?_)
                · have h := h.1 hb
                  refine u_bipush (pc' := 70) dX11_rank_68 rfl (by decide) ?_
                  exact u_iret dX11_rank_70 rfl h
                · have h := h.2 hb
                  refine u_iconst (pc' := 65) dX11_rank_64 rfl ?_
                  refine u_goto (tgt := 70) dX11_rank_65 (by decide) ?_
                  exact u_iret dX11_rank_70 rfl h
            · have h := h.2 hb
              refine u_iconst (pc' := 49) dX11_rank_48 rfl ?_
              refine u_goto (tgt := 70) dX11_rank_49 (by decide) ?_
              exact u_iret dX11_rank_70 rfl h
      · have h := h.2 hb
        refine u_iconst (pc' := 27) dX11_rank_26 rfl ?_
        refine u_goto (tgt := 70) dX11_rank_27 (by decide) ?_
        exact u_iret dX11_rank_70 rfl h
    · have h := h.2 hb
      refine u_iconst (pc' := 17) dX11_rank_16 rfl ?_
      refine u_goto (tgt := 70) dX11_rank_17 (by decide) ?_
      exact u_iret dX11_rank_70 rfl h
  · have h := h.2 hb
    refine u_iconst (pc' := 7) dX11_rank_6 rfl ?_
    refine u_goto (tgt := 70) dX11_rank_7 (by decide) ?_
    exact u_iret dX11_rank_70 rfl h
theorem mX11_rank {E : mm_Env} {d : Nat} {τ : mm_Mem} {Q : mm_Q0} {a0 : Int} (h : inR a0 ∧ ((a0 ≠ 21 → ((a0 ≠ 20 → ((a0 ≠ 22 → ((a0 = 17 → Q (some (vI 4)) τ) ∧ (¬ a0 = 17 → ((a0 = 18 → Q (some (vI 4)) τ) ∧ (¬ a0 = 18 → ((a0 ≠ 19 → ((a0 = 10 → Q (some (vI 5)) τ) ∧ (¬ a0 = 10 → ((a0 ≠ 11 → Q (some (vI 6)) τ) ∧ (a0 = 11 → Q (some (vI 5)) τ))))) ∧ (a0 = 19 → Q (some (vI 4)) τ))))))) ∧ (a0 = 22 → Q (some (vI 3)) τ))) ∧ (a0 = 20 → Q (some (vI 2)) τ))) ∧ (a0 = 21 → Q (some (vI 1)) τ))) : M0 E d qX11_rank [vI a0] τ Q := M0_of rfl (Nat.le_of_ble_eq_true rfl) [some (vI a0)] rfl (bX11_rank_0  h)
set_option maxRecDepth 20000 in
theorem bX11_door_0 {E : mm_Env} {d : Nat} {τ : mm_Mem} {Q : mm_Q0}  (h : 0 ≤ (τ 140 39) ∧ (τ 140 39) < 2 ∧ (((τ 152 (τ 140 39).toNat) ≠ 4 → V0 E (d + 1) qX11_door 19 [some (vR 140), none, none] [vI 0, vR 140] τ Q) ∧ ((τ 152 (τ 140 39).toNat) = 4 → V0 E (d + 1) qX11_door 19 [some (vR 140), none, none] [vI 1, vR 140] τ Q))) : V0 E (d + 1) qX11_door 0 [some (vR 140), none, none] [] τ Q := by
  refine u_aload_n (i := 0) (pc' := 1) dX11_door_0 rfl rfl rfl ?_
  refine u_aload_n (i := 0) (pc' := 2) dX11_door_1 rfl rfl rfl ?_
  refine u_getR (a := 152) (pc' := 5) dX11_door_2 rfl fl_TuneDoorModel_82 rfl (by decide) kd_140 rfl ?_
  refine u_aload_n (i := 0) (pc' := 6) dX11_door_5 rfl rfl rfl ?_
  refine u_getI (z := (τ 140 39)) (pc' := 9) dX11_door_6 rfl fl_TuneDoorModel_130 rfl (by decide) (by decide) kd_140 rfl (fun r1 => ?_)
  obtain ⟨c2, c3, h⟩ := h
  refine u_iaload (k := (τ 140 39).toNat) (z := (τ 152 (τ 140 39).toNat)) (pc' := 10) dX11_door_9 rfl (by decide) kd_152 c2 c3 (by decide) rfl rfl (fun r4 => ?_)
  refine u_iconst (pc' := 11) dX11_door_10 rfl ?_
  refine u_icmp_ne (tgt := 18) (pc' := 14) dX11_door_11 rfl (by decide) r4 ⟨by decide, by decide⟩ (fun hb => ?_) (fun hb => ?_)
  · have h := h.1 hb
    refine u_iconst (pc' := 19) dX11_door_18 rfl ?_
    exact u_less (ls' := [some (vR 140), none, none]) ⟨rfl, trivial⟩ h
  · have h := h.2 hb
    refine u_iconst (pc' := 15) dX11_door_14 rfl ?_
    refine u_goto (tgt := 19) dX11_door_15 (by decide) ?_
    exact u_less (ls' := [some (vR 140), none, none]) ⟨rfl, trivial⟩ h
theorem mX11_door {E : mm_Env} {d : Nat} {τ : mm_Mem} {Q : mm_Q0}  (h : 0 ≤ (τ 140 39) ∧ (τ 140 39) < 2 ∧ (((τ 152 (τ 140 39).toNat) ≠ 4 → V0 E (d + 1) qX11_door 19 [some (vR 140), none, none] [vI 0, vR 140] τ Q) ∧ ((τ 152 (τ 140 39).toNat) = 4 → V0 E (d + 1) qX11_door 19 [some (vR 140), none, none] [vI 1, vR 140] τ Q))) : M0 E (d + 1) qX11_door [vR 140] τ Q := M0_of rfl (Nat.le_of_ble_eq_true rfl) [some (vR 140), none, none] rfl (bX11_door_0  h)
set_option maxRecDepth 20000 in
theorem bX11_door_19 {E : mm_Env} {d : Nat} {τ : mm_Mem} {Q : mm_Q0} {y0 : Int} (h : M0 E d qX11_counts [vR 140, vI y0] τ (fun v τ1 => ∃ b2 : Bool, v = some (vB b2) ∧ ((b2 = true → 0 ≤ (τ1 140 39) ∧ (τ1 140 39) < 2 ∧ M0 E d qX11_fresh [vR 140] τ1 (fun v τ8 => ∃ r9 : Int, v = some (vL r9) ∧ 0 ≤ ((4 * (τ1 140 39)) + (τ1 152 (τ1 140 39).toNat)) ∧ ((4 * (τ1 140 39)) + (τ1 152 (τ1 140 39).toNat)) < 8 ∧ (((τ8 140 8) ≠ 0 → V0 E (d + 1) qX11_door 77 [some (vR 140), some (vI ((4 * (τ1 140 39)) + (τ1 152 (τ1 140 39).toNat))), none] [] (wr τ8 153 ((4 * (τ1 140 39)) + (τ1 152 (τ1 140 39).toNat)).toNat r9) Q) ∧ ((τ8 140 8) = 0 → M0 E d qX11_kindHere [vR 140] (wr τ8 153 ((4 * (τ1 140 39)) + (τ1 152 (τ1 140 39).toNat)).toNat r9) (fun v τ13 => ∃ r14 : Int, v = some (vI r14) ∧ inR r14 ∧ ((r14 ≠ (-1) → V0 E (d + 1) qX11_door 77 [some (vR 140), some (vI ((4 * (τ1 140 39)) + (τ1 152 (τ1 140 39).toNat))), none] [] τ13 Q) ∧ (r14 = (-1) → M0 E d qX11_blame [vR 140, vI 1, vI (τ13 140 4)] τ13 (fun v τ17 => v = none ∧ V0 E (d + 1) qX11_door 77 [some (vR 140), some (vI ((4 * (τ1 140 39)) + (τ1 152 (τ1 140 39).toNat))), none] [] τ17 Q)))))))) ∧ (b2 = false → Q none τ1)))) : V0 E (d + 1) qX11_door 19 [some (vR 140), none, none] [vI y0, vR 140] τ Q := by
  refine u_invV (q' := qX11_counts) (As := [vI y0]) (st := []) (pc' := 22) dX11_door_19 rfl gX11_counts wm_1520 rfl rfl (by decide) kd_140 wm_1522 wp_84 rfl (Nat.le_of_ble_eq_true rfl) (M0.mono h (fun v τ1 h => ?_))
  obtain ⟨b2, rfl, h⟩ := h
  show V0 E (d + 1) qX11_door 22 [some (vR 140), none, none] [vB b2] τ1 Q
  refine u_if_ne (tgt := 26) (pc' := 25) dX11_door_22 rfl (by decide) (bI_R _) (fun hb => ?_) (fun hb => ?_)
  · have h := h.1 (bI_n0.mp hb)
    refine u_iconst (pc' := 27) dX11_door_26 rfl ?_
    refine u_aload_n (i := 0) (pc' := 28) dX11_door_27 rfl rfl rfl ?_
    refine u_getI (z := (τ1 140 39)) (pc' := 31) dX11_door_28 rfl fl_TuneDoorModel_130 rfl (by decide) (by decide) kd_140 rfl (fun r3 => ?_)
    refine u_imul (pc' := 32) dX11_door_31 rfl ?_
    refine u_aload_n (i := 0) (pc' := 33) dX11_door_32 rfl rfl rfl ?_
    refine u_getR (a := 152) (pc' := 36) dX11_door_33 rfl fl_TuneDoorModel_82 rfl (by decide) kd_140 rfl ?_
    refine u_aload_n (i := 0) (pc' := 37) dX11_door_36 rfl rfl rfl ?_
    refine u_getI (z := (τ1 140 39)) (pc' := 40) dX11_door_37 rfl fl_TuneDoorModel_130 rfl (by decide) (by decide) kd_140 rfl (fun r4 => ?_)
    obtain ⟨c5, c6, h⟩ := h
    refine u_iaload (k := (τ1 140 39).toNat) (z := (τ1 152 (τ1 140 39).toNat)) (pc' := 41) dX11_door_40 rfl (by decide) kd_152 c5 c6 (by decide) rfl rfl (fun r7 => ?_)
    refine u_iadd (pc' := 42) dX11_door_41 rfl ?_
    refine s_istore_n (i := 1) (ls' := [some (vR 140), some (vI ((4 * (τ1 140 39)) + (τ1 152 (τ1 140 39).toNat))), none]) (pc' := 43) dX11_door_42 rfl rfl (Nat.le_of_ble_eq_true rfl) rfl rfl ?_
    refine u_aload_n (i := 0) (pc' := 44) dX11_door_43 rfl rfl rfl ?_
    refine u_getR (a := 153) (pc' := 47) dX11_door_44 rfl fl_TuneDoorModel_85 rfl (by decide) kd_140 rfl ?_
    refine u_iload_n (i := 1) (pc' := 48) dX11_door_47 rfl rfl rfl ?_
    refine u_aload_n (i := 0) (pc' := 49) dX11_door_48 rfl rfl rfl ?_
    refine u_invV (q' := qX11_fresh) (As := []) (st := [vI ((4 * (τ1 140 39)) + (τ1 152 (τ1 140 39).toNat)), vR 153]) (pc' := 52) dX11_door_49 rfl gX11_fresh wm_1524 rfl rfl (by decide) kd_140 wm_1526 wp_85 rfl (Nat.le_of_ble_eq_true rfl) (M0.mono h (fun v τ8 h => ?_))
    obtain ⟨r9, rfl, h⟩ := h
    show V0 E (d + 1) qX11_door 52 [some (vR 140), some (vI ((4 * (τ1 140 39)) + (τ1 152 (τ1 140 39).toNat))), none] [vL r9, vI ((4 * (τ1 140 39)) + (τ1 152 (τ1 140 39).toNat)), vR 153] τ8 Q
    obtain ⟨c10, c11, h⟩ := h
    refine u_lastore (k := ((4 * (τ1 140 39)) + (τ1 152 (τ1 140 39).toNat)).toNat) (pc' := 53) dX11_door_52 rfl (by decide) kd_153 c10 c11 (by decide) rfl (mm_R0_La kd_153) ?_
    refine u_aload_n (i := 0) (pc' := 54) dX11_door_53 rfl rfl rfl ?_
    refine u_getI (z := (τ8 140 8)) (pc' := 57) dX11_door_54 rfl fl_TuneDoorModel_36 rfl (by decide) (by decide) kd_140 rfl (fun r12 => ?_)
    refine u_if_ne (tgt := 77) (pc' := 60) dX11_door_57 rfl (by decide) r12 (fun hb => ?_) (fun hb => ?_)
    · have h := h.1 hb
      exact u_less (ls' := [some (vR 140), some (vI ((4 * (τ1 140 39)) + (τ1 152 (τ1 140 39).toNat))), none]) ⟨rfl, ⟨rfl, trivial⟩⟩ h
    · have h := h.2 hb
      refine u_aload_n (i := 0) (pc' := 61) dX11_door_60 rfl rfl rfl ?_
      refine u_invV (q' := qX11_kindHere) (As := []) (st := []) (pc' := 64) dX11_door_61 rfl gX11_kindHere wm_1612 rfl rfl (by decide) kd_140 wm_1614 wp_99 rfl (Nat.le_of_ble_eq_true rfl) (M0.mono h (fun v τ13 h => ?_))
      obtain ⟨r14, rfl, h⟩ := h
      show V0 E (d + 1) qX11_door 64 [some (vR 140), some (vI ((4 * (τ1 140 39)) + (τ1 152 (τ1 140 39).toNat))), none] [vI r14] τ13 Q
      refine u_iconst (pc' := 65) dX11_door_64 rfl ?_
      obtain ⟨c15, h⟩ := h
      refine u_icmp_ne (tgt := 77) (pc' := 68) dX11_door_65 rfl (by decide) c15 ⟨by decide, by decide⟩ (fun hb => ?_) (fun hb => ?_)
      · have h := h.1 hb
        exact u_less (ls' := [some (vR 140), some (vI ((4 * (τ1 140 39)) + (τ1 152 (τ1 140 39).toNat))), none]) ⟨rfl, ⟨rfl, trivial⟩⟩ h
      · have h := h.2 hb
        refine u_aload_n (i := 0) (pc' := 69) dX11_door_68 rfl rfl rfl ?_
        refine u_iconst (pc' := 70) dX11_door_69 rfl ?_
        refine u_aload_n (i := 0) (pc' := 71) dX11_door_70 rfl rfl rfl ?_
        refine u_getI (z := (τ13 140 4)) (pc' := 74) dX11_door_71 rfl fl_TuneDoorModel_23 rfl (by decide) (by decide) kd_140 rfl (fun r16 => ?_)
        refine u_invV (q' := qX11_blame) (As := [vI 1, vI (τ13 140 4)]) (st := []) (pc' := 77) dX11_door_74 rfl gX11_blame wm_1478 rfl rfl (by decide) kd_140 wm_1480 wp_75 rfl (Nat.le_of_ble_eq_true rfl) (M0.mono h (fun v τ17 h => ?_))
        obtain ⟨rfl, h⟩ := h
        show V0 E (d + 1) qX11_door 77 [some (vR 140), some (vI ((4 * (τ1 140 39)) + (τ1 152 (τ1 140 39).toNat))), none] [] τ17 Q
        exact u_less (ls' := [some (vR 140), some (vI ((4 * (τ1 140 39)) + (τ1 152 (τ1 140 39).toNat))), none]) ⟨rfl, ⟨rfl, trivial⟩⟩ h
  · have h := h.2 (bI_0.mp hb)
    exact u_ret dX11_door_25 rfl h
set_option maxRecDepth 20000 in
theorem bX11_door_77 {E : mm_Env} {d : Nat} {τ : mm_Mem} {Q : mm_Q0} {x1 : Int} (h : (((τ 140 8) ≤ 0 → M0 E d qX11_kindHere [vR 140] τ (fun v τ2 => ∃ r3 : Int, v = some (vI r3) ∧ 0 ≤ x1 ∧ x1 < 8 ∧ inR r3 ∧ M0 E d qX11_ahead [vR 140] (wr τ2 154 x1.toNat r3) (fun v τ7 => v = none ∧ ((r3 ≠ 0 → ((r3 ≠ 2 → M0 E d qX11_number [vR 140, vI 0, vI 40] τ7 (fun v τ8 => ∃ r9 : Int, v = some (vI r9) ∧ V0 E (d + 1) qX11_door 130 [some (vR 140), some (vI x1), some (vI r3)] [vI r9, vI x1, vR 155] τ8 Q)) ∧ (r3 = 2 → M0 E d qX11_number [vR 140, vI 1, vI 40] τ7 (fun v τ10 => ∃ r11 : Int, v = some (vI r11) ∧ V0 E (d + 1) qX11_door 130 [some (vR 140), some (vI x1), some (vI r3)] [vI r11, vI x1, vR 155] τ10 Q)))) ∧ (r3 = 0 → V0 E (d + 1) qX11_door 130 [some (vR 140), some (vI x1), some (vI r3)] [vI 0, vI x1, vR 155] τ7 Q))))) ∧ (¬ (τ 140 8) ≤ 0 → Q none τ))) : V0 E (d + 1) qX11_door 77 [some (vR 140), some (vI x1), none] [] τ Q := by
  refine u_aload_n (i := 0) (pc' := 78) dX11_door_77 rfl rfl rfl ?_
  refine u_getI (z := (τ 140 8)) (pc' := 81) dX11_door_78 rfl fl_TuneDoorModel_36 rfl (by decide) (by decide) kd_140 rfl (fun r1 => ?_)
  refine u_if_le (tgt := 85) (pc' := 84) dX11_door_81 rfl (by decide) r1 (fun hb => ?_) (fun hb => ?_)
  · have h := h.1 hb
    refine u_aload_n (i := 0) (pc' := 86) dX11_door_85 rfl rfl rfl ?_
    refine u_invV (q' := qX11_kindHere) (As := []) (st := []) (pc' := 89) dX11_door_86 rfl gX11_kindHere wm_1612 rfl rfl (by decide) kd_140 wm_1614 wp_99 rfl (Nat.le_of_ble_eq_true rfl) (M0.mono h (fun v τ2 h => ?_))
    obtain ⟨r3, rfl, h⟩ := h
    show V0 E (d + 1) qX11_door 89 [some (vR 140), some (vI x1), none] [vI r3] τ2 Q
    refine s_istore_n (i := 2) (ls' := [some (vR 140), some (vI x1), some (vI r3)]) (pc' := 90) dX11_door_89 rfl rfl (Nat.le_of_ble_eq_true rfl) rfl rfl ?_
    refine u_aload_n (i := 0) (pc' := 91) dX11_door_90 rfl rfl rfl ?_
    refine u_getR (a := 154) (pc' := 94) dX11_door_91 rfl fl_TuneDoorModel_88 rfl (by decide) kd_140 rfl ?_
    refine u_iload_n (i := 1) (pc' := 95) dX11_door_94 rfl rfl rfl ?_
    refine u_iload_n (i := 2) (pc' := 96) dX11_door_95 rfl rfl rfl ?_
    obtain ⟨c4, c5, c6, h⟩ := h
    refine u_iastore (k := x1.toNat) (pc' := 97) dX11_door_96 rfl (by decide) kd_154 c4 c5 (by decide) rfl c6 ?_
    refine u_aload_n (i := 0) (pc' := 98) dX11_door_97 rfl rfl rfl ?_
    refine u_invV (q' := qX11_ahead) (As := []) (st := []) (pc' := 101) dX11_door_98 rfl gX11_ahead wm_1468 rfl rfl (by decide) kd_140 wm_1470 wp_74 rfl (Nat.le_of_ble_eq_true rfl) (M0.mono h (fun v τ7 h => ?_))
    obtain ⟨rfl, h⟩ := h
    show V0 E (d + 1) qX11_door 101 [some (vR 140), some (vI x1), some (vI r3)] [] τ7 Q
    refine u_aload_n (i := 0) (pc' := 102) dX11_door_101 rfl rfl rfl ?_
    refine u_getR (a := 155) (pc' := 105) dX11_door_102 rfl fl_TuneDoorModel_91 rfl (by decide) kd_140 rfl ?_
    refine u_iload_n (i := 1) (pc' := 106) dX11_door_105 rfl rfl rfl ?_
    refine u_iload_n (i := 2) (pc' := 107) dX11_door_106 rfl rfl rfl ?_
    refine u_if_ne (tgt := 114) (pc' := 110) dX11_door_107 rfl (by decide) c6 (fun hb => ?_) (fun hb => ?_)
    · have h := h.1 hb
      refine u_aload_n (i := 0) (pc' := 115) dX11_door_114 rfl rfl rfl ?_
      refine u_iload_n (i := 2) (pc' := 116) dX11_door_115 rfl rfl rfl ?_
      refine u_iconst (pc' := 117) dX11_door_116 rfl ?_
      refine u_icmp_ne (tgt := 124) (pc' := 120) dX11_door_117 rfl (by decide) c6 ⟨by decide, by decide⟩ (fun hb => ?_) (fun hb => ?_)
      · have h := h.1 hb
        refine u_iconst (pc' := 125) dX11_door_124 rfl ?_
        refine u_bipush (pc' := 127) dX11_door_125 rfl (by decide) ?_
        refine u_invV (q' := qX11_number) (As := [vI 0, vI 40]) (st := [vI x1, vR 155]) (pc' := 130) dX11_door_127 rfl gX11_number wm_1491 rfl rfl (by decide) kd_140 wm_1493 wp_78 rfl (Nat.le_of_ble_eq_true rfl) (M0.mono h (fun v τ8 h => ?_))
        obtain ⟨r9, rfl, h⟩ := h
        show V0 E (d + 1) qX11_door 130 [some (vR 140), some (vI x1), some (vI r3)] [vI r9, vI x1, vR 155] τ8 Q
        exact u_less (ls' := [some (vR 140), some (vI x1), some (vI r3)]) ⟨rfl, ⟨rfl, ⟨rfl, trivial⟩⟩⟩ h
      · have h := h.2 hb
        refine u_iconst (pc' := 121) dX11_door_120 rfl ?_
        refine u_goto (tgt := 125) dX11_door_121 (by decide) ?_
        refine u_bipush (pc' := 127) dX11_door_125 rfl (by decide) ?_
        refine u_invV (q' := qX11_number) (As := [vI 1, vI 40]) (st := [vI x1, vR 155]) (pc' := 130) dX11_door_127 rfl gX11_number wm_1491 rfl rfl (by decide) kd_140 wm_1493 wp_78 rfl (Nat.le_of_ble_eq_true rfl) (M0.mono h (fun v τ10 h => ?_))
        obtain ⟨r11, rfl, h⟩ := h
        show V0 E (d + 1) qX11_door 130 [some (vR 140), some (vI x1), some (vI r3)] [vI r11, vI x1, vR 155] τ10 Q
        exact u_less (ls' := [some (vR 140), some (vI x1), some (vI r3)]) ⟨rfl, ⟨rfl, ⟨rfl, trivial⟩⟩⟩ h
    · have h := h.2 hb
      refine u_iconst (pc' := 111) dX11_door_110 rfl ?_
      refine u_goto (tgt := 130) dX11_door_111 (by decide) ?_
      exact u_less (ls' := [some (vR 140), some (vI x1), some (vI r3)]) ⟨rfl, ⟨rfl, ⟨rfl, trivial⟩⟩⟩ h
  · have h := h.2 hb
    exact u_ret dX11_door_84 rfl h
set_option maxRecDepth 20000 in
theorem bX11_door_130 {E : mm_Env} {d : Nat} {τ : mm_Mem} {Q : mm_Q0} {x1 : Int} {x2 : Int} {y0 : Int} {y1 : Int} (h : 0 ≤ y1 ∧ y1 < 8 ∧ inR y0 ∧ inR x2 ∧ ((x2 ≠ 1 → ((x2 ≠ 3 → ((x2 ≠ 4 → 0 ≤ x1 ∧ x1 < 8 ∧ (((τ 140 8) ≠ 0 → Q none (wr (wr τ 155 y1.toNat y0) 156 x1.toNat 0)) ∧ ((τ 140 8) = 0 → 0 ≤ (τ 140 39) ∧ (τ 140 39) < 2 ∧ 0 ≤ (τ 140 39) ∧ (τ 140 39) < 2 ∧ inR ((τ 152 (τ 140 39).toNat) + 1) ∧ Q none (wr (wr (wr τ 155 y1.toNat y0) 156 x1.toNat 0) 152 (τ 140 39).toNat ((τ 152 (τ 140 39).toNat) + 1))))) ∧ (x2 = 4 → M0 E d qX11_number [vR 140, vI 1, vI 9] (wr τ 155 y1.toNat y0) (fun v τ15 => ∃ r16 : Int, v = some (vI r16) ∧ 0 ≤ x1 ∧ x1 < 8 ∧ inR r16 ∧ (((τ15 140 8) ≠ 0 → Q none (wr τ15 156 x1.toNat r16)) ∧ ((τ15 140 8) = 0 → 0 ≤ (τ15 140 39) ∧ (τ15 140 39) < 2 ∧ 0 ≤ (τ15 140 39) ∧ (τ15 140 39) < 2 ∧ inR ((τ15 152 (τ15 140 39).toNat) + 1) ∧ Q none (wr (wr τ15 156 x1.toNat r16) 152 (τ15 140 39).toNat ((τ15 152 (τ15 140 39).toNat) + 1)))))))) ∧ (x2 = 3 → M0 E d qX11_number [vR 140, vI 0, vI 4] (wr τ 155 y1.toNat y0) (fun v τ28 => ∃ r29 : Int, v = some (vI r29) ∧ 0 ≤ x1 ∧ x1 < 8 ∧ inR r29 ∧ (((τ28 140 8) ≠ 0 → Q none (wr τ28 156 x1.toNat r29)) ∧ ((τ28 140 8) = 0 → 0 ≤ (τ28 140 39) ∧ (τ28 140 39) < 2 ∧ 0 ≤ (τ28 140 39) ∧ (τ28 140 39) < 2 ∧ inR ((τ28 152 (τ28 140 39).toNat) + 1) ∧ Q none (wr (wr τ28 156 x1.toNat r29) 152 (τ28 140 39).toNat ((τ28 152 (τ28 140 39).toNat) + 1)))))))) ∧ (x2 = 1 → M0 E d qX11_number [vR 140, vI 0, vI 9] (wr τ 155 y1.toNat y0) (fun v τ41 => ∃ r42 : Int, v = some (vI r42) ∧ 0 ≤ x1 ∧ x1 < 8 ∧ inR r42 ∧ (((τ41 140 8) ≠ 0 → Q none (wr τ41 156 x1.toNat r42)) ∧ ((τ41 140 8) = 0 → 0 ≤ (τ41 140 39) ∧ (τ41 140 39) < 2 ∧ 0 ≤ (τ41 140 39) ∧ (τ41 140 39) < 2 ∧ inR ((τ41 152 (τ41 140 39).toNat) + 1) ∧ Q none (wr (wr τ41 156 x1.toNat r42) 152 (τ41 140 39).toNat ((τ41 152 (τ41 140 39).toNat) + 1)))))))) : V0 E (d + 1) qX11_door 130 [some (vR 140), some (vI x1), some (vI x2)] [vI y0, vI y1, vR 155] τ Q := by
  obtain ⟨c1, c2, c3, h⟩ := h
  refine u_iastore (k := y1.toNat) (pc' := 131) dX11_door_130 rfl (by decide) kd_155 c1 c2 (by decide) rfl c3 ?_
  refine u_aload_n (i := 0) (pc' := 132) dX11_door_131 rfl rfl rfl ?_
  refine u_getR (a := 156) (pc' := 135) dX11_door_132 rfl fl_TuneDoorModel_94 rfl (by decide) kd_140 rfl ?_
  refine u_iload_n (i := 1) (pc' := 136) dX11_door_135 rfl rfl rfl ?_
  refine u_iload_n (i := 2) (pc' := 137) dX11_door_136 rfl rfl rfl ?_
  refine u_iconst (pc' := 138) dX11_door_137 rfl ?_
  obtain ⟨c4, h⟩ := h
  refine u_icmp_ne (tgt := 151) (pc' := 141) dX11_door_138 rfl (by decide) c4 ⟨by decide, by decide⟩ (fun hb => ?_) (fun hb => ?_)
  · have h := h.1 hb
    refine u_iload_n (i := 2) (pc' := 152) dX11_door_151 rfl rfl rfl ?_
    refine u_iconst (pc' := 153) dX11_door_152 rfl ?_
    refine u_icmp_ne (tgt := 165) (pc' := 156) dX11_door_153 rfl (by decide) c4 ⟨by decide, by decide⟩ (fun hb => ?_) (fun hb => ?_)
    · have h := h.1 hb
      refine u_iload_n (i := 2) (pc' := 166) dX11_door_165 rfl rfl rfl ?_
      refine u_iconst (pc' := 167) dX11_door_166 rfl ?_
      refine u_icmp_ne (tgt := 180) (pc' := 170) dX11_door_167 rfl (by decide) c4 ⟨by decide, by decide⟩ (fun hb => ?_) (fun hb => ?_)
      · have h := h.1 hb
        refine u_iconst (pc' := 181) dX11_door_180 rfl ?_
        obtain ⟨c5, c6, h⟩ := h
        refine u_iastore (k := x1.toNat) (pc' := 182) dX11_door_181 rfl (by decide) kd_156 c5 c6 (by decide) rfl ⟨by decide, by decide⟩ ?_
        refine u_aload_n (i := 0) (pc' := 183) dX11_door_182 rfl rfl rfl ?_
        refine u_getI (z := (τ 140 8)) (pc' := 186) dX11_door_183 rfl fl_TuneDoorModel_36 rfl (by decide) (by decide) kd_140 rfl (fun r7 => ?_)
        refine u_if_ne (tgt := 202) (pc' := 189) dX11_door_186 rfl (by decide) r7 (fun hb => ?_) (fun hb => ?_)
        · have h := h.1 hb
          exact u_ret dX11_door_202 rfl h
        · have h := h.2 hb
          refine u_aload_n (i := 0) (pc' := 190) dX11_door_189 rfl rfl rfl ?_
          refine u_getR (a := 152) (pc' := 193) dX11_door_190 rfl fl_TuneDoorModel_82 rfl (by decide) kd_140 rfl ?_
          refine u_aload_n (i := 0) (pc' := 194) dX11_door_193 rfl rfl rfl ?_
          refine u_getI (z := (τ 140 39)) (pc' := 197) dX11_door_194 rfl fl_TuneDoorModel_130 rfl (by decide) (by decide) kd_140 rfl (fun r8 => ?_)
          refine u_dup2 (pc' := 198) dX11_door_197 rfl (fun _ hh => by cases hh) (fun _ hh => by cases hh) ?_
          obtain ⟨c9, c10, h⟩ := h
          refine u_iaload (k := (τ 140 39).toNat) (z := (τ 152 (τ 140 39).toNat)) (pc' := 199) dX11_door_198 rfl (by decide) kd_152 c9 c10 (by decide) rfl rfl (fun r11 => ?_)
          refine u_iconst (pc' := 200) dX11_door_199 rfl ?_
          refine u_iadd (pc' := 201) dX11_door_200 rfl ?_
          obtain ⟨c12, c13, c14, h⟩ := h
          refine u_iastore (k := (τ 140 39).toNat) (pc' := 202) dX11_door_201 rfl (by decide) kd_152 c12 c13 (by decide) rfl c14 ?_
          exact u_ret dX11_door_202 rfl h
      · have h := h.2 hb
        refine u_aload_n (i := 0) (pc' := 171) dX11_door_170 rfl rfl rfl ?_
        refine u_iconst (pc' := 172) dX11_door_171 rfl ?_
        refine u_bipush (pc' := 174) dX11_door_172 rfl (by decide) ?_
        refine u_invV (q' := qX11_number) (As := [vI 1, vI 9]) (st := [vI x1, vR 156]) (pc' := 177) dX11_door_174 rfl gX11_number wm_1491 rfl rfl (by decide) kd_140 wm_1493 wp_78 rfl (Nat.le_of_ble_eq_true rfl) (M0.mono h (fun v τ15 h => ?_))
        obtain ⟨r16, rfl, h⟩ := h
        show V0 E (d + 1) qX11_door 177 [some (vR 140), some (vI x1), some (vI x2)] [vI r16, vI x1, vR 156] τ15 Q
        refine u_goto (tgt := 181) dX11_door_177 (by decide) ?_
        obtain ⟨c17, c18, c19, h⟩ := h
        refine u_iastore (k := x1.toNat) (pc' := 182) dX11_door_181 rfl (by decide) kd_156 c17 c18 (by decide) rfl c19 ?_
        refine u_aload_n (i := 0) (pc' := 183) dX11_door_182 rfl rfl rfl ?_
        refine u_getI (z := (τ15 140 8)) (pc' := 186) dX11_door_183 rfl fl_TuneDoorModel_36 rfl (by decide) (by decide) kd_140 rfl (fun r20 => ?_)
        refine u_if_ne (tgt := 202) (pc' := 189) dX11_door_186 rfl (by decide) r20 (fun hb => ?_) (fun hb => ?_)
        · have h := h.1 hb
          exact u_ret dX11_door_202 rfl h
        · have h := h.2 hb
          refine u_aload_n (i := 0) (pc' := 190) dX11_door_189 rfl rfl rfl ?_
          refine u_getR (a := 152) (pc' := 193) dX11_door_190 rfl fl_TuneDoorModel_82 rfl (by decide) kd_140 rfl ?_
          refine u_aload_n (i := 0) (pc' := 194) dX11_door_193 rfl rfl rfl ?_
          refine u_getI (z := (τ15 140 39)) (pc' := 197) dX11_door_194 rfl fl_TuneDoorModel_130 rfl (by decide) (by decide) kd_140 rfl (fun r21 => ?_)
          refine u_dup2 (pc' := 198) dX11_door_197 rfl (fun _ hh => by cases hh) (fun _ hh => by cases hh) ?_
          obtain ⟨c22, c23, h⟩ := h
          refine u_iaload (k := (τ15 140 39).toNat) (z := (τ15 152 (τ15 140 39).toNat)) (pc' := 199) dX11_door_198 rfl (by decide) kd_152 c22 c23 (by decide) rfl rfl (fun r24 => ?_)
          refine u_iconst (pc' := 200) dX11_door_199 rfl ?_
          refine u_iadd (pc' := 201) dX11_door_200 rfl ?_
          obtain ⟨c25, c26, c27, h⟩ := h
          refine u_iastore (k := (τ15 140 39).toNat) (pc' := 202) dX11_door_201 rfl (by decide) kd_152 c25 c26 (by decide) rfl c27 ?_
          exact u_ret dX11_door_202 rfl h
    · have h := h.2 hb
      refine u_aload_n (i := 0) (pc' := 157) dX11_door_156 rfl rfl rfl ?_
      refine u_iconst (pc' := 158) dX11_door_157 rfl ?_
      refine u_iconst (pc' := 159) dX11_door_158 rfl ?_
      refine u_invV (q' := qX11_number) (As := [vI 0, vI 4]) (st := [vI x1, vR 156]) (pc' := 162) dX11_door_159 rfl gX11_number wm_1491 rfl rfl (by decide) kd_140 wm_1493 wp_78 rfl (Nat.le_of_ble_eq_true rfl) (M0.mono h (fun v τ28 h => ?_))
      obtain ⟨r29, rfl, h⟩ := h
      show V0 E (d + 1) qX11_door 162 [some (vR 140), some (vI x1), some (vI x2)] [vI r29, vI x1, vR 156] τ28 Q
      refine u_goto (tgt := 181) dX11_door_162 (by decide) ?_
      obtain ⟨c30, c31, c32, h⟩ := h
      refine u_iastore (k := x1.toNat) (pc' := 182) dX11_door_181 rfl (by decide) kd_156 c30 c31 (by decide) rfl c32 ?_
      refine u_aload_n (i := 0) (pc' := 183) dX11_door_182 rfl rfl rfl ?_
      refine u_getI (z := (τ28 140 8)) (pc' := 186) dX11_door_183 rfl fl_TuneDoorModel_36 rfl (by decide) (by decide) kd_140 rfl (fun r33 => ?_)
      refine u_if_ne (tgt := 202) (pc' := 189) dX11_door_186 rfl (by decide) r33 (fun hb => ?_) (fun hb => ?_)
      · have h := h.1 hb
        exact u_ret dX11_door_202 rfl h
      · have h := h.2 hb
        refine u_aload_n (i := 0) (pc' := 190) dX11_door_189 rfl rfl rfl ?_
        refine u_getR (a := 152) (pc' := 193) dX11_door_190 rfl fl_TuneDoorModel_82 rfl (by decide) kd_140 rfl ?_
        refine u_aload_n (i := 0) (pc' := 194) dX11_door_193 rfl rfl rfl ?_
        refine u_getI (z := (τ28 140 39)) (pc' := 197) dX11_door_194 rfl fl_TuneDoorModel_130 rfl (by decide) (by decide) kd_140 rfl (fun r34 => ?_)
        refine u_dup2 (pc' := 198) dX11_door_197 rfl (fun _ hh => by cases hh) (fun _ hh => by cases hh) ?_
        obtain ⟨c35, c36, h⟩ := h
        refine u_iaload (k := (τ28 140 39).toNat) (z := (τ28 152 (τ28 140 39).toNat)) (pc' := 199) dX11_door_198 rfl (by decide) kd_152 c35 c36 (by decide) rfl rfl (fun r37 => ?_)
        refine u_iconst (pc' := 200) dX11_door_199 rfl ?_
        refine u_iadd (pc' := 201) dX11_door_200 rfl ?_
        obtain ⟨c38, c39, c40, h⟩ := h
        refine u_iastore (k := (τ28 140 39).toNat) (pc' := 202) dX11_door_201 rfl (by decide) kd_152 c38 c39 (by decide) rfl c40 ?_
        exact u_ret dX11_door_202 rfl h
  · have h := h.2 hb
    refine u_aload_n (i := 0) (pc' := 142) dX11_door_141 rfl rfl rfl ?_
    refine u_iconst (pc' := 143) dX11_door_142 rfl ?_
    refine u_bipush (pc' := 145) dX11_door_143 rfl (by decide) ?_
    refine u_invV (q' := qX11_number) (As := [vI 0, vI 9]) (st := [vI x1, vR 156]) (pc' := 148) dX11_door_145 rfl gX11_number wm_1491 rfl rfl (by decide) kd_140 wm_1493 wp_78 rfl (Nat.le_of_ble_eq_true rfl) (M0.mono h (fun v τ41 h => ?_))
    obtain ⟨r42, rfl, h⟩ := h
    show V0 E (d + 1) qX11_door 148 [some (vR 140), some (vI x1), some (vI x2)] [vI r42, vI x1, vR 156] τ41 Q
    refine u_goto (tgt := 181) dX11_door_148 (by decide) ?_
    obtain ⟨c43, c44, c45, h⟩ := h
    refine u_iastore (k := x1.toNat) (pc' := 182) dX11_door_181 rfl (by decide) kd_156 c43 c44 (by decide) rfl c45 ?_
    refine u_aload_n (i := 0) (pc' := 183) dX11_door_182 rfl rfl rfl ?_
    refine u_getI (z := (τ41 140 8)) (pc' := 186) dX11_door_183 rfl fl_TuneDoorModel_36 rfl (by decide) (by decide) kd_140 rfl (fun r46 => ?_)
    refine u_if_ne (tgt := 202) (pc' := 189) dX11_door_186 rfl (by decide) r46 (fun hb => ?_) (fun hb => ?_)
    · have h := h.1 hb
      exact u_ret dX11_door_202 rfl h
    · have h := h.2 hb
      refine u_aload_n (i := 0) (pc' := 190) dX11_door_189 rfl rfl rfl ?_
      refine u_getR (a := 152) (pc' := 193) dX11_door_190 rfl fl_TuneDoorModel_82 rfl (by decide) kd_140 rfl ?_
      refine u_aload_n (i := 0) (pc' := 194) dX11_door_193 rfl rfl rfl ?_
      refine u_getI (z := (τ41 140 39)) (pc' := 197) dX11_door_194 rfl fl_TuneDoorModel_130 rfl (by decide) (by decide) kd_140 rfl (fun r47 => ?_)
      refine u_dup2 (pc' := 198) dX11_door_197 rfl (fun _ hh => by cases hh) (fun _ hh => by cases hh) ?_
      obtain ⟨c48, c49, h⟩ := h
      refine u_iaload (k := (τ41 140 39).toNat) (z := (τ41 152 (τ41 140 39).toNat)) (pc' := 199) dX11_door_198 rfl (by decide) kd_152 c48 c49 (by decide) rfl rfl (fun r50 => ?_)
      refine u_iconst (pc' := 200) dX11_door_199 rfl ?_
      refine u_iadd (pc' := 201) dX11_door_200 rfl ?_
      obtain ⟨c51, c52, c53, h⟩ := h
      refine u_iastore (k := (τ41 140 39).toNat) (pc' := 202) dX11_door_201 rfl (by decide) kd_152 c51 c52 (by decide) rfl c53 ?_
      exact u_ret dX11_door_202 rfl h
set_option maxRecDepth 20000 in
theorem bX11_kindHere_0 {E : mm_Env} {d : Nat} {τ : mm_Mem} {Q : mm_Q0}  (h : M0 E d qX11_isWord [vR 140, vL 126943972909940] τ (fun v τ1 => ∃ b2 : Bool, v = some (vB b2) ∧ ((b2 = false → M0 E d qX11_isWord [vR 140, vL 131294707347319] τ1 (fun v τ3 => ∃ b4 : Bool, v = some (vB b4) ∧ ((b4 = false → M0 E d qX11_isWord [vR 140, vL 1885432178] τ3 (fun v τ5 => ∃ b6 : Bool, v = some (vB b6) ∧ ((b6 = false → M0 E d qX11_isWord [vR 140, vL 7104880] τ5 (fun v τ7 => ∃ b8 : Bool, v = some (vB b8) ∧ ((b8 = false → M0 E d qX11_isWord [vR 140, vL 491328333172] τ7 (fun v τ9 => ∃ b10 : Bool, v = some (vB b10) ∧ ((b10 = false → Q (some (vI (-1))) τ9) ∧ (b10 = true → Q (some (vI 4)) τ9)))) ∧ (b8 = true → Q (some (vI 3)) τ7)))) ∧ (b6 = true → Q (some (vI 2)) τ5)))) ∧ (b4 = true → Q (some (vI 1)) τ3)))) ∧ (b2 = true → Q (some (vI 0)) τ1)))) : V0 E (d + 1) qX11_kindHere 0 [some (vR 140)] [] τ Q := by
  refine u_aload_n (i := 0) (pc' := 1) dX11_kindHere_0 rfl rfl rfl ?_
  refine u_ldc2 (z := 126943972909940) (pc' := 4) dX11_kindHere_1 rfl wm_1537 (by decide) ?_
  refine u_invV (q' := qX11_isWord) (As := [vL 126943972909940]) (st := []) (pc' := 7) dX11_kindHere_4 rfl gX11_isWord wm_1487 rfl rfl (by decide) kd_140 wm_1489 wp_77 rfl (Nat.le_of_ble_eq_true rfl) (M0.mono h (fun v τ1 h => ?_))
  obtain ⟨b2, rfl, h⟩ := h
  show V0 E (d + 1) qX11_kindHere 7 [some (vR 140)] [vB b2] τ1 Q
  refine u_if_eq (tgt := 14) (pc' := 10) dX11_kindHere_7 rfl (by decide) (bI_R _) (fun hb => ?_) (fun hb => ?_)
  · have h := h.1 (bI_0.mp hb)
    refine u_aload_n (i := 0) (pc' := 15) dX11_kindHere_14 rfl rfl rfl ?_
    refine u_ldc2 (z := 131294707347319) (pc' := 18) dX11_kindHere_15 rfl wm_1538 (by decide) ?_
    refine u_invV (q' := qX11_isWord) (As := [vL 131294707347319]) (st := []) (pc' := 21) dX11_kindHere_18 rfl gX11_isWord wm_1487 rfl rfl (by decide) kd_140 wm_1489 wp_77 rfl (Nat.le_of_ble_eq_true rfl) (M0.mono h (fun v τ3 h => ?_))
    obtain ⟨b4, rfl, h⟩ := h
    show V0 E (d + 1) qX11_kindHere 21 [some (vR 140)] [vB b4] τ3 Q
    refine u_if_eq (tgt := 28) (pc' := 24) dX11_kindHere_21 rfl (by decide) (bI_R _) (fun hb => ?_) (fun hb => ?_)
    · have h := h.1 (bI_0.mp hb)
      refine u_aload_n (i := 0) (pc' := 29) dX11_kindHere_28 rfl rfl rfl ?_
      refine u_ldc2 (z := 1885432178) (pc' := 32) dX11_kindHere_29 rfl wm_1539 (by decide) ?_
      refine u_invV (q' := qX11_isWord) (As := [vL 1885432178]) (st := []) (pc' := 35) dX11_kindHere_32 rfl gX11_isWord wm_1487 rfl rfl (by decide) kd_140 wm_1489 wp_77 rfl (Nat.le_of_ble_eq_true rfl) (M0.mono h (fun v τ5 h => ?_))
      obtain ⟨b6, rfl, h⟩ := h
      show V0 E (d + 1) qX11_kindHere 35 [some (vR 140)] [vB b6] τ5 Q
      refine u_if_eq (tgt := 42) (pc' := 38) dX11_kindHere_35 rfl (by decide) (bI_R _) (fun hb => ?_) (fun hb => ?_)
      · have h := h.1 (bI_0.mp hb)
        refine u_aload_n (i := 0) (pc' := 43) dX11_kindHere_42 rfl rfl rfl ?_
        refine u_ldc2 (z := 7104880) (pc' := 46) dX11_kindHere_43 rfl wm_1540 (by decide) ?_
        refine u_invV (q' := qX11_isWord) (As := [vL 7104880]) (st := []) (pc' := 49) dX11_kindHere_46 rfl gX11_isWord wm_1487 rfl rfl (by decide) kd_140 wm_1489 wp_77 rfl (Nat.le_of_ble_eq_true rfl) (M0.mono h (fun v τ7 h => ?_))
        obtain ⟨b8, rfl, h⟩ := h
        show V0 E (d + 1) qX11_kindHere 49 [some (vR 140)] [vB b8] τ7 Q
        refine u_if_eq (tgt := 56) (pc' := 52) dX11_kindHere_49 rfl (by decide) (bI_R _) (fun hb => ?_) (fun hb => ?_)
        · have h := h.1 (bI_0.mp hb)
          refine u_aload_n (i := 0) (pc' := 57) dX11_kindHere_56 rfl rfl rfl ?_
          refine u_ldc2 (z := 491328333172) (pc' := 60) dX11_kindHere_57 rfl wm_1541 (by decide) ?_
          refine u_invV (q' := qX11_isWord) (As := [vL 491328333172]) (st := []) (pc' := 63) dX11_kindHere_60 rfl gX11_isWord wm_1487 rfl rfl (by decide) kd_140 wm_1489 wp_77 rfl (Nat.le_of_ble_eq_true rfl) (M0.mono h (fun v τ9 h => ?_))
          obtain ⟨b10, rfl, h⟩ := h
          show V0 E (d + 1) qX11_kindHere 63 [some (vR 140)] [vB b10] τ9 Q
          refine u_if_eq (tgt := 70) (pc' := 66) dX11_kindHere_63 rfl (by decide) (bI_R _) (fun hb => ?_) (fun hb => ?_)
          · have h := h.1 (bI_0.mp hb)
            refine u_iconst (pc' := 71) dX11_kindHere_70 rfl ?_
            exact u_iret dX11_kindHere_71 rfl h
          · have h := h.2 (bI_n0.mp hb)
            refine u_iconst (pc' := 67) dX11_kindHere_66 rfl ?_
            refine u_goto (tgt := 71) dX11_kindHere_67 (by decide) ?_
            exact u_iret dX11_kindHere_71 rfl h
        · have h := h.2 (bI_n0.mp hb)
          refine u_iconst (pc' := 53) dX11_kindHere_52 rfl ?_
          refine u_goto (tgt := 71) dX11_kindHere_53 (by decide) ?_
          exact u_iret dX11_kindHere_71 rfl h
      · have h := h.2 (bI_n0.mp hb)
        refine u_iconst (pc' := 39) dX11_kindHere_38 rfl ?_
        refine u_goto (tgt := 71) dX11_kindHere_39 (by decide) ?_
        exact u_iret dX11_kindHere_71 rfl h
    · have h := h.2 (bI_n0.mp hb)
      refine u_iconst (pc' := 25) dX11_kindHere_24 rfl ?_
      refine u_goto (tgt := 71) dX11_kindHere_25 (by decide) ?_
      exact u_iret dX11_kindHere_71 rfl h
  · have h := h.2 (bI_n0.mp hb)
    refine u_iconst (pc' := 11) dX11_kindHere_10 rfl ?_
    refine u_goto (tgt := 71) dX11_kindHere_11 (by decide) ?_
    exact u_iret dX11_kindHere_71 rfl h
theorem mX11_kindHere {E : mm_Env} {d : Nat} {τ : mm_Mem} {Q : mm_Q0}  (h : M0 E d qX11_isWord [vR 140, vL 126943972909940] τ (fun v τ1 => ∃ b2 : Bool, v = some (vB b2) ∧ ((b2 = false → M0 E d qX11_isWord [vR 140, vL 131294707347319] τ1 (fun v τ3 => ∃ b4 : Bool, v = some (vB b4) ∧ ((b4 = false → M0 E d qX11_isWord [vR 140, vL 1885432178] τ3 (fun v τ5 => ∃ b6 : Bool, v = some (vB b6) ∧ ((b6 = false → M0 E d qX11_isWord [vR 140, vL 7104880] τ5 (fun v τ7 => ∃ b8 : Bool, v = some (vB b8) ∧ ((b8 = false → M0 E d qX11_isWord [vR 140, vL 491328333172] τ7 (fun v τ9 => ∃ b10 : Bool, v = some (vB b10) ∧ ((b10 = false → Q (some (vI (-1))) τ9) ∧ (b10 = true → Q (some (vI 4)) τ9)))) ∧ (b8 = true → Q (some (vI 3)) τ7)))) ∧ (b6 = true → Q (some (vI 2)) τ5)))) ∧ (b4 = true → Q (some (vI 1)) τ3)))) ∧ (b2 = true → Q (some (vI 0)) τ1)))) : M0 E (d + 1) qX11_kindHere [vR 140] τ Q := M0_of rfl (Nat.le_of_ble_eq_true rfl) [some (vR 140)] rfl (bX11_kindHere_0  h)
set_option maxRecDepth 20000 in
theorem bX11_person_0 {E : mm_Env} {d : Nat} {τ : mm_Mem} {Q : mm_Q0}  (h : 0 ≤ (τ 140 39) ∧ (τ 140 39) < 2 ∧ (((τ 157 (τ 140 39).toNat) ≠ 4 → V0 E (d + 1) qX11_person 19 [some (vR 140), none] [vI 0, vR 140] τ Q) ∧ ((τ 157 (τ 140 39).toNat) = 4 → V0 E (d + 1) qX11_person 19 [some (vR 140), none] [vI 1, vR 140] τ Q))) : V0 E (d + 1) qX11_person 0 [some (vR 140), none] [] τ Q := by
  refine u_aload_n (i := 0) (pc' := 1) dX11_person_0 rfl rfl rfl ?_
  refine u_aload_n (i := 0) (pc' := 2) dX11_person_1 rfl rfl rfl ?_
  refine u_getR (a := 157) (pc' := 5) dX11_person_2 rfl fl_TuneDoorModel_97 rfl (by decide) kd_140 rfl ?_
  refine u_aload_n (i := 0) (pc' := 6) dX11_person_5 rfl rfl rfl ?_
  refine u_getI (z := (τ 140 39)) (pc' := 9) dX11_person_6 rfl fl_TuneDoorModel_130 rfl (by decide) (by decide) kd_140 rfl (fun r1 => ?_)
  obtain ⟨c2, c3, h⟩ := h
  refine u_iaload (k := (τ 140 39).toNat) (z := (τ 157 (τ 140 39).toNat)) (pc' := 10) dX11_person_9 rfl (by decide) kd_157 c2 c3 (by decide) rfl rfl (fun r4 => ?_)
  refine u_iconst (pc' := 11) dX11_person_10 rfl ?_
  refine u_icmp_ne (tgt := 18) (pc' := 14) dX11_person_11 rfl (by decide) r4 ⟨by decide, by decide⟩ (fun hb => ?_) (fun hb => ?_)
  · have h := h.1 hb
    refine u_iconst (pc' := 19) dX11_person_18 rfl ?_
    exact u_less (ls' := [some (vR 140), none]) ⟨rfl, trivial⟩ h
  · have h := h.2 hb
    refine u_iconst (pc' := 15) dX11_person_14 rfl ?_
    refine u_goto (tgt := 19) dX11_person_15 (by decide) ?_
    exact u_less (ls' := [some (vR 140), none]) ⟨rfl, trivial⟩ h
theorem mX11_person {E : mm_Env} {d : Nat} {τ : mm_Mem} {Q : mm_Q0}  (h : 0 ≤ (τ 140 39) ∧ (τ 140 39) < 2 ∧ (((τ 157 (τ 140 39).toNat) ≠ 4 → V0 E (d + 1) qX11_person 19 [some (vR 140), none] [vI 0, vR 140] τ Q) ∧ ((τ 157 (τ 140 39).toNat) = 4 → V0 E (d + 1) qX11_person 19 [some (vR 140), none] [vI 1, vR 140] τ Q))) : M0 E (d + 1) qX11_person [vR 140] τ Q := M0_of rfl (Nat.le_of_ble_eq_true rfl) [some (vR 140), none] rfl (bX11_person_0  h)
set_option maxRecDepth 20000 in
theorem bX11_person_19 {E : mm_Env} {d : Nat} {τ : mm_Mem} {Q : mm_Q0} {y0 : Int} (h : M0 E d qX11_counts [vR 140, vI y0] τ (fun v τ1 => ∃ b2 : Bool, v = some (vB b2) ∧ ((b2 = true → 0 ≤ (τ1 140 39) ∧ (τ1 140 39) < 2 ∧ M0 E d qX11_fresh [vR 140] τ1 (fun v τ8 => ∃ r9 : Int, v = some (vL r9) ∧ 0 ≤ ((4 * (τ1 140 39)) + (τ1 157 (τ1 140 39).toNat)) ∧ ((4 * (τ1 140 39)) + (τ1 157 (τ1 140 39).toNat)) < 8 ∧ M0 E d qX11_must_ [vR 140, vL 1685024626] (wr τ8 158 ((4 * (τ1 140 39)) + (τ1 157 (τ1 140 39).toNat)).toNat r9) (fun v τ12 => v = none ∧ M0 E d qX11_asked [vR 140, vI 1] τ12 (fun v τ13 => ∃ r14 : Int, v = some (vI r14) ∧ 0 ≤ ((4 * (τ1 140 39)) + (τ1 157 (τ1 140 39).toNat)) ∧ ((4 * (τ1 140 39)) + (τ1 157 (τ1 140 39).toNat)) < 8 ∧ inR r14 ∧ M0 E d qX11_must_ [vR 140, vL 1953853029] (wr τ13 159 ((4 * (τ1 140 39)) + (τ1 157 (τ1 140 39).toNat)).toNat r14) (fun v τ18 => v = none ∧ M0 E d qX11_asked [vR 140, vI 0] τ18 (fun v τ19 => ∃ r20 : Int, v = some (vI r20) ∧ 0 ≤ ((4 * (τ1 140 39)) + (τ1 157 (τ1 140 39).toNat)) ∧ ((4 * (τ1 140 39)) + (τ1 157 (τ1 140 39).toNat)) < 8 ∧ inR r20 ∧ M0 E d qX11_must_ [vR 140, vL 465726301555] (wr τ19 160 ((4 * (τ1 140 39)) + (τ1 157 (τ1 140 39).toNat)).toNat r20) (fun v τ24 => v = none ∧ M0 E d qX11_number [vR 140, vI 0, vI 100] τ24 (fun v τ25 => ∃ r26 : Int, v = some (vI r26) ∧ 0 ≤ ((4 * (τ1 140 39)) + (τ1 157 (τ1 140 39).toNat)) ∧ ((4 * (τ1 140 39)) + (τ1 157 (τ1 140 39).toNat)) < 8 ∧ inR r26 ∧ M0 E d qX11_must_ [vR 140, vL 1701999219] (wr τ25 161 ((4 * (τ1 140 39)) + (τ1 157 (τ1 140 39).toNat)).toNat r26) (fun v τ30 => v = none ∧ M0 E d qX11_number [vR 140, vI 0, vI 100] τ30 (fun v τ31 => ∃ r32 : Int, v = some (vI r32) ∧ 0 ≤ ((4 * (τ1 140 39)) + (τ1 157 (τ1 140 39).toNat)) ∧ ((4 * (τ1 140 39)) + (τ1 157 (τ1 140 39).toNat)) < 8 ∧ inR r32 ∧ (((τ31 140 8) ≠ 0 → Q none (wr τ31 162 ((4 * (τ1 140 39)) + (τ1 157 (τ1 140 39).toNat)).toNat r32)) ∧ ((τ31 140 8) = 0 → 0 ≤ (τ31 140 39) ∧ (τ31 140 39) < 2 ∧ 0 ≤ (τ31 140 39) ∧ (τ31 140 39) < 2 ∧ inR ((τ31 157 (τ31 140 39).toNat) + 1) ∧ Q none (wr (wr τ31 162 ((4 * (τ1 140 39)) + (τ1 157 (τ1 140 39).toNat)).toNat r32) 157 (τ31 140 39).toNat ((τ31 157 (τ31 140 39).toNat) + 1)))))))))))))) ∧ (b2 = false → Q none τ1)))) : V0 E (d + 1) qX11_person 19 [some (vR 140), none] [vI y0, vR 140] τ Q := by
  refine u_invV (q' := qX11_counts) (As := [vI y0]) (st := []) (pc' := 22) dX11_person_19 rfl gX11_counts wm_1520 rfl rfl (by decide) kd_140 wm_1522 wp_84 rfl (Nat.le_of_ble_eq_true rfl) (M0.mono h (fun v τ1 h => ?_))
  obtain ⟨b2, rfl, h⟩ := h
  show V0 E (d + 1) qX11_person 22 [some (vR 140), none] [vB b2] τ1 Q
  refine u_if_ne (tgt := 26) (pc' := 25) dX11_person_22 rfl (by decide) (bI_R _) (fun hb => ?_) (fun hb => ?_)
  · have h := h.1 (bI_n0.mp hb)
    refine u_iconst (pc' := 27) dX11_person_26 rfl ?_
    refine u_aload_n (i := 0) (pc' := 28) dX11_person_27 rfl rfl rfl ?_
    refine u_getI (z := (τ1 140 39)) (pc' := 31) dX11_person_28 rfl fl_TuneDoorModel_130 rfl (by decide) (by decide) kd_140 rfl (fun r3 => ?_)
    refine u_imul (pc' := 32) dX11_person_31 rfl ?_
    refine u_aload_n (i := 0) (pc' := 33) dX11_person_32 rfl rfl rfl ?_
    refine u_getR (a := 157) (pc' := 36) dX11_person_33 rfl fl_TuneDoorModel_97 rfl (by decide) kd_140 rfl ?_
    refine u_aload_n (i := 0) (pc' := 37) dX11_person_36 rfl rfl rfl ?_
    refine u_getI (z := (τ1 140 39)) (pc' := 40) dX11_person_37 rfl fl_TuneDoorModel_130 rfl (by decide) (by decide) kd_140 rfl (fun r4 => ?_)
    obtain ⟨c5, c6, h⟩ := h
    refine u_iaload (k := (τ1 140 39).toNat) (z := (τ1 157 (τ1 140 39).toNat)) (pc' := 41) dX11_person_40 rfl (by decide) kd_157 c5 c6 (by decide) rfl rfl (fun r7 => ?_)
    refine u_iadd (pc' := 42) dX11_person_41 rfl ?_
    refine s_istore_n (i := 1) (ls' := [some (vR 140), some (vI ((4 * (τ1 140 39)) + (τ1 157 (τ1 140 39).toNat)))]) (pc' := 43) dX11_person_42 rfl rfl (Nat.le_of_ble_eq_true rfl) rfl rfl ?_
    refine u_aload_n (i := 0) (pc' := 44) dX11_person_43 rfl rfl rfl ?_
    refine u_getR (a := 158) (pc' := 47) dX11_person_44 rfl fl_TuneDoorModel_100 rfl (by decide) kd_140 rfl ?_
    refine u_iload_n (i := 1) (pc' := 48) dX11_person_47 rfl rfl rfl ?_
    refine u_aload_n (i := 0) (pc' := 49) dX11_person_48 rfl rfl rfl ?_
    refine u_invV (q' := qX11_fresh) (As := []) (st := [vI ((4 * (τ1 140 39)) + (τ1 157 (τ1 140 39).toNat)), vR 158]) (pc' := 52) dX11_person_49 rfl gX11_fresh wm_1524 rfl rfl (by decide) kd_140 wm_1526 wp_85 rfl (Nat.le_of_ble_eq_true rfl) (M0.mono h (fun v τ8 h => ?_))
    obtain ⟨r9, rfl, h⟩ := h
    show V0 E (d + 1) qX11_person 52 [some (vR 140), some (vI ((4 * (τ1 140 39)) + (τ1 157 (τ1 140 39).toNat)))] [vL r9, vI ((4 * (τ1 140 39)) + (τ1 157 (τ1 140 39).toNat)), vR 158] τ8 Q
    obtain ⟨c10, c11, h⟩ := h
    refine u_lastore (k := ((4 * (τ1 140 39)) + (τ1 157 (τ1 140 39).toNat)).toNat) (pc' := 53) dX11_person_52 rfl (by decide) kd_158 c10 c11 (by decide) rfl (mm_R0_La kd_158) ?_
    refine u_aload_n (i := 0) (pc' := 54) dX11_person_53 rfl rfl rfl ?_
    refine u_ldc2 (z := 1685024626) (pc' := 57) dX11_person_54 rfl wm_1536 (by decide) ?_
    refine u_invV (q' := qX11_must_) (As := [vL 1685024626]) (st := []) (pc' := 60) dX11_person_57 rfl gX11_must_ wm_1499 rfl rfl (by decide) kd_140 wm_1501 wp_79 rfl (Nat.le_of_ble_eq_true rfl) (M0.mono h (fun v τ12 h => ?_))
    obtain ⟨rfl, h⟩ := h
    show V0 E (d + 1) qX11_person 60 [some (vR 140), some (vI ((4 * (τ1 140 39)) + (τ1 157 (τ1 140 39).toNat)))] [] τ12 Q
    refine u_aload_n (i := 0) (pc' := 61) dX11_person_60 rfl rfl rfl ?_
    refine u_getR (a := 159) (pc' := 64) dX11_person_61 rfl fl_TuneDoorModel_103 rfl (by decide) kd_140 rfl ?_
    refine u_iload_n (i := 1) (pc' := 65) dX11_person_64 rfl rfl rfl ?_
    refine u_aload_n (i := 0) (pc' := 66) dX11_person_65 rfl rfl rfl ?_
    refine u_iconst (pc' := 67) dX11_person_66 rfl ?_
    refine u_invV (q' := qX11_asked) (As := [vI 1]) (st := [vI ((4 * (τ1 140 39)) + (τ1 157 (τ1 140 39).toNat)), vR 159]) (pc' := 70) dX11_person_67 rfl gX11_asked wm_1620 rfl rfl (by decide) kd_140 wm_1622 wp_101 rfl (Nat.le_of_ble_eq_true rfl) (M0.mono h (fun v τ13 h => ?_))
    obtain ⟨r14, rfl, h⟩ := h
    show V0 E (d + 1) qX11_person 70 [some (vR 140), some (vI ((4 * (τ1 140 39)) + (τ1 157 (τ1 140 39).toNat)))] [vI r14, vI ((4 * (τ1 140 39)) + (τ1 157 (τ1 140 39).toNat)), vR 159] τ13 Q
    obtain ⟨c15, c16, c17, h⟩ := h
    refine u_iastore (k := ((4 * (τ1 140 39)) + (τ1 157 (τ1 140 39).toNat)).toNat) (pc' := 71) dX11_person_70 rfl (by decide) kd_159 c15 c16 (by decide) rfl c17 ?_
    refine u_aload_n (i := 0) (pc' := 72) dX11_person_71 rfl rfl rfl ?_
    refine u_ldc2 (z := 1953853029) (pc' := 75) dX11_person_72 rfl wm_1515 (by decide) ?_
    refine u_invV (q' := qX11_must_) (As := [vL 1953853029]) (st := []) (pc' := 78) dX11_person_75 rfl gX11_must_ wm_1499 rfl rfl (by decide) kd_140 wm_1501 wp_79 rfl (Nat.le_of_ble_eq_true rfl) (M0.mono h (fun v τ18 h => ?_))
    obtain ⟨rfl, h⟩ := h
    show V0 E (d + 1) qX11_person 78 [some (vR 140), some (vI ((4 * (τ1 140 39)) + (τ1 157 (τ1 140 39).toNat)))] [] τ18 Q
    refine u_aload_n (i := 0) (pc' := 79) dX11_person_78 rfl rfl rfl ?_
    refine u_getR (a := 160) (pc' := 82) dX11_person_79 rfl fl_TuneDoorModel_106 rfl (by decide) kd_140 rfl ?_
    refine u_iload_n (i := 1) (pc' := 83) dX11_person_82 rfl rfl rfl ?_
    refine u_aload_n (i := 0) (pc' := 84) dX11_person_83 rfl rfl rfl ?_
    refine u_iconst (pc' := 85) dX11_person_84 rfl ?_
    refine u_invV (q' := qX11_asked) (As := [vI 0]) (st := [vI ((4 * (τ1 140 39)) + (τ1 157 (τ1 140 39).toNat)), vR 160]) (pc' := 88) dX11_person_85 rfl gX11_asked wm_1620 rfl rfl (by decide) kd_140 wm_1622 wp_101 rfl (Nat.le_of_ble_eq_true rfl) (M0.mono h (fun v τ19 h => ?_))
    obtain ⟨r20, rfl, h⟩ := h
    show V0 E (d + 1) qX11_person 88 [some (vR 140), some (vI ((4 * (τ1 140 39)) + (τ1 157 (τ1 140 39).toNat)))] [vI r20, vI ((4 * (τ1 140 39)) + (τ1 157 (τ1 140 39).toNat)), vR 160] τ19 Q
    obtain ⟨c21, c22, c23, h⟩ := h
    refine u_iastore (k := ((4 * (τ1 140 39)) + (τ1 157 (τ1 140 39).toNat)).toNat) (pc' := 89) dX11_person_88 rfl (by decide) kd_160 c21 c22 (by decide) rfl c23 ?_
    refine u_aload_n (i := 0) (pc' := 90) dX11_person_89 rfl rfl rfl ?_
    refine u_ldc2 (z := 465726301555) (pc' := 93) dX11_person_90 rfl wm_1543 (by decide) ?_
    refine u_invV (q' := qX11_must_) (As := [vL 465726301555]) (st := []) (pc' := 96) dX11_person_93 rfl gX11_must_ wm_1499 rfl rfl (by decide) kd_140 wm_1501 wp_79 rfl (Nat.le_of_ble_eq_true rfl) (M0.mono h (fun v τ24 h => ?_))
    obtain ⟨rfl, h⟩ := h
    show V0 E (d + 1) qX11_person 96 [some (vR 140), some (vI ((4 * (τ1 140 39)) + (τ1 157 (τ1 140 39).toNat)))] [] τ24 Q
    refine u_aload_n (i := 0) (pc' := 97) dX11_person_96 rfl rfl rfl ?_
    refine u_getR (a := 161) (pc' := 100) dX11_person_97 rfl fl_TuneDoorModel_109 rfl (by decide) kd_140 rfl ?_
    refine u_iload_n (i := 1) (pc' := 101) dX11_person_100 rfl rfl rfl ?_
    refine u_aload_n (i := 0) (pc' := 102) dX11_person_101 rfl rfl rfl ?_
    refine u_iconst (pc' := 103) dX11_person_102 rfl ?_
    refine u_bipush (pc' := 105) dX11_person_103 rfl (by decide) ?_
    refine u_invV (q' := qX11_number) (As := [vI 0, vI 100]) (st := [vI ((4 * (τ1 140 39)) + (τ1 157 (τ1 140 39).toNat)), vR 161]) (pc' := 108) dX11_person_105 rfl gX11_number wm_1491 rfl rfl (by decide) kd_140 wm_1493 wp_78 rfl (Nat.le_of_ble_eq_true rfl) (M0.mono h (fun v τ25 h => ?_))
    obtain ⟨r26, rfl, h⟩ := h
    show V0 E (d + 1) qX11_person 108 [some (vR 140), some (vI ((4 * (τ1 140 39)) + (τ1 157 (τ1 140 39).toNat)))] [vI r26, vI ((4 * (τ1 140 39)) + (τ1 157 (τ1 140 39).toNat)), vR 161] τ25 Q
    obtain ⟨c27, c28, c29, h⟩ := h
    refine u_iastore (k := ((4 * (τ1 140 39)) + (τ1 157 (τ1 140 39).toNat)).toNat) (pc' := 109) dX11_person_108 rfl (by decide) kd_161 c27 c28 (by decide) rfl c29 ?_
    refine u_aload_n (i := 0) (pc' := 110) dX11_person_109 rfl rfl rfl ?_
    refine u_ldc2 (z := 1701999219) (pc' := 113) dX11_person_110 rfl wm_1544 (by decide) ?_
    refine u_invV (q' := qX11_must_) (As := [vL 1701999219]) (st := []) (pc' := 116) dX11_person_113 rfl gX11_must_ wm_1499 rfl rfl (by decide) kd_140 wm_1501 wp_79 rfl (Nat.le_of_ble_eq_true rfl) (M0.mono h (fun v τ30 h => ?_))
    obtain ⟨rfl, h⟩ := h
    show V0 E (d + 1) qX11_person 116 [some (vR 140), some (vI ((4 * (τ1 140 39)) + (τ1 157 (τ1 140 39).toNat)))] [] τ30 Q
    refine u_aload_n (i := 0) (pc' := 117) dX11_person_116 rfl rfl rfl ?_
    refine u_getR (a := 162) (pc' := 120) dX11_person_117 rfl fl_TuneDoorModel_112 rfl (by decide) kd_140 rfl ?_
    refine u_iload_n (i := 1) (pc' := 121) dX11_person_120 rfl rfl rfl ?_
    refine u_aload_n (i := 0) (pc' := 122) dX11_person_121 rfl rfl rfl ?_
    refine u_iconst (pc' := 123) dX11_person_122 rfl ?_
    refine u_bipush (pc' := 125) dX11_person_123 rfl (by decide) ?_
    refine u_invV (q' := qX11_number) (As := [vI 0, vI 100]) (st := [vI ((4 * (τ1 140 39)) + (τ1 157 (τ1 140 39).toNat)), vR 162]) (pc' := 128) dX11_person_125 rfl gX11_number wm_1491 rfl rfl (by decide) kd_140 wm_1493 wp_78 rfl (Nat.le_of_ble_eq_true rfl) (M0.mono h (fun v τ31 h => ?_))
    obtain ⟨r32, rfl, h⟩ := h
    show V0 E (d + 1) qX11_person 128 [some (vR 140), some (vI ((4 * (τ1 140 39)) + (τ1 157 (τ1 140 39).toNat)))] [vI r32, vI ((4 * (τ1 140 39)) + (τ1 157 (τ1 140 39).toNat)), vR 162] τ31 Q
    obtain ⟨c33, c34, c35, h⟩ := h
    refine u_iastore (k := ((4 * (τ1 140 39)) + (τ1 157 (τ1 140 39).toNat)).toNat) (pc' := 129) dX11_person_128 rfl (by decide) kd_162 c33 c34 (by decide) rfl c35 ?_
    refine u_aload_n (i := 0) (pc' := 130) dX11_person_129 rfl rfl rfl ?_
    refine u_getI (z := (τ31 140 8)) (pc' := 133) dX11_person_130 rfl fl_TuneDoorModel_36 rfl (by decide) (by decide) kd_140 rfl (fun r36 => ?_)
    refine u_if_ne (tgt := 149) (pc' := 136) dX11_person_133 rfl (by decide) r36 (fun hb => ?_) (fun hb => ?_)
    · have h := h.1 hb
      exact u_ret dX11_person_149 rfl h
    · have h := h.2 hb
      refine u_aload_n (i := 0) (pc' := 137) dX11_person_136 rfl rfl rfl ?_
      refine u_getR (a := 157) (pc' := 140) dX11_person_137 rfl fl_TuneDoorModel_97 rfl (by decide) kd_140 rfl ?_
      refine u_aload_n (i := 0) (pc' := 141) dX11_person_140 rfl rfl rfl ?_
      refine u_getI (z := (τ31 140 39)) (pc' := 144) dX11_person_141 rfl fl_TuneDoorModel_130 rfl (by decide) (by decide) kd_140 rfl (fun r37 => ?_)
      refine u_dup2 (pc' := 145) dX11_person_144 rfl (fun _ hh => by cases hh) (fun _ hh => by cases hh) ?_
      obtain ⟨c38, c39, h⟩ := h
      refine u_iaload (k := (τ31 140 39).toNat) (z := (τ31 157 (τ31 140 39).toNat)) (pc' := 146) dX11_person_145 rfl (by decide) kd_157 c38 c39 (by decide) rfl rfl (fun r40 => ?_)
      refine u_iconst (pc' := 147) dX11_person_146 rfl ?_
      refine u_iadd (pc' := 148) dX11_person_147 rfl ?_
      obtain ⟨c41, c42, c43, h⟩ := h
      refine u_iastore (k := (τ31 140 39).toNat) (pc' := 149) dX11_person_148 rfl (by decide) kd_157 c41 c42 (by decide) rfl c43 ?_
      exact u_ret dX11_person_149 rfl h
  · have h := h.2 (bI_0.mp hb)
    exact u_ret dX11_person_25 rfl h
set_option maxRecDepth 20000 in
theorem bX11_asked_0 {E : mm_Env} {d : Nat} {τ : mm_Mem} {Q : mm_Q0} {a0 : Int} (h : (((τ 140 8) ≤ 0 → (((τ 140 3) ≠ 1 → M0 E d qX11_blame [vR 140, vI 1, vI (τ 140 4)] τ (fun v τ4 => v = none ∧ (((τ4 140 8) ≤ 0 → M0 E d qX11_named [vR 140, vI a0, vL (τ4 140 7)] τ4 (fun v τ6 => ∃ r7 : Int, v = some (vI r7) ∧ V0 E (d + 1) qX11_asked 57 [some (vR 140), none, none] [vI r7] τ6 Q)) ∧ (¬ (τ4 140 8) ≤ 0 → V0 E (d + 1) qX11_asked 57 [some (vR 140), none, none] [vI 0] τ4 Q)))) ∧ ((τ 140 3) = 1 → M0 E d qX11_isOwn [vR 140, vL (τ 140 7)] τ (fun v τ8 => ∃ b9 : Bool, v = some (vB b9) ∧ ((b9 = false → (((τ8 140 8) ≤ 0 → M0 E d qX11_named [vR 140, vI a0, vL (τ8 140 7)] τ8 (fun v τ11 => ∃ r12 : Int, v = some (vI r12) ∧ V0 E (d + 1) qX11_asked 57 [some (vR 140), none, none] [vI r12] τ11 Q)) ∧ (¬ (τ8 140 8) ≤ 0 → V0 E (d + 1) qX11_asked 57 [some (vR 140), none, none] [vI 0] τ8 Q))) ∧ (b9 = true → M0 E d qX11_blame [vR 140, vI 1, vI (τ8 140 4)] τ8 (fun v τ14 => v = none ∧ (((τ14 140 8) ≤ 0 → M0 E d qX11_named [vR 140, vI a0, vL (τ14 140 7)] τ14 (fun v τ16 => ∃ r17 : Int, v = some (vI r17) ∧ V0 E (d + 1) qX11_asked 57 [some (vR 140), none, none] [vI r17] τ16 Q)) ∧ (¬ (τ14 140 8) ≤ 0 → V0 E (d + 1) qX11_asked 57 [some (vR 140), none, none] [vI 0] τ14 Q))))))))) ∧ (¬ (τ 140 8) ≤ 0 → Q (some (vI 0)) τ))) : V0 E (d + 1) qX11_asked 0 [some (vR 140), some (vI a0), none] [] τ Q := by
  refine u_aload_n (i := 0) (pc' := 1) dX11_asked_0 rfl rfl rfl ?_
  refine u_getI (z := (τ 140 8)) (pc' := 4) dX11_asked_1 rfl fl_TuneDoorModel_36 rfl (by decide) (by decide) kd_140 rfl (fun r1 => ?_)
  refine u_if_le (tgt := 9) (pc' := 7) dX11_asked_4 rfl (by decide) r1 (fun hb => ?_) (fun hb => ?_)
  · have h := h.1 hb
    refine u_aload_n (i := 0) (pc' := 10) dX11_asked_9 rfl rfl rfl ?_
    refine u_getI (z := (τ 140 3)) (pc' := 13) dX11_asked_10 rfl fl_TuneDoorModel_20 rfl (by decide) (by decide) kd_140 rfl (fun r2 => ?_)
    refine u_iconst (pc' := 14) dX11_asked_13 rfl ?_
    refine u_icmp_ne (tgt := 28) (pc' := 17) dX11_asked_14 rfl (by decide) r2 ⟨by decide, by decide⟩ (fun hb => ?_) (fun hb => ?_)
    · have h := h.1 hb
      refine u_aload_n (i := 0) (pc' := 29) dX11_asked_28 rfl rfl rfl ?_
      refine u_iconst (pc' := 30) dX11_asked_29 rfl ?_
      refine u_aload_n (i := 0) (pc' := 31) dX11_asked_30 rfl rfl rfl ?_
      refine u_getI (z := (τ 140 4)) (pc' := 34) dX11_asked_31 rfl fl_TuneDoorModel_23 rfl (by decide) (by decide) kd_140 rfl (fun r3 => ?_)
      refine u_invV (q' := qX11_blame) (As := [vI 1, vI (τ 140 4)]) (st := []) (pc' := 37) dX11_asked_34 rfl gX11_blame wm_1478 rfl rfl (by decide) kd_140 wm_1480 wp_75 rfl (Nat.le_of_ble_eq_true rfl) (M0.mono h (fun v τ4 h => ?_))
      obtain ⟨rfl, h⟩ := h
      show V0 E (d + 1) qX11_asked 37 [some (vR 140), some (vI a0), none] [] τ4 Q
      refine u_aload_n (i := 0) (pc' := 38) dX11_asked_37 rfl rfl rfl ?_
      refine u_getI (z := (τ4 140 8)) (pc' := 41) dX11_asked_38 rfl fl_TuneDoorModel_36 rfl (by decide) (by decide) kd_140 rfl (fun r5 => ?_)
      refine u_if_le (tgt := 48) (pc' := 44) dX11_asked_41 rfl (by decide) r5 (fun hb => ?_) (fun hb => ?_)
      · have h := h.1 hb
        refine u_aload_n (i := 0) (pc' := 49) dX11_asked_48 rfl rfl rfl ?_
        refine u_iload_n (i := 1) (pc' := 50) dX11_asked_49 rfl rfl rfl ?_
        refine u_aload_n (i := 0) (pc' := 51) dX11_asked_50 rfl rfl rfl ?_
        refine u_getL (z := (τ4 140 7)) (pc' := 54) dX11_asked_51 rfl fl_TuneDoorModel_32 rfl rfl (by decide) kd_140 rfl ?_
        refine u_invV (q' := qX11_named) (As := [vI a0, vL (τ4 140 7)]) (st := []) (pc' := 57) dX11_asked_54 rfl gX11_named wm_1558 rfl rfl (by decide) kd_140 wm_1560 wp_87 rfl (Nat.le_of_ble_eq_true rfl) (M0.mono h (fun v τ6 h => ?_))
        obtain ⟨r7, rfl, h⟩ := h
        show V0 E (d + 1) qX11_asked 57 [some (vR 140), some (vI a0), none] [vI r7] τ6 Q
        exact u_less (ls' := [some (vR 140), none, none]) ⟨rfl, trivial⟩ h
      · have h := h.2 hb
        refine u_iconst (pc' := 45) dX11_asked_44 rfl ?_
        refine u_goto (tgt := 57) dX11_asked_45 (by decide) ?_
        exact u_less (ls' := [some (vR 140), none, none]) ⟨rfl, trivial⟩ h
    · have h := h.2 hb
      refine u_aload_n (i := 0) (pc' := 18) dX11_asked_17 rfl rfl rfl ?_
      refine u_aload_n (i := 0) (pc' := 19) dX11_asked_18 rfl rfl rfl ?_
      refine u_getL (z := (τ 140 7)) (pc' := 22) dX11_asked_19 rfl fl_TuneDoorModel_32 rfl rfl (by decide) kd_140 rfl ?_
      refine u_invV (q' := qX11_isOwn) (As := [vL (τ 140 7)]) (st := []) (pc' := 25) dX11_asked_22 rfl gX11_isOwn wm_1528 rfl rfl (by decide) kd_140 wm_1530 wp_86 rfl (Nat.le_of_ble_eq_true rfl) (M0.mono h (fun v τ8 h => ?_))
      obtain ⟨b9, rfl, h⟩ := h
      show V0 E (d + 1) qX11_asked 25 [some (vR 140), some (vI a0), none] [vB b9] τ8 Q
      refine u_if_eq (tgt := 37) (pc' := 28) dX11_asked_25 rfl (by decide) (bI_R _) (fun hb => ?_) (fun hb => ?_)
      · have h := h.1 (bI_0.mp hb)
        refine u_aload_n (i := 0) (pc' := 38) dX11_asked_37 rfl rfl rfl ?_
        refine u_getI (z := (τ8 140 8)) (pc' := 41) dX11_asked_38 rfl fl_TuneDoorModel_36 rfl (by decide) (by decide) kd_140 rfl (fun r10 => ?_)
        refine u_if_le (tgt := 48) (pc' := 44) dX11_asked_41 rfl (by decide) r10 (fun hb => ?_) (fun hb => ?_)
        · have h := h.1 hb
          refine u_aload_n (i := 0) (pc' := 49) dX11_asked_48 rfl rfl rfl ?_
          refine u_iload_n (i := 1) (pc' := 50) dX11_asked_49 rfl rfl rfl ?_
          refine u_aload_n (i := 0) (pc' := 51) dX11_asked_50 rfl rfl rfl ?_
          refine u_getL (z := (τ8 140 7)) (pc' := 54) dX11_asked_51 rfl fl_TuneDoorModel_32 rfl rfl (by decide) kd_140 rfl ?_
          refine u_invV (q' := qX11_named) (As := [vI a0, vL (τ8 140 7)]) (st := []) (pc' := 57) dX11_asked_54 rfl gX11_named wm_1558 rfl rfl (by decide) kd_140 wm_1560 wp_87 rfl (Nat.le_of_ble_eq_true rfl) (M0.mono h (fun v τ11 h => ?_))
          obtain ⟨r12, rfl, h⟩ := h
          show V0 E (d + 1) qX11_asked 57 [some (vR 140), some (vI a0), none] [vI r12] τ11 Q
          exact u_less (ls' := [some (vR 140), none, none]) ⟨rfl, trivial⟩ h
        · have h := h.2 hb
          refine u_iconst (pc' := 45) dX11_asked_44 rfl ?_
          refine u_goto (tgt := 57) dX11_asked_45 (by decide) ?_
          exact u_less (ls' := [some (vR 140), none, none]) ⟨rfl, trivial⟩ h
      · have h := h.2 (bI_n0.mp hb)
        refine u_aload_n (i := 0) (pc' := 29) dX11_asked_28 rfl rfl rfl ?_
        refine u_iconst (pc' := 30) dX11_asked_29 rfl ?_
        refine u_aload_n (i := 0) (pc' := 31) dX11_asked_30 rfl rfl rfl ?_
        refine u_getI (z := (τ8 140 4)) (pc' := 34) dX11_asked_31 rfl fl_TuneDoorModel_23 rfl (by decide) (by decide) kd_140 rfl (fun r13 => ?_)
        refine u_invV (q' := qX11_blame) (As := [vI 1, vI (τ8 140 4)]) (st := []) (pc' := 37) dX11_asked_34 rfl gX11_blame wm_1478 rfl rfl (by decide) kd_140 wm_1480 wp_75 rfl (Nat.le_of_ble_eq_true rfl) (M0.mono h (fun v τ14 h => ?_))
        obtain ⟨rfl, h⟩ := h
        show V0 E (d + 1) qX11_asked 37 [some (vR 140), some (vI a0), none] [] τ14 Q
        refine u_aload_n (i := 0) (pc' := 38) dX11_asked_37 rfl rfl rfl ?_
        refine u_getI (z := (τ14 140 8)) (pc' := 41) dX11_asked_38 rfl fl_TuneDoorModel_36 rfl (by decide) (by decide) kd_140 rfl (fun r15 => ?_)
        refine u_if_le (tgt := 48) (pc' := 44) dX11_asked_41 rfl (by decide) r15 (fun hb => ?_) (fun hb => ?_)
        · have h := h.1 hb
          refine u_aload_n (i := 0) (pc' := 49) dX11_asked_48 rfl rfl rfl ?_
          refine u_iload_n (i := 1) (pc' := 50) dX11_asked_49 rfl rfl rfl ?_
          refine u_aload_n (i := 0) (pc' := 51) dX11_asked_50 rfl rfl rfl ?_
          refine u_getL (z := (τ14 140 7)) (pc' := 54) dX11_asked_51 rfl fl_TuneDoorModel_32 rfl rfl (by decide) kd_140 rfl ?_
          refine u_invV (q' := qX11_named) (As := [vI a0, vL (τ14 140 7)]) (st := []) (pc' := 57) dX11_asked_54 rfl gX11_named wm_1558 rfl rfl (by decide) kd_140 wm_1560 wp_87 rfl (Nat.le_of_ble_eq_true rfl) (M0.mono h (fun v τ16 h => ?_))
          obtain ⟨r17, rfl, h⟩ := h
          show V0 E (d + 1) qX11_asked 57 [some (vR 140), some (vI a0), none] [vI r17] τ16 Q
          exact u_less (ls' := [some (vR 140), none, none]) ⟨rfl, trivial⟩ h
        · have h := h.2 hb
          refine u_iconst (pc' := 45) dX11_asked_44 rfl ?_
          refine u_goto (tgt := 57) dX11_asked_45 (by decide) ?_
          exact u_less (ls' := [some (vR 140), none, none]) ⟨rfl, trivial⟩ h
  · have h := h.2 hb
    refine u_iconst (pc' := 8) dX11_asked_7 rfl ?_
    exact u_iret dX11_asked_8 rfl h
theorem mX11_asked {E : mm_Env} {d : Nat} {τ : mm_Mem} {Q : mm_Q0} {a0 : Int} (h : (((τ 140 8) ≤ 0 → (((τ 140 3) ≠ 1 → M0 E d qX11_blame [vR 140, vI 1, vI (τ 140 4)] τ (fun v τ4 => v = none ∧ (((τ4 140 8) ≤ 0 → M0 E d qX11_named [vR 140, vI a0, vL (τ4 140 7)] τ4 (fun v τ6 => ∃ r7 : Int, v = some (vI r7) ∧ V0 E (d + 1) qX11_asked 57 [some (vR 140), none, none] [vI r7] τ6 Q)) ∧ (¬ (τ4 140 8) ≤ 0 → V0 E (d + 1) qX11_asked 57 [some (vR 140), none, none] [vI 0] τ4 Q)))) ∧ ((τ 140 3) = 1 → M0 E d qX11_isOwn [vR 140, vL (τ 140 7)] τ (fun v τ8 => ∃ b9 : Bool, v = some (vB b9) ∧ ((b9 = false → (((τ8 140 8) ≤ 0 → M0 E d qX11_named [vR 140, vI a0, vL (τ8 140 7)] τ8 (fun v τ11 => ∃ r12 : Int, v = some (vI r12) ∧ V0 E (d + 1) qX11_asked 57 [some (vR 140), none, none] [vI r12] τ11 Q)) ∧ (¬ (τ8 140 8) ≤ 0 → V0 E (d + 1) qX11_asked 57 [some (vR 140), none, none] [vI 0] τ8 Q))) ∧ (b9 = true → M0 E d qX11_blame [vR 140, vI 1, vI (τ8 140 4)] τ8 (fun v τ14 => v = none ∧ (((τ14 140 8) ≤ 0 → M0 E d qX11_named [vR 140, vI a0, vL (τ14 140 7)] τ14 (fun v τ16 => ∃ r17 : Int, v = some (vI r17) ∧ V0 E (d + 1) qX11_asked 57 [some (vR 140), none, none] [vI r17] τ16 Q)) ∧ (¬ (τ14 140 8) ≤ 0 → V0 E (d + 1) qX11_asked 57 [some (vR 140), none, none] [vI 0] τ14 Q))))))))) ∧ (¬ (τ 140 8) ≤ 0 → Q (some (vI 0)) τ))) : M0 E (d + 1) qX11_asked [vR 140, vI a0] τ Q := M0_of rfl (Nat.le_of_ble_eq_true rfl) [some (vR 140), some (vI a0), none] rfl (bX11_asked_0  h)
set_option maxRecDepth 20000 in
theorem bX11_asked_57 {E : mm_Env} {d : Nat} {τ : mm_Mem} {Q : mm_Q0} {y0 : Int} (h : (((τ 140 8) ≠ 0 → (((τ 140 8) ≠ 0 → (((τ 140 8) ≤ 0 → Q (some (vI y0)) τ) ∧ (¬ (τ 140 8) ≤ 0 → Q (some (vI 0)) τ))) ∧ ((τ 140 8) = 0 → M0 E d qX11_ahead [vR 140] τ (fun v τ4 => v = none ∧ (((τ4 140 8) ≤ 0 → Q (some (vI y0)) τ4) ∧ (¬ (τ4 140 8) ≤ 0 → Q (some (vI 0)) τ4)))))) ∧ ((τ 140 8) = 0 → inR y0 ∧ ((y0 ≠ (-1) → (((τ 140 8) ≠ 0 → (((τ 140 8) ≤ 0 → Q (some (vI y0)) τ) ∧ (¬ (τ 140 8) ≤ 0 → Q (some (vI 0)) τ))) ∧ ((τ 140 8) = 0 → M0 E d qX11_ahead [vR 140] τ (fun v τ9 => v = none ∧ (((τ9 140 8) ≤ 0 → Q (some (vI y0)) τ9) ∧ (¬ (τ9 140 8) ≤ 0 → Q (some (vI 0)) τ9)))))) ∧ (y0 = (-1) → M0 E d qX11_blame [vR 140, vI 3, vI (τ 140 4)] τ (fun v τ12 => v = none ∧ (((τ12 140 8) ≠ 0 → (((τ12 140 8) ≤ 0 → Q (some (vI y0)) τ12) ∧ (¬ (τ12 140 8) ≤ 0 → Q (some (vI 0)) τ12))) ∧ ((τ12 140 8) = 0 → M0 E d qX11_ahead [vR 140] τ12 (fun v τ15 => v = none ∧ (((τ15 140 8) ≤ 0 → Q (some (vI y0)) τ15) ∧ (¬ (τ15 140 8) ≤ 0 → Q (some (vI 0)) τ15))))))))))) : V0 E (d + 1) qX11_asked 57 [some (vR 140), none, none] [vI y0] τ Q := by
  refine s_istore_n (i := 2) (ls' := [some (vR 140), none, some (vI y0)]) (pc' := 58) dX11_asked_57 rfl rfl (Nat.le_of_ble_eq_true rfl) rfl rfl ?_
  refine u_aload_n (i := 0) (pc' := 59) dX11_asked_58 rfl rfl rfl ?_
  refine u_getI (z := (τ 140 8)) (pc' := 62) dX11_asked_59 rfl fl_TuneDoorModel_36 rfl (by decide) (by decide) kd_140 rfl (fun r1 => ?_)
  refine u_if_ne (tgt := 79) (pc' := 65) dX11_asked_62 rfl (by decide) r1 (fun hb => ?_) (fun hb => ?_)
  · have h := h.1 hb
    refine u_aload_n (i := 0) (pc' := 80) dX11_asked_79 rfl rfl rfl ?_
    refine u_getI (z := (τ 140 8)) (pc' := 83) dX11_asked_80 rfl fl_TuneDoorModel_36 rfl (by decide) (by decide) kd_140 rfl (fun r2 => ?_)
    refine u_if_ne (tgt := 90) (pc' := 86) dX11_asked_83 rfl (by decide) r2 (fun hb => ?_) (fun hb => ?_)
    · have h := h.1 hb
      refine u_aload_n (i := 0) (pc' := 91) dX11_asked_90 rfl rfl rfl ?_
      refine u_getI (z := (τ 140 8)) (pc' := 94) dX11_asked_91 rfl fl_TuneDoorModel_36 rfl (by decide) (by decide) kd_140 rfl (fun r3 => ?_)
      refine u_if_le (tgt := 101) (pc' := 97) dX11_asked_94 rfl (by decide) r3 (fun hb => ?_) (fun hb => ?_)
      · have h := h.1 hb
        refine u_iload_n (i := 2) (pc' := 102) dX11_asked_101 rfl rfl rfl ?_
        exact u_iret dX11_asked_102 rfl h
      · have h := h.2 hb
        refine u_iconst (pc' := 98) dX11_asked_97 rfl ?_
        refine u_goto (tgt := 102) dX11_asked_98 (by decide) ?_
        exact u_iret dX11_asked_102 rfl h
    · have h := h.2 hb
      refine u_aload_n (i := 0) (pc' := 87) dX11_asked_86 rfl rfl rfl ?_
      refine u_invV (q' := qX11_ahead) (As := []) (st := []) (pc' := 90) dX11_asked_87 rfl gX11_ahead wm_1468 rfl rfl (by decide) kd_140 wm_1470 wp_74 rfl (Nat.le_of_ble_eq_true rfl) (M0.mono h (fun v τ4 h => ?_))
      obtain ⟨rfl, h⟩ := h
      show V0 E (d + 1) qX11_asked 90 [some (vR 140), none, some (vI y0)] [] τ4 Q
      refine u_aload_n (i := 0) (pc' := 91) dX11_asked_90 rfl rfl rfl ?_
      refine u_getI (z := (τ4 140 8)) (pc' := 94) dX11_asked_91 rfl fl_TuneDoorModel_36 rfl (by decide) (by decide) kd_140 rfl (fun r5 => ?_)
      refine u_if_le (tgt := 101) (pc' := 97) dX11_asked_94 rfl (by decide) r5 (fun hb => ?_) (fun hb => ?_)
      · have h := h.1 hb
        refine u_iload_n (i := 2) (pc' := 102) dX11_asked_101 rfl rfl rfl ?_
        exact u_iret dX11_asked_102 rfl h
      · have h := h.2 hb
        refine u_iconst (pc' := 98) dX11_asked_97 rfl ?_
        refine u_goto (tgt := 102) dX11_asked_98 (by decide) ?_
        exact u_iret dX11_asked_102 rfl h
  · have h := h.2 hb
    refine u_iload_n (i := 2) (pc' := 66) dX11_asked_65 rfl rfl rfl ?_
    refine u_iconst (pc' := 67) dX11_asked_66 rfl ?_
    obtain ⟨c6, h⟩ := h
    refine u_icmp_ne (tgt := 79) (pc' := 70) dX11_asked_67 rfl (by decide) c6 ⟨by decide, by decide⟩ (fun hb => ?_) (fun hb => ?_)
    · have h := h.1 hb
      refine u_aload_n (i := 0) (pc' := 80) dX11_asked_79 rfl rfl rfl ?_
      refine u_getI (z := (τ 140 8)) (pc' := 83) dX11_asked_80 rfl fl_TuneDoorModel_36 rfl (by decide) (by decide) kd_140 rfl (fun r7 => ?_)
      refine u_if_ne (tgt := 90) (pc' := 86) dX11_asked_83 rfl (by decide) r7 (fun hb => ?_) (fun hb => ?_)
      · have h := h.1 hb
        refine u_aload_n (i := 0) (pc' := 91) dX11_asked_90 rfl rfl rfl ?_
        refine u_getI (z := (τ 140 8)) (pc' := 94) dX11_asked_91 rfl fl_TuneDoorModel_36 rfl (by decide) (by decide) kd_140 rfl (fun r8 => ?_)
        refine u_if_le (tgt := 101) (pc' := 97) dX11_asked_94 rfl (by decide) r8 (fun hb => ?_) (fun hb => ?_)
        · have h := h.1 hb
          refine u_iload_n (i := 2) (pc' := 102) dX11_asked_101 rfl rfl rfl ?_
          exact u_iret dX11_asked_102 rfl h
        · have h := h.2 hb
          refine u_iconst (pc' := 98) dX11_asked_97 rfl ?_
          refine u_goto (tgt := 102) dX11_asked_98 (by decide) ?_
          exact u_iret dX11_asked_102 rfl h
      · have h := h.2 hb
        refine u_aload_n (i := 0) (pc' := 87) dX11_asked_86 rfl rfl rfl ?_
        refine u_invV (q' := qX11_ahead) (As := []) (st := []) (pc' := 90) dX11_asked_87 rfl gX11_ahead wm_1468 rfl rfl (by decide) kd_140 wm_1470 wp_74 rfl (Nat.le_of_ble_eq_true rfl) (M0.mono h (fun v τ9 h => ?_))
        obtain ⟨rfl, h⟩ := h
        show V0 E (d + 1) qX11_asked 90 [some (vR 140), none, some (vI y0)] [] τ9 Q
        refine u_aload_n (i := 0) (pc' := 91) dX11_asked_90 rfl rfl rfl ?_
        refine u_getI (z := (τ9 140 8)) (pc' := 94) dX11_asked_91 rfl fl_TuneDoorModel_36 rfl (by decide) (by decide) kd_140 rfl (fun r10 => ?_)
        refine u_if_le (tgt := 101) (pc' := 97) dX11_asked_94 rfl (by decide) r10 (fun hb => ?_) (fun hb => ?_)
        · have h := h.1 hb
          refine u_iload_n (i := 2) (pc' := 102) dX11_asked_101 rfl rfl rfl ?_
          exact u_iret dX11_asked_102 rfl h
        · have h := h.2 hb
          refine u_iconst (pc' := 98) dX11_asked_97 rfl ?_
          refine u_goto (tgt := 102) dX11_asked_98 (by decide) ?_
          exact u_iret dX11_asked_102 rfl h
    · have h := h.2 hb
      refine u_aload_n (i := 0) (pc' := 71) dX11_asked_70 rfl rfl rfl ?_
      refine u_iconst (pc' := 72) dX11_asked_71 rfl ?_
      refine u_aload_n (i := 0) (pc' := 73) dX11_asked_72 rfl rfl rfl ?_
      refine u_getI (z := (τ 140 4)) (pc' := 76) dX11_asked_73 rfl fl_TuneDoorModel_23 rfl (by decide) (by decide) kd_140 rfl (fun r11 => ?_)
      refine u_invV (q' := qX11_blame) (As := [vI 3, vI (τ 140 4)]) (st := []) (pc' := 79) dX11_asked_76 rfl gX11_blame wm_1478 rfl rfl (by decide) kd_140 wm_1480 wp_75 rfl (Nat.le_of_ble_eq_true rfl) (M0.mono h (fun v τ12 h => ?_))
      obtain ⟨rfl, h⟩ := h
      show V0 E (d + 1) qX11_asked 79 [some (vR 140), none, some (vI y0)] [] τ12 Q
      refine u_aload_n (i := 0) (pc' := 80) dX11_asked_79 rfl rfl rfl ?_
      refine u_getI (z := (τ12 140 8)) (pc' := 83) dX11_asked_80 rfl fl_TuneDoorModel_36 rfl (by decide) (by decide) kd_140 rfl (fun r13 => ?_)
      refine u_if_ne (tgt := 90) (pc' := 86) dX11_asked_83 rfl (by decide) r13 (fun hb => ?_) (fun hb => ?_)
      · have h := h.1 hb
        refine u_aload_n (i := 0) (pc' := 91) dX11_asked_90 rfl rfl rfl ?_
        refine u_getI (z := (τ12 140 8)) (pc' := 94) dX11_asked_91 rfl fl_TuneDoorModel_36 rfl (by decide) (by decide) kd_140 rfl (fun r14 => ?_)
        refine u_if_le (tgt := 101) (pc' := 97) dX11_asked_94 rfl (by decide) r14 (fun hb => ?_) (fun hb => ?_)
        · have h := h.1 hb
          refine u_iload_n (i := 2) (pc' := 102) dX11_asked_101 rfl rfl rfl ?_
          exact u_iret dX11_asked_102 rfl h
        · have h := h.2 hb
          refine u_iconst (pc' := 98) dX11_asked_97 rfl ?_
          refine u_goto (tgt := 102) dX11_asked_98 (by decide) ?_
          exact u_iret dX11_asked_102 rfl h
      · have h := h.2 hb
        refine u_aload_n (i := 0) (pc' := 87) dX11_asked_86 rfl rfl rfl ?_
        refine u_invV (q' := qX11_ahead) (As := []) (st := []) (pc' := 90) dX11_asked_87 rfl gX11_ahead wm_1468 rfl rfl (by decide) kd_140 wm_1470 wp_74 rfl (Nat.le_of_ble_eq_true rfl) (M0.mono h (fun v τ15 h => ?_))
        obtain ⟨rfl, h⟩ := h
        show V0 E (d + 1) qX11_asked 90 [some (vR 140), none, some (vI y0)] [] τ15 Q
        refine u_aload_n (i := 0) (pc' := 91) dX11_asked_90 rfl rfl rfl ?_
        refine u_getI (z := (τ15 140 8)) (pc' := 94) dX11_asked_91 rfl fl_TuneDoorModel_36 rfl (by decide) (by decide) kd_140 rfl (fun r16 => ?_)
        refine u_if_le (tgt := 101) (pc' := 97) dX11_asked_94 rfl (by decide) r16 (fun hb => ?_) (fun hb => ?_)
        · have h := h.1 hb
          refine u_iload_n (i := 2) (pc' := 102) dX11_asked_101 rfl rfl rfl ?_
          exact u_iret dX11_asked_102 rfl h
        · have h := h.2 hb
          refine u_iconst (pc' := 98) dX11_asked_97 rfl ?_
          refine u_goto (tgt := 102) dX11_asked_98 (by decide) ?_
          exact u_iret dX11_asked_102 rfl h
set_option maxRecDepth 20000 in
theorem bX11_worths_0 {E : mm_Env} {d : Nat} {τ : mm_Mem} {Q : mm_Q0}  (h : M0 E d qX11_counts [vR 140, vB false] τ (fun v τ1 => ∃ b2 : Bool, v = some (vB b2) ∧ ((b2 = true → M0 E d qX11_number [vR 140, vI 0, vI 9999] τ1 (fun v τ3 => ∃ r4 : Int, v = some (vI r4) ∧ M0 E d qX11_number [vR 140, vI 0, vI 9999] τ3 (fun v τ5 => ∃ r6 : Int, v = some (vI r6) ∧ (((τ5 140 8) ≤ 0 → 0 ≤ (τ5 140 39) ∧ (τ5 140 39) < 2 ∧ inR r4 ∧ 0 ≤ (τ5 140 39) ∧ (τ5 140 39) < 2 ∧ inR r6 ∧ Q none (wr (wr τ5 163 (τ5 140 39).toNat r4) 164 (τ5 140 39).toNat r6)) ∧ (¬ (τ5 140 8) ≤ 0 → Q none τ5))))) ∧ (b2 = false → Q none τ1)))) : V0 E (d + 1) qX11_worths 0 [some (vR 140), none, none] [] τ Q := by
  refine u_aload_n (i := 0) (pc' := 1) dX11_worths_0 rfl rfl rfl ?_
  refine u_iconst (pc' := 2) dX11_worths_1 rfl ?_
  refine u_invV (q' := qX11_counts) (As := [vB false]) (st := []) (pc' := 5) dX11_worths_2 rfl gX11_counts wm_1520 rfl rfl (by decide) kd_140 wm_1522 wp_84 rfl (Nat.le_of_ble_eq_true rfl) (M0.mono h (fun v τ1 h => ?_))
  obtain ⟨b2, rfl, h⟩ := h
  show V0 E (d + 1) qX11_worths 5 [some (vR 140), none, none] [vB b2] τ1 Q
  refine u_if_ne (tgt := 9) (pc' := 8) dX11_worths_5 rfl (by decide) (bI_R _) (fun hb => ?_) (fun hb => ?_)
  · have h := h.1 (bI_n0.mp hb)
    refine u_aload_n (i := 0) (pc' := 10) dX11_worths_9 rfl rfl rfl ?_
    refine u_iconst (pc' := 11) dX11_worths_10 rfl ?_
    refine u_sipush (pc' := 14) dX11_worths_11 rfl (by decide) ?_
    refine u_invV (q' := qX11_number) (As := [vI 0, vI 9999]) (st := []) (pc' := 17) dX11_worths_14 rfl gX11_number wm_1491 rfl rfl (by decide) kd_140 wm_1493 wp_78 rfl (Nat.le_of_ble_eq_true rfl) (M0.mono h (fun v τ3 h => ?_))
    obtain ⟨r4, rfl, h⟩ := h
    show V0 E (d + 1) qX11_worths 17 [some (vR 140), none, none] [vI r4] τ3 Q
    refine s_istore_n (i := 1) (ls' := [some (vR 140), some (vI r4), none]) (pc' := 18) dX11_worths_17 rfl rfl (Nat.le_of_ble_eq_true rfl) rfl rfl ?_
    refine u_aload_n (i := 0) (pc' := 19) dX11_worths_18 rfl rfl rfl ?_
    refine u_iconst (pc' := 20) dX11_worths_19 rfl ?_
    refine u_sipush (pc' := 23) dX11_worths_20 rfl (by decide) ?_
    refine u_invV (q' := qX11_number) (As := [vI 0, vI 9999]) (st := []) (pc' := 26) dX11_worths_23 rfl gX11_number wm_1491 rfl rfl (by decide) kd_140 wm_1493 wp_78 rfl (Nat.le_of_ble_eq_true rfl) (M0.mono h (fun v τ5 h => ?_))
    obtain ⟨r6, rfl, h⟩ := h
    show V0 E (d + 1) qX11_worths 26 [some (vR 140), some (vI r4), none] [vI r6] τ5 Q
    refine s_istore_n (i := 2) (ls' := [some (vR 140), some (vI r4), some (vI r6)]) (pc' := 27) dX11_worths_26 rfl rfl (Nat.le_of_ble_eq_true rfl) rfl rfl ?_
    refine u_aload_n (i := 0) (pc' := 28) dX11_worths_27 rfl rfl rfl ?_
    refine u_getI (z := (τ5 140 8)) (pc' := 31) dX11_worths_28 rfl fl_TuneDoorModel_36 rfl (by decide) (by decide) kd_140 rfl (fun r7 => ?_)
    refine u_if_le (tgt := 35) (pc' := 34) dX11_worths_31 rfl (by decide) r7 (fun hb => ?_) (fun hb => ?_)
    · have h := h.1 hb
      refine u_aload_n (i := 0) (pc' := 36) dX11_worths_35 rfl rfl rfl ?_
      refine u_getR (a := 163) (pc' := 39) dX11_worths_36 rfl fl_TuneDoorModel_115 rfl (by decide) kd_140 rfl ?_
      refine u_aload_n (i := 0) (pc' := 40) dX11_worths_39 rfl rfl rfl ?_
      refine u_getI (z := (τ5 140 39)) (pc' := 43) dX11_worths_40 rfl fl_TuneDoorModel_130 rfl (by decide) (by decide) kd_140 rfl (fun r8 => ?_)
      refine u_iload_n (i := 1) (pc' := 44) dX11_worths_43 rfl rfl rfl ?_
      obtain ⟨c9, c10, c11, h⟩ := h
      refine u_iastore (k := (τ5 140 39).toNat) (pc' := 45) dX11_worths_44 rfl (by decide) kd_163 c9 c10 (by decide) rfl c11 ?_
      refine u_aload_n (i := 0) (pc' := 46) dX11_worths_45 rfl rfl rfl ?_
      refine u_getR (a := 164) (pc' := 49) dX11_worths_46 rfl fl_TuneDoorModel_118 rfl (by decide) kd_140 rfl ?_
      refine u_aload_n (i := 0) (pc' := 50) dX11_worths_49 rfl rfl rfl ?_
      refine u_getI (z := (τ5 140 39)) (pc' := 53) dX11_worths_50 rfl fl_TuneDoorModel_130 rfl (by decide) (by decide) kd_140 rfl (fun r12 => ?_)
      refine u_iload_n (i := 2) (pc' := 54) dX11_worths_53 rfl rfl rfl ?_
      obtain ⟨c13, c14, c15, h⟩ := h
      refine u_iastore (k := (τ5 140 39).toNat) (pc' := 55) dX11_worths_54 rfl (by decide) kd_164 c13 c14 (by decide) rfl c15 ?_
      exact u_ret dX11_worths_55 rfl h
    · have h := h.2 hb
      exact u_ret dX11_worths_34 rfl h
  · have h := h.2 (bI_0.mp hb)
    exact u_ret dX11_worths_8 rfl h
theorem mX11_worths {E : mm_Env} {d : Nat} {τ : mm_Mem} {Q : mm_Q0}  (h : M0 E d qX11_counts [vR 140, vB false] τ (fun v τ1 => ∃ b2 : Bool, v = some (vB b2) ∧ ((b2 = true → M0 E d qX11_number [vR 140, vI 0, vI 9999] τ1 (fun v τ3 => ∃ r4 : Int, v = some (vI r4) ∧ M0 E d qX11_number [vR 140, vI 0, vI 9999] τ3 (fun v τ5 => ∃ r6 : Int, v = some (vI r6) ∧ (((τ5 140 8) ≤ 0 → 0 ≤ (τ5 140 39) ∧ (τ5 140 39) < 2 ∧ inR r4 ∧ 0 ≤ (τ5 140 39) ∧ (τ5 140 39) < 2 ∧ inR r6 ∧ Q none (wr (wr τ5 163 (τ5 140 39).toNat r4) 164 (τ5 140 39).toNat r6)) ∧ (¬ (τ5 140 8) ≤ 0 → Q none τ5))))) ∧ (b2 = false → Q none τ1)))) : M0 E (d + 1) qX11_worths [vR 140] τ Q := M0_of rfl (Nat.le_of_ble_eq_true rfl) [some (vR 140), none, none] rfl (bX11_worths_0  h)
set_option maxRecDepth 20000 in
theorem bX11_begins_0 {E : mm_Env} {d : Nat} {τ : mm_Mem} {Q : mm_Q0}  (h : V0 E (d + 1) qX11_begins 2 [some (vR 140), some (vI 0), none, none] [] τ Q) : V0 E (d + 1) qX11_begins 0 [some (vR 140), none, none, none] [] τ Q := by
  refine u_iconst (pc' := 1) dX11_begins_0 rfl ?_
  refine s_istore_n (i := 1) (ls' := [some (vR 140), some (vI 0), none, none]) (pc' := 2) dX11_begins_1 rfl rfl (Nat.le_of_ble_eq_true rfl) rfl rfl ?_
  exact u_less (ls' := [some (vR 140), some (vI 0), none, none]) ⟨rfl, ⟨rfl, trivial⟩⟩ h
theorem mX11_begins {E : mm_Env} {d : Nat} {τ : mm_Mem} {Q : mm_Q0}  (h : V0 E (d + 1) qX11_begins 2 [some (vR 140), some (vI 0), none, none] [] τ Q) : M0 E (d + 1) qX11_begins [vR 140] τ Q := M0_of rfl (Nat.le_of_ble_eq_true rfl) [some (vR 140), none, none, none] rfl (bX11_begins_0  h)
set_option maxRecDepth 20000 in
theorem bX11_begins_2 {E : mm_Env} {d : Nat} {τ : mm_Mem} {Q : mm_Q0} {x1 : Int} (h : 0 ≤ (τ 140 12) ∧ (τ 140 12) < 2 ∧ inR x1 ∧ (((τ 144 (τ 140 12).toNat) ≤ x1 → V0 E (d + 1) qX11_begins 148 [some (vR 140), some (vI 0), none, none] [] τ Q) ∧ (¬ (τ 144 (τ 140 12).toNat) ≤ x1 → V0 E (d + 1) qX11_begins 23 [some (vR 140), some (vI x1), some (vI (1000 * x1)), some (vI 0)] [] τ Q))) : V0 E (d + 1) qX11_begins 2 [some (vR 140), some (vI x1), none, none] [] τ Q := by
  refine u_iload_n (i := 1) (pc' := 3) dX11_begins_2 rfl rfl rfl ?_
  refine u_aload_n (i := 0) (pc' := 4) dX11_begins_3 rfl rfl rfl ?_
  refine u_getR (a := 144) (pc' := 7) dX11_begins_4 rfl fl_TuneDoorModel_57 rfl (by decide) kd_140 rfl ?_
  refine u_aload_n (i := 0) (pc' := 8) dX11_begins_7 rfl rfl rfl ?_
  refine u_getI (z := (τ 140 12)) (pc' := 11) dX11_begins_8 rfl fl_TuneDoorModel_48 rfl (by decide) (by decide) kd_140 rfl (fun r1 => ?_)
  obtain ⟨c2, c3, h⟩ := h
  refine u_iaload (k := (τ 140 12).toNat) (z := (τ 144 (τ 140 12).toNat)) (pc' := 12) dX11_begins_11 rfl (by decide) kd_144 c2 c3 (by decide) rfl rfl (fun r4 => ?_)
  obtain ⟨c5, h⟩ := h
  refine u_icmp_ge (tgt := 146) (pc' := 15) dX11_begins_12 rfl (by decide) c5 r4 (fun hb => ?_) (fun hb => ?_)
  · have h := h.1 hb
    refine u_iconst (pc' := 147) dX11_begins_146 rfl ?_
    refine s_istore_n (i := 1) (ls' := [some (vR 140), some (vI 0), none, none]) (pc' := 148) dX11_begins_147 rfl rfl (Nat.le_of_ble_eq_true rfl) rfl rfl ?_
    exact u_less (ls' := [some (vR 140), some (vI 0), none, none]) ⟨rfl, ⟨rfl, trivial⟩⟩ h
  · have h := h.2 hb
    refine u_sipush (pc' := 18) dX11_begins_15 rfl (by decide) ?_
    refine u_iload_n (i := 1) (pc' := 19) dX11_begins_18 rfl rfl rfl ?_
    refine u_imul (pc' := 20) dX11_begins_19 rfl ?_
    refine s_istore_n (i := 2) (ls' := [some (vR 140), some (vI x1), some (vI (1000 * x1)), none]) (pc' := 21) dX11_begins_20 rfl rfl (Nat.le_of_ble_eq_true rfl) rfl rfl ?_
    refine u_iconst (pc' := 22) dX11_begins_21 rfl ?_
    refine s_istore_n (i := 3) (ls' := [some (vR 140), some (vI x1), some (vI (1000 * x1)), some (vI 0)]) (pc' := 23) dX11_begins_22 rfl rfl (Nat.le_of_ble_eq_true rfl) rfl rfl ?_
    exact u_less (ls' := [some (vR 140), some (vI x1), some (vI (1000 * x1)), some (vI 0)]) ⟨rfl, ⟨rfl, ⟨rfl, ⟨rfl, trivial⟩⟩⟩⟩ h
set_option maxRecDepth 20000 in
theorem bX11_begins_23 {E : mm_Env} {d : Nat} {τ : mm_Mem} {Q : mm_Q0} {x1 : Int} {x2 : Int} {x3 : Int} (h : 0 ≤ (τ 140 12) ∧ (τ 140 12) < 2 ∧ inR x3 ∧ (((τ 143 (τ 140 12).toNat) ≤ x3 → 0 ≤ ((3 * (τ 140 12)) + x1) ∧ ((3 * (τ 140 12)) + x1) < 6 ∧ 0 ≤ x2 ∧ x2 < 3000 ∧ V0 E (d + 1) qX11_begins 90 [some (vR 140), some (vI x1), some (vI x2), some (vI x2)] [] (wr τ 177 x2.toNat (τ 147 ((3 * (τ 140 12)) + x1).toNat)) Q) ∧ (¬ (τ 143 (τ 140 12).toNat) ≤ x3 → 0 ≤ ((5 * ((3 * (τ 140 12)) + x1)) + x3) ∧ ((5 * ((3 * (τ 140 12)) + x1)) + x3) < 30 ∧ 0 ≤ ((5 * x2) + x3) ∧ ((5 * x2) + x3) < 15000 ∧ V0 E (d + 1) qX11_begins 23 [some (vR 140), some (vI x1), some (vI x2), some (vI (x3 + 1))] [] (wr τ 176 ((5 * x2) + x3).toNat (τ 146 ((5 * ((3 * (τ 140 12)) + x1)) + x3).toNat)) Q))) : V0 E (d + 1) qX11_begins 23 [some (vR 140), some (vI x1), some (vI x2), some (vI x3)] [] τ Q := by
  refine u_iload_n (i := 3) (pc' := 24) dX11_begins_23 rfl rfl rfl ?_
  refine u_aload_n (i := 0) (pc' := 25) dX11_begins_24 rfl rfl rfl ?_
  refine u_getR (a := 143) (pc' := 28) dX11_begins_25 rfl fl_TuneDoorModel_54 rfl (by decide) kd_140 rfl ?_
  refine u_aload_n (i := 0) (pc' := 29) dX11_begins_28 rfl rfl rfl ?_
  refine u_getI (z := (τ 140 12)) (pc' := 32) dX11_begins_29 rfl fl_TuneDoorModel_48 rfl (by decide) (by decide) kd_140 rfl (fun r1 => ?_)
  obtain ⟨c2, c3, h⟩ := h
  refine u_iaload (k := (τ 140 12).toNat) (z := (τ 143 (τ 140 12).toNat)) (pc' := 33) dX11_begins_32 rfl (by decide) kd_143 c2 c3 (by decide) rfl rfl (fun r4 => ?_)
  obtain ⟨c5, h⟩ := h
  refine u_icmp_ge (tgt := 69) (pc' := 36) dX11_begins_33 rfl (by decide) c5 r4 (fun hb => ?_) (fun hb => ?_)
  · have h := h.1 hb
    refine u_aload_n (i := 0) (pc' := 70) dX11_begins_69 rfl rfl rfl ?_
    refine u_getR (a := 177) (pc' := 73) dX11_begins_70 rfl fl_TuneDoorModel_177 rfl (by decide) kd_140 rfl ?_
    refine u_iload_n (i := 2) (pc' := 74) dX11_begins_73 rfl rfl rfl ?_
    refine u_aload_n (i := 0) (pc' := 75) dX11_begins_74 rfl rfl rfl ?_
    refine u_getR (a := 147) (pc' := 78) dX11_begins_75 rfl fl_TuneDoorModel_67 rfl (by decide) kd_140 rfl ?_
    refine u_iconst (pc' := 79) dX11_begins_78 rfl ?_
    refine u_aload_n (i := 0) (pc' := 80) dX11_begins_79 rfl rfl rfl ?_
    refine u_getI (z := (τ 140 12)) (pc' := 83) dX11_begins_80 rfl fl_TuneDoorModel_48 rfl (by decide) (by decide) kd_140 rfl (fun r6 => ?_)
    refine u_imul (pc' := 84) dX11_begins_83 rfl ?_
    refine u_iload_n (i := 1) (pc' := 85) dX11_begins_84 rfl rfl rfl ?_
    refine u_iadd (pc' := 86) dX11_begins_85 rfl ?_
    obtain ⟨c7, c8, h⟩ := h
    refine u_iaload (k := ((3 * (τ 140 12)) + x1).toNat) (z := (τ 147 ((3 * (τ 140 12)) + x1).toNat)) (pc' := 87) dX11_begins_86 rfl (by decide) kd_147 c7 c8 (by decide) rfl rfl (fun r9 => ?_)
    obtain ⟨c10, c11, h⟩ := h
    refine u_iastore (k := x2.toNat) (pc' := 88) dX11_begins_87 rfl (by decide) kd_177 c10 c11 (by decide) rfl r9 ?_
    refine u_iload_n (i := 2) (pc' := 89) dX11_begins_88 rfl rfl rfl ?_
    refine s_istore_n (i := 3) (ls' := [some (vR 140), some (vI x1), some (vI x2), some (vI x2)]) (pc' := 90) dX11_begins_89 rfl rfl (Nat.le_of_ble_eq_true rfl) rfl rfl ?_
    exact u_less (ls' := [some (vR 140), some (vI x1), some (vI x2), some (vI x2)]) ⟨rfl, ⟨rfl, ⟨rfl, ⟨rfl, trivial⟩⟩⟩⟩ h
  · have h := h.2 hb
    refine u_aload_n (i := 0) (pc' := 37) dX11_begins_36 rfl rfl rfl ?_
    refine u_getR (a := 176) (pc' := 40) dX11_begins_37 rfl fl_TuneDoorModel_174 rfl (by decide) kd_140 rfl ?_
    refine u_iconst (pc' := 41) dX11_begins_40 rfl ?_
    refine u_iload_n (i := 2) (pc' := 42) dX11_begins_41 rfl rfl rfl ?_
    refine u_imul (pc' := 43) dX11_begins_42 rfl ?_
    refine u_iload_n (i := 3) (pc' := 44) dX11_begins_43 rfl rfl rfl ?_
    refine u_iadd (pc' := 45) dX11_begins_44 rfl ?_
    refine u_aload_n (i := 0) (pc' := 46) dX11_begins_45 rfl rfl rfl ?_
    refine u_getR (a := 146) (pc' := 49) dX11_begins_46 rfl fl_TuneDoorModel_64 rfl (by decide) kd_140 rfl ?_
    refine u_iconst (pc' := 50) dX11_begins_49 rfl ?_
    refine u_iconst (pc' := 51) dX11_begins_50 rfl ?_
    refine u_aload_n (i := 0) (pc' := 52) dX11_begins_51 rfl rfl rfl ?_
    refine u_getI (z := (τ 140 12)) (pc' := 55) dX11_begins_52 rfl fl_TuneDoorModel_48 rfl (by decide) (by decide) kd_140 rfl (fun r12 => ?_)
    refine u_imul (pc' := 56) dX11_begins_55 rfl ?_
    refine u_iload_n (i := 1) (pc' := 57) dX11_begins_56 rfl rfl rfl ?_
    refine u_iadd (pc' := 58) dX11_begins_57 rfl ?_
    refine u_imul (pc' := 59) dX11_begins_58 rfl ?_
    refine u_iload_n (i := 3) (pc' := 60) dX11_begins_59 rfl rfl rfl ?_
    refine u_iadd (pc' := 61) dX11_begins_60 rfl ?_
    obtain ⟨c13, c14, h⟩ := h
    refine u_iaload (k := ((5 * ((3 * (τ 140 12)) + x1)) + x3).toNat) (z := (τ 146 ((5 * ((3 * (τ 140 12)) + x1)) + x3).toNat)) (pc' := 62) dX11_begins_61 rfl (by decide) kd_146 c13 c14 (by decide) rfl rfl (fun r15 => ?_)
    obtain ⟨c16, c17, h⟩ := h
    refine u_iastore (k := ((5 * x2) + x3).toNat) (pc' := 63) dX11_begins_62 rfl (by decide) kd_176 c16 c17 (by decide) rfl r15 ?_
    refine s_iinc (i := 3) (ls' := [some (vR 140), some (vI x1), some (vI x2), some (vI (x3 + 1))]) (pc' := 66) dX11_begins_63 rfl rfl (Nat.le_of_ble_eq_true rfl) rfl rfl ?_
    refine u_goto (tgt := 23) dX11_begins_66 (by decide) ?_
    exact u_less (ls' := [some (vR 140), some (vI x1), some (vI x2), some (vI (x3 + 1))]) ⟨rfl, ⟨rfl, ⟨rfl, ⟨rfl, trivial⟩⟩⟩⟩ h
set_option maxRecDepth 20000 in
theorem bX11_begins_90 {E : mm_Env} {d : Nat} {τ : mm_Mem} {Q : mm_Q0} {x1 : Int} {x2 : Int} {x3 : Int} (h : inR x3 ∧ inR ((x2 + 1000) - 1) ∧ ((((x2 + 1000) - 1) ≤ x3 → V0 E (d + 1) qX11_begins 114 [some (vR 140), some (vI x1), some (vI x2), some (vI x2)] [] τ Q) ∧ (¬ ((x2 + 1000) - 1) ≤ x3 → M0 E d qX11_lays [vR 140, vI x3] τ (fun v τ3 => v = none ∧ V0 E (d + 1) qX11_begins 90 [some (vR 140), some (vI x1), some (vI x2), some (vI (x3 + 1))] [] τ3 Q)))) : V0 E (d + 1) qX11_begins 90 [some (vR 140), some (vI x1), some (vI x2), some (vI x3)] [] τ Q := by
  refine u_iload_n (i := 3) (pc' := 91) dX11_begins_90 rfl rfl rfl ?_
  refine u_iload_n (i := 2) (pc' := 92) dX11_begins_91 rfl rfl rfl ?_
  refine u_sipush (pc' := 95) dX11_begins_92 rfl (by decide) ?_
  refine u_iadd (pc' := 96) dX11_begins_95 rfl ?_
  refine u_iconst (pc' := 97) dX11_begins_96 rfl ?_
  refine u_isub (pc' := 98) dX11_begins_97 rfl ?_
  obtain ⟨c1, c2, h⟩ := h
  refine u_icmp_ge (tgt := 112) (pc' := 101) dX11_begins_98 rfl (by decide) c1 c2 (fun hb => ?_) (fun hb => ?_)
  · have h := h.1 hb
    refine u_iload_n (i := 2) (pc' := 113) dX11_begins_112 rfl rfl rfl ?_
    refine s_istore_n (i := 3) (ls' := [some (vR 140), some (vI x1), some (vI x2), some (vI x2)]) (pc' := 114) dX11_begins_113 rfl rfl (Nat.le_of_ble_eq_true rfl) rfl rfl ?_
    exact u_less (ls' := [some (vR 140), some (vI x1), some (vI x2), some (vI x2)]) ⟨rfl, ⟨rfl, ⟨rfl, ⟨rfl, trivial⟩⟩⟩⟩ h
  · have h := h.2 hb
    refine u_aload_n (i := 0) (pc' := 102) dX11_begins_101 rfl rfl rfl ?_
    refine u_iload_n (i := 3) (pc' := 103) dX11_begins_102 rfl rfl rfl ?_
    refine u_invV (q' := qX11_lays) (As := [vI x3]) (st := []) (pc' := 106) dX11_begins_103 rfl gX11_lays wm_1632 rfl rfl (by decide) kd_140 wm_1634 wp_104 rfl (Nat.le_of_ble_eq_true rfl) (M0.mono h (fun v τ3 h => ?_))
    obtain ⟨rfl, h⟩ := h
    show V0 E (d + 1) qX11_begins 106 [some (vR 140), some (vI x1), some (vI x2), some (vI x3)] [] τ3 Q
    refine s_iinc (i := 3) (ls' := [some (vR 140), some (vI x1), some (vI x2), some (vI (x3 + 1))]) (pc' := 109) dX11_begins_106 rfl rfl (Nat.le_of_ble_eq_true rfl) rfl rfl ?_
    refine u_goto (tgt := 90) dX11_begins_109 (by decide) ?_
    exact u_less (ls' := [some (vR 140), some (vI x1), some (vI x2), some (vI (x3 + 1))]) ⟨rfl, ⟨rfl, ⟨rfl, ⟨rfl, trivial⟩⟩⟩⟩ h
set_option maxRecDepth 20000 in
theorem bX11_begins_114 {E : mm_Env} {d : Nat} {τ : mm_Mem} {Q : mm_Q0} {x1 : Int} {x2 : Int} {x3 : Int} (h : inR x3 ∧ inR (x2 + 1000) ∧ (((x2 + 1000) ≤ x3 → V0 E (d + 1) qX11_begins 2 [some (vR 140), some (vI (x1 + 1)), none, none] [] τ Q) ∧ (¬ (x2 + 1000) ≤ x3 → M0 E d qX11_numberAt [vR 140, vI x3] τ (fun v τ3 => ∃ r4 : Int, v = some (vI r4) ∧ 0 ≤ x3 ∧ x3 < 3000 ∧ inR r4 ∧ V0 E (d + 1) qX11_begins 114 [some (vR 140), some (vI x1), some (vI x2), some (vI (x3 + 1))] [] (wr τ3 178 x3.toNat r4) Q)))) : V0 E (d + 1) qX11_begins 114 [some (vR 140), some (vI x1), some (vI x2), some (vI x3)] [] τ Q := by
  refine u_iload_n (i := 3) (pc' := 115) dX11_begins_114 rfl rfl rfl ?_
  refine u_iload_n (i := 2) (pc' := 116) dX11_begins_115 rfl rfl rfl ?_
  refine u_sipush (pc' := 119) dX11_begins_116 rfl (by decide) ?_
  refine u_iadd (pc' := 120) dX11_begins_119 rfl ?_
  obtain ⟨c1, c2, h⟩ := h
  refine u_icmp_ge (tgt := 140) (pc' := 123) dX11_begins_120 rfl (by decide) c1 c2 (fun hb => ?_) (fun hb => ?_)
  · have h := h.1 hb
    refine s_iinc (i := 1) (ls' := [some (vR 140), some (vI (x1 + 1)), some (vI x2), some (vI x3)]) (pc' := 143) dX11_begins_140 rfl rfl (Nat.le_of_ble_eq_true rfl) rfl rfl ?_
    refine u_goto (tgt := 2) dX11_begins_143 (by decide) ?_
    exact u_less (ls' := [some (vR 140), some (vI (x1 + 1)), none, none]) ⟨rfl, ⟨rfl, trivial⟩⟩ h
  · have h := h.2 hb
    refine u_aload_n (i := 0) (pc' := 124) dX11_begins_123 rfl rfl rfl ?_
    refine u_getR (a := 178) (pc' := 127) dX11_begins_124 rfl fl_TuneDoorModel_180 rfl (by decide) kd_140 rfl ?_
    refine u_iload_n (i := 3) (pc' := 128) dX11_begins_127 rfl rfl rfl ?_
    refine u_aload_n (i := 0) (pc' := 129) dX11_begins_128 rfl rfl rfl ?_
    refine u_iload_n (i := 3) (pc' := 130) dX11_begins_129 rfl rfl rfl ?_
    refine u_invV (q' := qX11_numberAt) (As := [vI x3]) (st := [vI x3, vR 178]) (pc' := 133) dX11_begins_130 rfl gX11_numberAt wm_1655 rfl rfl (by decide) kd_140 wm_1657 wp_107 rfl (Nat.le_of_ble_eq_true rfl) (M0.mono h (fun v τ3 h => ?_))
    obtain ⟨r4, rfl, h⟩ := h
    show V0 E (d + 1) qX11_begins 133 [some (vR 140), some (vI x1), some (vI x2), some (vI x3)] [vI r4, vI x3, vR 178] τ3 Q
    obtain ⟨c5, c6, c7, h⟩ := h
    refine u_iastore (k := x3.toNat) (pc' := 134) dX11_begins_133 rfl (by decide) kd_178 c5 c6 (by decide) rfl c7 ?_
    refine s_iinc (i := 3) (ls' := [some (vR 140), some (vI x1), some (vI x2), some (vI (x3 + 1))]) (pc' := 137) dX11_begins_134 rfl rfl (Nat.le_of_ble_eq_true rfl) rfl rfl ?_
    refine u_goto (tgt := 114) dX11_begins_137 (by decide) ?_
    exact u_less (ls' := [some (vR 140), some (vI x1), some (vI x2), some (vI (x3 + 1))]) ⟨rfl, ⟨rfl, ⟨rfl, ⟨rfl, trivial⟩⟩⟩⟩ h
set_option maxRecDepth 20000 in
theorem bX11_begins_148 {E : mm_Env} {d : Nat} {τ : mm_Mem} {Q : mm_Q0} {x1 : Int} (h : inR x1 ∧ ((4 ≤ x1 → V0 E (d + 1) qX11_begins 182 [some (vR 140), some (vI 0), none, none] [] τ Q) ∧ (¬ 4 ≤ x1 → 0 ≤ x1 ∧ x1 < 4 ∧ 0 ≤ x1 ∧ x1 < 4 ∧ 0 ≤ x1 ∧ x1 < 4 ∧ V0 E (d + 1) qX11_begins 148 [some (vR 140), some (vI (x1 + 1)), none, none] [] (wr (wr (wr τ 179 x1.toNat 0) 180 x1.toNat 0) 181 x1.toNat 0) Q))) : V0 E (d + 1) qX11_begins 148 [some (vR 140), some (vI x1), none, none] [] τ Q := by
  refine u_iload_n (i := 1) (pc' := 149) dX11_begins_148 rfl rfl rfl ?_
  refine u_iconst (pc' := 150) dX11_begins_149 rfl ?_
  obtain ⟨c1, h⟩ := h
  refine u_icmp_ge (tgt := 180) (pc' := 153) dX11_begins_150 rfl (by decide) c1 ⟨by decide, by decide⟩ (fun hb => ?_) (fun hb => ?_)
  · have h := h.1 hb
    refine u_iconst (pc' := 181) dX11_begins_180 rfl ?_
    refine s_istore_n (i := 1) (ls' := [some (vR 140), some (vI 0), none, none]) (pc' := 182) dX11_begins_181 rfl rfl (Nat.le_of_ble_eq_true rfl) rfl rfl ?_
    exact u_less (ls' := [some (vR 140), some (vI 0), none, none]) ⟨rfl, ⟨rfl, trivial⟩⟩ h
  · have h := h.2 hb
    refine u_aload_n (i := 0) (pc' := 154) dX11_begins_153 rfl rfl rfl ?_
    refine u_getR (a := 179) (pc' := 157) dX11_begins_154 rfl fl_TuneDoorModel_183 rfl (by decide) kd_140 rfl ?_
    refine u_iload_n (i := 1) (pc' := 158) dX11_begins_157 rfl rfl rfl ?_
    refine u_iconst (pc' := 159) dX11_begins_158 rfl ?_
    obtain ⟨c2, c3, h⟩ := h
    refine u_iastore (k := x1.toNat) (pc' := 160) dX11_begins_159 rfl (by decide) kd_179 c2 c3 (by decide) rfl ⟨by decide, by decide⟩ ?_
    refine u_aload_n (i := 0) (pc' := 161) dX11_begins_160 rfl rfl rfl ?_
    refine u_getR (a := 180) (pc' := 164) dX11_begins_161 rfl fl_TuneDoorModel_186 rfl (by decide) kd_140 rfl ?_
    refine u_iload_n (i := 1) (pc' := 165) dX11_begins_164 rfl rfl rfl ?_
    refine u_iconst (pc' := 166) dX11_begins_165 rfl ?_
    obtain ⟨c4, c5, h⟩ := h
    refine u_iastore (k := x1.toNat) (pc' := 167) dX11_begins_166 rfl (by decide) kd_180 c4 c5 (by decide) rfl ⟨by decide, by decide⟩ ?_
    refine u_aload_n (i := 0) (pc' := 168) dX11_begins_167 rfl rfl rfl ?_
    refine u_getR (a := 181) (pc' := 171) dX11_begins_168 rfl fl_TuneDoorModel_189 rfl (by decide) kd_140 rfl ?_
    refine u_iload_n (i := 1) (pc' := 172) dX11_begins_171 rfl rfl rfl ?_
    refine u_iconst (pc' := 173) dX11_begins_172 rfl ?_
    obtain ⟨c6, c7, h⟩ := h
    refine u_iastore (k := x1.toNat) (pc' := 174) dX11_begins_173 rfl (by decide) kd_181 c6 c7 (by decide) rfl ⟨by decide, by decide⟩ ?_
    refine s_iinc (i := 1) (ls' := [some (vR 140), some (vI (x1 + 1)), none, none]) (pc' := 177) dX11_begins_174 rfl rfl (Nat.le_of_ble_eq_true rfl) rfl rfl ?_
    refine u_goto (tgt := 148) dX11_begins_177 (by decide) ?_
    exact u_less (ls' := [some (vR 140), some (vI (x1 + 1)), none, none]) ⟨rfl, ⟨rfl, trivial⟩⟩ h
set_option maxRecDepth 20000 in
theorem bX11_begins_182 {E : mm_Env} {d : Nat} {τ : mm_Mem} {Q : mm_Q0} {x1 : Int} (h : inR x1 ∧ ((12 ≤ x1 → V0 E (d + 1) qX11_begins 217 [some (vR 140), some (vI 0), none, none] [] τ Q) ∧ (¬ 12 ≤ x1 → 0 ≤ x1 ∧ x1 < 12 ∧ 0 ≤ x1 ∧ x1 < 12 ∧ 0 ≤ x1 ∧ x1 < 12 ∧ V0 E (d + 1) qX11_begins 182 [some (vR 140), some (vI (x1 + 1)), none, none] [] (wr (wr (wr τ 182 x1.toNat 0) 183 x1.toNat (-1)) 184 x1.toNat 0) Q))) : V0 E (d + 1) qX11_begins 182 [some (vR 140), some (vI x1), none, none] [] τ Q := by
  refine u_iload_n (i := 1) (pc' := 183) dX11_begins_182 rfl rfl rfl ?_
  refine u_bipush (pc' := 185) dX11_begins_183 rfl (by decide) ?_
  obtain ⟨c1, h⟩ := h
  refine u_icmp_ge (tgt := 215) (pc' := 188) dX11_begins_185 rfl (by decide) c1 ⟨by decide, by decide⟩ (fun hb => ?_) (fun hb => ?_)
  · have h := h.1 hb
    refine u_iconst (pc' := 216) dX11_begins_215 rfl ?_
    refine s_istore_n (i := 1) (ls' := [some (vR 140), some (vI 0), none, none]) (pc' := 217) dX11_begins_216 rfl rfl (Nat.le_of_ble_eq_true rfl) rfl rfl ?_
    exact u_less (ls' := [some (vR 140), some (vI 0), none, none]) ⟨rfl, ⟨rfl, trivial⟩⟩ h
  · have h := h.2 hb
    refine u_aload_n (i := 0) (pc' := 189) dX11_begins_188 rfl rfl rfl ?_
    refine u_getR (a := 182) (pc' := 192) dX11_begins_189 rfl fl_TuneDoorModel_192 rfl (by decide) kd_140 rfl ?_
    refine u_iload_n (i := 1) (pc' := 193) dX11_begins_192 rfl rfl rfl ?_
    refine u_iconst (pc' := 194) dX11_begins_193 rfl ?_
    obtain ⟨c2, c3, h⟩ := h
    refine u_iastore (k := x1.toNat) (pc' := 195) dX11_begins_194 rfl (by decide) kd_182 c2 c3 (by decide) rfl ⟨by decide, by decide⟩ ?_
    refine u_aload_n (i := 0) (pc' := 196) dX11_begins_195 rfl rfl rfl ?_
    refine u_getR (a := 183) (pc' := 199) dX11_begins_196 rfl fl_TuneDoorModel_195 rfl (by decide) kd_140 rfl ?_
    refine u_iload_n (i := 1) (pc' := 200) dX11_begins_199 rfl rfl rfl ?_
    refine u_iconst (pc' := 201) dX11_begins_200 rfl ?_
    obtain ⟨c4, c5, h⟩ := h
    refine u_iastore (k := x1.toNat) (pc' := 202) dX11_begins_201 rfl (by decide) kd_183 c4 c5 (by decide) rfl ⟨by decide, by decide⟩ ?_
    refine u_aload_n (i := 0) (pc' := 203) dX11_begins_202 rfl rfl rfl ?_
    refine u_getR (a := 184) (pc' := 206) dX11_begins_203 rfl fl_TuneDoorModel_198 rfl (by decide) kd_140 rfl ?_
    refine u_iload_n (i := 1) (pc' := 207) dX11_begins_206 rfl rfl rfl ?_
    refine u_iconst (pc' := 208) dX11_begins_207 rfl ?_
    obtain ⟨c6, c7, h⟩ := h
    refine u_iastore (k := x1.toNat) (pc' := 209) dX11_begins_208 rfl (by decide) kd_184 c6 c7 (by decide) rfl ⟨by decide, by decide⟩ ?_
    refine s_iinc (i := 1) (ls' := [some (vR 140), some (vI (x1 + 1)), none, none]) (pc' := 212) dX11_begins_209 rfl rfl (Nat.le_of_ble_eq_true rfl) rfl rfl ?_
    refine u_goto (tgt := 182) dX11_begins_212 (by decide) ?_
    exact u_less (ls' := [some (vR 140), some (vI (x1 + 1)), none, none]) ⟨rfl, ⟨rfl, trivial⟩⟩ h
set_option maxRecDepth 20000 in
theorem bX11_begins_217 {E : mm_Env} {d : Nat} {τ : mm_Mem} {Q : mm_Q0} {x1 : Int} (h : inR x1 ∧ ((4 ≤ x1 → Q none τ) ∧ (¬ 4 ≤ x1 → 0 ≤ x1 ∧ x1 < 4 ∧ 0 ≤ x1 ∧ x1 < 4 ∧ 0 ≤ x1 ∧ x1 < 4 ∧ V0 E (d + 1) qX11_begins 217 [some (vR 140), some (vI (x1 + 1)), none, none] [] (wr (wr (wr τ 185 x1.toNat (-1)) 186 x1.toNat 0) 187 x1.toNat 0) Q))) : V0 E (d + 1) qX11_begins 217 [some (vR 140), some (vI x1), none, none] [] τ Q := by
  refine u_iload_n (i := 1) (pc' := 218) dX11_begins_217 rfl rfl rfl ?_
  refine u_iconst (pc' := 219) dX11_begins_218 rfl ?_
  obtain ⟨c1, h⟩ := h
  refine u_icmp_ge (tgt := 249) (pc' := 222) dX11_begins_219 rfl (by decide) c1 ⟨by decide, by decide⟩ (fun hb => ?_) (fun hb => ?_)
  · have h := h.1 hb
    exact u_ret dX11_begins_249 rfl h
  · have h := h.2 hb
    refine u_aload_n (i := 0) (pc' := 223) dX11_begins_222 rfl rfl rfl ?_
    refine u_getR (a := 185) (pc' := 226) dX11_begins_223 rfl fl_TuneDoorModel_201 rfl (by decide) kd_140 rfl ?_
    refine u_iload_n (i := 1) (pc' := 227) dX11_begins_226 rfl rfl rfl ?_
    refine u_iconst (pc' := 228) dX11_begins_227 rfl ?_
    obtain ⟨c2, c3, h⟩ := h
    refine u_iastore (k := x1.toNat) (pc' := 229) dX11_begins_228 rfl (by decide) kd_185 c2 c3 (by decide) rfl ⟨by decide, by decide⟩ ?_
    refine u_aload_n (i := 0) (pc' := 230) dX11_begins_229 rfl rfl rfl ?_
    refine u_getR (a := 186) (pc' := 233) dX11_begins_230 rfl fl_TuneDoorModel_204 rfl (by decide) kd_140 rfl ?_
    refine u_iload_n (i := 1) (pc' := 234) dX11_begins_233 rfl rfl rfl ?_
    refine u_iconst (pc' := 235) dX11_begins_234 rfl ?_
    obtain ⟨c4, c5, h⟩ := h
    refine u_iastore (k := x1.toNat) (pc' := 236) dX11_begins_235 rfl (by decide) kd_186 c4 c5 (by decide) rfl ⟨by decide, by decide⟩ ?_
    refine u_aload_n (i := 0) (pc' := 237) dX11_begins_236 rfl rfl rfl ?_
    refine u_getR (a := 187) (pc' := 240) dX11_begins_237 rfl fl_TuneDoorModel_207 rfl (by decide) kd_140 rfl ?_
    refine u_iload_n (i := 1) (pc' := 241) dX11_begins_240 rfl rfl rfl ?_
    refine u_iconst (pc' := 242) dX11_begins_241 rfl ?_
    obtain ⟨c6, c7, h⟩ := h
    refine u_iastore (k := x1.toNat) (pc' := 243) dX11_begins_242 rfl (by decide) kd_187 c6 c7 (by decide) rfl ⟨by decide, by decide⟩ ?_
    refine s_iinc (i := 1) (ls' := [some (vR 140), some (vI (x1 + 1)), none, none]) (pc' := 246) dX11_begins_243 rfl rfl (Nat.le_of_ble_eq_true rfl) rfl rfl ?_
    refine u_goto (tgt := 217) dX11_begins_246 (by decide) ?_
    exact u_less (ls' := [some (vR 140), some (vI (x1 + 1)), none, none]) ⟨rfl, ⟨rfl, trivial⟩⟩ h
set_option maxRecDepth 20000 in
theorem bX11_lays_0 {E : mm_Env} {d : Nat} {τ : mm_Mem} {Q : mm_Q0} {a0 : Int} (h : V0 E (d + 1) qX11_lays 4 [some (vR 140), some (vI a0), some (vI 0), some (vI 0), none] [] τ Q) : V0 E (d + 1) qX11_lays 0 [some (vR 140), some (vI a0), none, none, none] [] τ Q := by
  refine u_iconst (pc' := 1) dX11_lays_0 rfl ?_
  refine s_istore_n (i := 2) (ls' := [some (vR 140), some (vI a0), some (vI 0), none, none]) (pc' := 2) dX11_lays_1 rfl rfl (Nat.le_of_ble_eq_true rfl) rfl rfl ?_
  refine u_iconst (pc' := 3) dX11_lays_2 rfl ?_
  refine s_istore_n (i := 3) (ls' := [some (vR 140), some (vI a0), some (vI 0), some (vI 0), none]) (pc' := 4) dX11_lays_3 rfl rfl (Nat.le_of_ble_eq_true rfl) rfl rfl ?_
  exact u_less (ls' := [some (vR 140), some (vI a0), some (vI 0), some (vI 0), none]) ⟨rfl, ⟨rfl, ⟨rfl, ⟨rfl, trivial⟩⟩⟩⟩ h
theorem mX11_lays {E : mm_Env} {d : Nat} {τ : mm_Mem} {Q : mm_Q0} {a0 : Int} (h : V0 E (d + 1) qX11_lays 4 [some (vR 140), some (vI a0), some (vI 0), some (vI 0), none] [] τ Q) : M0 E (d + 1) qX11_lays [vR 140, vI a0] τ Q := M0_of rfl (Nat.le_of_ble_eq_true rfl) [some (vR 140), some (vI a0), none, none, none] rfl (bX11_lays_0  h)
set_option maxRecDepth 20000 in
theorem bX11_lays_4 {E : mm_Env} {d : Nat} {τ : mm_Mem} {Q : mm_Q0} {x1 : Int} {x2 : Int} {x3 : Int} (h : 0 ≤ (τ 140 12) ∧ (τ 140 12) < 2 ∧ inR x3 ∧ (((τ 143 (τ 140 12).toNat) ≤ x3 → inR x2 ∧ 0 ≤ (5 * x1) ∧ (5 * x1) < 15000 ∧ 0 ≤ (τ 140 12) ∧ (τ 140 12) < 2 ∧ 0 ≤ (((5 * x1) + (τ 143 (τ 140 12).toNat)) - 1) ∧ (((5 * x1) + (τ 143 (τ 140 12).toNat)) - 1) < 15000 ∧ 0 ≤ x1 ∧ x1 < 3000 ∧ 0 ≤ (τ 140 12) ∧ (τ 140 12) < 2 ∧ M0 E d qX11_ruled [vR 140, vI 0, vI (τ 143 (τ 140 12).toNat), vI 0] (wr (wr (wr (wr (wr (wr τ 175 1 x2) 175 2 (τ 176 (5 * x1).toNat)) 175 3 (τ 176 (((5 * x1) + (τ 143 (τ 140 12).toNat)) - 1).toNat)) 175 4 0) 175 5 0) 175 6 (τ 177 x1.toNat)) (fun v τ24 => ∃ r25 : Int, v = some (vI r25) ∧ 0 ≤ x1 ∧ x1 < 3000 ∧ M0 E d qX11_ruled [vR 140, vI 2, vI 100, vI (τ24 177 x1.toNat)] τ24 (fun v τ29 => ∃ r30 : Int, v = some (vI r30) ∧ 0 ≤ (x1 + 1) ∧ (x1 + 1) < 3000 ∧ inR r30 ∧ 0 ≤ ((5 * x1) + r25) ∧ ((5 * x1) + r25) < 15000 ∧ inR r25 ∧ 0 ≤ (τ29 140 12) ∧ (τ29 140 12) < 2 ∧ 0 ≤ (τ29 140 12) ∧ (τ29 140 12) < 2 ∧ inR ((τ29 176 ((5 * x1) + r25).toNat) + 1) ∧ (τ29 142 (τ29 140 12).toNat) ≠ 0 ∧ M0 E d qX11_ruled [vR 140, vI 1, vI (τ29 142 (τ29 140 12).toNat), vI (Int.tmod ((τ29 176 ((5 * x1) + r25).toNat) + 1) (τ29 142 (τ29 140 12).toNat))] (wr (wr (wr τ29 177 (x1 + 1).toNat r30) 175 4 (τ29 176 ((5 * x1) + r25).toNat)) 175 5 r25) (fun v τ48 => ∃ r49 : Int, v = some (vI r49) ∧ 0 ≤ ((5 * (x1 + 1)) + r25) ∧ ((5 * (x1 + 1)) + r25) < 15000 ∧ inR r49 ∧ Q none (wr τ48 176 ((5 * (x1 + 1)) + r25).toNat r49))))) ∧ (¬ (τ 143 (τ 140 12).toNat) ≤ x3 → 0 ≤ ((5 * x1) + x3) ∧ ((5 * x1) + x3) < 15000 ∧ 0 ≤ ((5 * (x1 + 1)) + x3) ∧ ((5 * (x1 + 1)) + x3) < 15000 ∧ 0 ≤ ((5 * x1) + x3) ∧ ((5 * x1) + x3) < 15000 ∧ V0 E (d + 1) qX11_lays 4 [some (vR 140), some (vI x1), some (vI (x2 + ((wr τ 176 ((5 * (x1 + 1)) + x3).toNat (τ 176 ((5 * x1) + x3).toNat)) 176 ((5 * x1) + x3).toNat))), some (vI (x3 + 1)), none] [] (wr τ 176 ((5 * (x1 + 1)) + x3).toNat (τ 176 ((5 * x1) + x3).toNat)) Q))) : V0 E (d + 1) qX11_lays 4 [some (vR 140), some (vI x1), some (vI x2), some (vI x3), none] [] τ Q := by
  refine u_iload_n (i := 3) (pc' := 5) dX11_lays_4 rfl rfl rfl ?_
  refine u_aload_n (i := 0) (pc' := 6) dX11_lays_5 rfl rfl rfl ?_
  refine u_getR (a := 143) (pc' := 9) dX11_lays_6 rfl fl_TuneDoorModel_54 rfl (by decide) kd_140 rfl ?_
  refine u_aload_n (i := 0) (pc' := 10) dX11_lays_9 rfl rfl rfl ?_
  refine u_getI (z := (τ 140 12)) (pc' := 13) dX11_lays_10 rfl fl_TuneDoorModel_48 rfl (by decide) (by decide) kd_140 rfl (fun r1 => ?_)
  obtain ⟨c2, c3, h⟩ := h
  refine u_iaload (k := (τ 140 12).toNat) (z := (τ 143 (τ 140 12).toNat)) (pc' := 14) dX11_lays_13 rfl (by decide) kd_143 c2 c3 (by decide) rfl rfl (fun r4 => ?_)
  obtain ⟨c5, h⟩ := h
  refine u_icmp_ge (tgt := 58) (pc' := 17) dX11_lays_14 rfl (by decide) c5 r4 (fun hb => ?_) (fun hb => ?_)
  · have h := h.1 hb
    refine u_aload_n (i := 0) (pc' := 59) dX11_lays_58 rfl rfl rfl ?_
    refine u_getR (a := 175) (pc' := 62) dX11_lays_59 rfl fl_TuneDoorModel_171 rfl (by decide) kd_140 rfl ?_
    refine u_iconst (pc' := 63) dX11_lays_62 rfl ?_
    refine u_iload_n (i := 2) (pc' := 64) dX11_lays_63 rfl rfl rfl ?_
    obtain ⟨c6, h⟩ := h
    refine u_iastore (k := 1) (pc' := 65) dX11_lays_64 rfl (by decide) kd_175 (by decide) (by decide) (by decide) rfl c6 ?_
    refine u_aload_n (i := 0) (pc' := 66) dX11_lays_65 rfl rfl rfl ?_
    refine u_getR (a := 175) (pc' := 69) dX11_lays_66 rfl fl_TuneDoorModel_171 rfl (by decide) kd_140 rfl ?_
    refine u_iconst (pc' := 70) dX11_lays_69 rfl ?_
    refine u_aload_n (i := 0) (pc' := 71) dX11_lays_70 rfl rfl rfl ?_
    refine u_getR (a := 176) (pc' := 74) dX11_lays_71 rfl fl_TuneDoorModel_174 rfl (by decide) kd_140 rfl ?_
    refine u_iconst (pc' := 75) dX11_lays_74 rfl ?_
    refine u_iload_n (i := 1) (pc' := 76) dX11_lays_75 rfl rfl rfl ?_
    refine u_imul (pc' := 77) dX11_lays_76 rfl ?_
    obtain ⟨c7, c8, h⟩ := h
    refine u_iaload (k := (5 * x1).toNat) (z := (τ 176 (5 * x1).toNat)) (pc' := 78) dX11_lays_77 rfl (by decide) kd_176 c7 c8 (by decide) rfl rfl (fun r9 => ?_)
    refine u_iastore (k := 2) (pc' := 79) dX11_lays_78 rfl (by decide) kd_175 (by decide) (by decide) (by decide) rfl r9 ?_
    refine u_aload_n (i := 0) (pc' := 80) dX11_lays_79 rfl rfl rfl ?_
    refine u_getR (a := 175) (pc' := 83) dX11_lays_80 rfl fl_TuneDoorModel_171 rfl (by decide) kd_140 rfl ?_
    refine u_iconst (pc' := 84) dX11_lays_83 rfl ?_
    refine u_aload_n (i := 0) (pc' := 85) dX11_lays_84 rfl rfl rfl ?_
    refine u_getR (a := 176) (pc' := 88) dX11_lays_85 rfl fl_TuneDoorModel_174 rfl (by decide) kd_140 rfl ?_
    refine u_iconst (pc' := 89) dX11_lays_88 rfl ?_
    refine u_iload_n (i := 1) (pc' := 90) dX11_lays_89 rfl rfl rfl ?_
    refine u_imul (pc' := 91) dX11_lays_90 rfl ?_
    refine u_aload_n (i := 0) (pc' := 92) dX11_lays_91 rfl rfl rfl ?_
    refine u_getR (a := 143) (pc' := 95) dX11_lays_92 rfl fl_TuneDoorModel_54 rfl (by decide) kd_140 rfl ?_
    refine u_aload_n (i := 0) (pc' := 96) dX11_lays_95 rfl rfl rfl ?_
    refine u_getI (z := (τ 140 12)) (pc' := 99) dX11_lays_96 rfl fl_TuneDoorModel_48 rfl (by decide) (by decide) kd_140 rfl (fun r10 => ?_)
    obtain ⟨c11, c12, h⟩ := h
    refine u_iaload (k := (τ 140 12).toNat) (z := (τ 143 (τ 140 12).toNat)) (pc' := 100) dX11_lays_99 rfl (by decide) kd_143 c11 c12 (by decide) rfl rfl (fun r13 => ?_)
    refine u_iadd (pc' := 101) dX11_lays_100 rfl ?_
    refine u_iconst (pc' := 102) dX11_lays_101 rfl ?_
    refine u_isub (pc' := 103) dX11_lays_102 rfl ?_
    obtain ⟨c14, c15, h⟩ := h
    refine u_iaload (k := (((5 * x1) + (τ 143 (τ 140 12).toNat)) - 1).toNat) (z := (τ 176 (((5 * x1) + (τ 143 (τ 140 12).toNat)) - 1).toNat)) (pc' := 104) dX11_lays_103 rfl (by decide) kd_176 c14 c15 (by decide) rfl rfl (fun r16 => ?_)
    refine u_iastore (k := 3) (pc' := 105) dX11_lays_104 rfl (by decide) kd_175 (by decide) (by decide) (by decide) rfl r16 ?_
    refine u_aload_n (i := 0) (pc' := 106) dX11_lays_105 rfl rfl rfl ?_
    refine u_getR (a := 175) (pc' := 109) dX11_lays_106 rfl fl_TuneDoorModel_171 rfl (by decide) kd_140 rfl ?_
    refine u_iconst (pc' := 110) dX11_lays_109 rfl ?_
    refine u_iconst (pc' := 111) dX11_lays_110 rfl ?_
    refine u_iastore (k := 4) (pc' := 112) dX11_lays_111 rfl (by decide) kd_175 (by decide) (by decide) (by decide) rfl ⟨by decide, by decide⟩ ?_
    refine u_aload_n (i := 0) (pc' := 113) dX11_lays_112 rfl rfl rfl ?_
    refine u_getR (a := 175) (pc' := 116) dX11_lays_113 rfl fl_TuneDoorModel_171 rfl (by decide) kd_140 rfl ?_
    refine u_iconst (pc' := 117) dX11_lays_116 rfl ?_
    refine u_iconst (pc' := 118) dX11_lays_117 rfl ?_
    refine u_iastore (k := 5) (pc' := 119) dX11_lays_118 rfl (by decide) kd_175 (by decide) (by decide) (by decide) rfl ⟨by decide, by decide⟩ ?_
    refine u_aload_n (i := 0) (pc' := 120) dX11_lays_119 rfl rfl rfl ?_
    refine u_getR (a := 175) (pc' := 123) dX11_lays_120 rfl fl_TuneDoorModel_171 rfl (by decide) kd_140 rfl ?_
    refine u_bipush (pc' := 125) dX11_lays_123 rfl (by decide) ?_
    refine u_aload_n (i := 0) (pc' := 126) dX11_lays_125 rfl rfl rfl ?_
    refine u_getR (a := 177) (pc' := 129) dX11_lays_126 rfl fl_TuneDoorModel_177 rfl (by decide) kd_140 rfl ?_
    refine u_iload_n (i := 1) (pc' := 130) dX11_lays_129 rfl rfl rfl ?_
    obtain ⟨c17, c18, h⟩ := h
    refine u_iaload (k := x1.toNat) (z := (τ 177 x1.toNat)) (pc' := 131) dX11_lays_130 rfl (by decide) kd_177 c17 c18 (by decide) rfl rfl (fun r19 => ?_)
    refine u_iastore (k := 6) (pc' := 132) dX11_lays_131 rfl (by decide) kd_175 (by decide) (by decide) (by decide) rfl r19 ?_
    refine u_aload_n (i := 0) (pc' := 133) dX11_lays_132 rfl rfl rfl ?_
    refine u_iconst (pc' := 134) dX11_lays_133 rfl ?_
    refine u_aload_n (i := 0) (pc' := 135) dX11_lays_134 rfl rfl rfl ?_
    refine u_getR (a := 143) (pc' := 138) dX11_lays_135 rfl fl_TuneDoorModel_54 rfl (by decide) kd_140 rfl ?_
    refine u_aload_n (i := 0) (pc' := 139) dX11_lays_138 rfl rfl rfl ?_
    refine u_getI (z := (τ 140 12)) (pc' := 142) dX11_lays_139 rfl fl_TuneDoorModel_48 rfl (by decide) (by decide) kd_140 rfl (fun r20 => ?_)
    obtain ⟨c21, c22, h⟩ := h
    refine u_iaload (k := (τ 140 12).toNat) (z := (τ 143 (τ 140 12).toNat)) (pc' := 143) dX11_lays_142 rfl (by decide) kd_143 c21 c22 (by decide) rfl rfl (fun r23 => ?_)
    refine u_iconst (pc' := 144) dX11_lays_143 rfl ?_
    refine u_invV (q' := qX11_ruled) (As := [vI 0, vI (τ 143 (τ 140 12).toNat), vI 0]) (st := []) (pc' := 147) dX11_lays_144 rfl gX11_ruled wm_1636 rfl rfl (by decide) kd_140 wm_1638 wp_105 rfl (Nat.le_of_ble_eq_true rfl) (M0.mono h (fun v τ24 h => ?_))
    obtain ⟨r25, rfl, h⟩ := h
    show V0 E (d + 1) qX11_lays 147 [some (vR 140), some (vI x1), some (vI x2), some (vI x3), none] [vI r25] τ24 Q
    refine s_istore_n (i := 3) (ls' := [some (vR 140), some (vI x1), some (vI x2), some (vI r25), none]) (pc' := 148) dX11_lays_147 rfl rfl (Nat.le_of_ble_eq_true rfl) rfl rfl ?_
    refine u_aload_n (i := 0) (pc' := 149) dX11_lays_148 rfl rfl rfl ?_
    refine u_getR (a := 177) (pc' := 152) dX11_lays_149 rfl fl_TuneDoorModel_177 rfl (by decide) kd_140 rfl ?_
    refine u_iload_n (i := 1) (pc' := 153) dX11_lays_152 rfl rfl rfl ?_
    refine u_iconst (pc' := 154) dX11_lays_153 rfl ?_
    refine u_iadd (pc' := 155) dX11_lays_154 rfl ?_
    refine u_aload_n (i := 0) (pc' := 156) dX11_lays_155 rfl rfl rfl ?_
    refine u_iconst (pc' := 157) dX11_lays_156 rfl ?_
    refine u_bipush (pc' := 159) dX11_lays_157 rfl (by decide) ?_
    refine u_aload_n (i := 0) (pc' := 160) dX11_lays_159 rfl rfl rfl ?_
    refine u_getR (a := 177) (pc' := 163) dX11_lays_160 rfl fl_TuneDoorModel_177 rfl (by decide) kd_140 rfl ?_
    refine u_iload_n (i := 1) (pc' := 164) dX11_lays_163 rfl rfl rfl ?_
    obtain ⟨c26, c27, h⟩ := h
    refine u_iaload (k := x1.toNat) (z := (τ24 177 x1.toNat)) (pc' := 165) dX11_lays_164 rfl (by decide) kd_177 c26 c27 (by decide) rfl rfl (fun r28 => ?_)
    refine u_invV (q' := qX11_ruled) (As := [vI 2, vI 100, vI (τ24 177 x1.toNat)]) (st := [vI (x1 + 1), vR 177]) (pc' := 168) dX11_lays_165 rfl gX11_ruled wm_1636 rfl rfl (by decide) kd_140 wm_1638 wp_105 rfl (Nat.le_of_ble_eq_true rfl) (M0.mono h (fun v τ29 h => ?_))
    obtain ⟨r30, rfl, h⟩ := h
    show V0 E (d + 1) qX11_lays 168 [some (vR 140), some (vI x1), some (vI x2), some (vI r25), none] [vI r30, vI (x1 + 1), vR 177] τ29 Q
    obtain ⟨c31, c32, c33, h⟩ := h
    refine u_iastore (k := (x1 + 1).toNat) (pc' := 169) dX11_lays_168 rfl (by decide) kd_177 c31 c32 (by decide) rfl c33 ?_
    refine u_aload_n (i := 0) (pc' := 170) dX11_lays_169 rfl rfl rfl ?_
    refine u_getR (a := 176) (pc' := 173) dX11_lays_170 rfl fl_TuneDoorModel_174 rfl (by decide) kd_140 rfl ?_
    refine u_iconst (pc' := 174) dX11_lays_173 rfl ?_
    refine u_iload_n (i := 1) (pc' := 175) dX11_lays_174 rfl rfl rfl ?_
    refine u_imul (pc' := 176) dX11_lays_175 rfl ?_
    refine u_iload_n (i := 3) (pc' := 177) dX11_lays_176 rfl rfl rfl ?_
    refine u_iadd (pc' := 178) dX11_lays_177 rfl ?_
    obtain ⟨c34, c35, h⟩ := h
    refine u_iaload (k := ((5 * x1) + r25).toNat) (z := (τ29 176 ((5 * x1) + r25).toNat)) (pc' := 179) dX11_lays_178 rfl (by decide) kd_176 c34 c35 (by decide) rfl rfl (fun r36 => ?_)
    refine s_istore (i := 4) (ls' := [some (vR 140), some (vI x1), some (vI x2), some (vI r25), some (vI (τ29 176 ((5 * x1) + r25).toNat))]) (pc' := 181) dX11_lays_179 rfl (Nat.le_of_ble_eq_true rfl) rfl rfl ?_
    refine u_aload_n (i := 0) (pc' := 182) dX11_lays_181 rfl rfl rfl ?_
    refine u_getR (a := 175) (pc' := 185) dX11_lays_182 rfl fl_TuneDoorModel_171 rfl (by decide) kd_140 rfl ?_
    refine u_iconst (pc' := 186) dX11_lays_185 rfl ?_
    refine u_iload (i := 4) (pc' := 188) dX11_lays_186 rfl rfl ?_
    refine u_iastore (k := 4) (pc' := 189) dX11_lays_188 rfl (by decide) kd_175 (by decide) (by decide) (by decide) rfl r36 ?_
    refine u_aload_n (i := 0) (pc' := 190) dX11_lays_189 rfl rfl rfl ?_
    refine u_getR (a := 175) (pc' := 193) dX11_lays_190 rfl fl_TuneDoorModel_171 rfl (by decide) kd_140 rfl ?_
    refine u_iconst (pc' := 194) dX11_lays_193 rfl ?_
    refine u_iload_n (i := 3) (pc' := 195) dX11_lays_194 rfl rfl rfl ?_
    obtain ⟨c37, h⟩ := h
    refine u_iastore (k := 5) (pc' := 196) dX11_lays_195 rfl (by decide) kd_175 (by decide) (by decide) (by decide) rfl c37 ?_
    refine u_aload_n (i := 0) (pc' := 197) dX11_lays_196 rfl rfl rfl ?_
    refine u_getR (a := 176) (pc' := 200) dX11_lays_197 rfl fl_TuneDoorModel_174 rfl (by decide) kd_140 rfl ?_
    refine u_iconst (pc' := 201) dX11_lays_200 rfl ?_
    refine u_iload_n (i := 1) (pc' := 202) dX11_lays_201 rfl rfl rfl ?_
    refine u_iconst (pc' := 203) dX11_lays_202 rfl ?_
    refine u_iadd (pc' := 204) dX11_lays_203 rfl ?_
    refine u_imul (pc' := 205) dX11_lays_204 rfl ?_
    refine u_iload_n (i := 3) (pc' := 206) dX11_lays_205 rfl rfl rfl ?_
    refine u_iadd (pc' := 207) dX11_lays_206 rfl ?_
    refine u_aload_n (i := 0) (pc' := 208) dX11_lays_207 rfl rfl rfl ?_
    refine u_iconst (pc' := 209) dX11_lays_208 rfl ?_
    refine u_aload_n (i := 0) (pc' := 210) dX11_lays_209 rfl rfl rfl ?_
    refine u_getR (a := 142) (pc' := 213) dX11_lays_210 rfl fl_TuneDoorModel_51 rfl (by decide) kd_140 rfl ?_
    refine u_aload_n (i := 0) (pc' := 214) dX11_lays_213 rfl rfl rfl ?_
    refine u_getI (z := (τ29 140 12)) (pc' := 217) dX11_lays_214 rfl fl_TuneDoorModel_48 rfl (by decide) (by decide) kd_140 rfl (fun r38 => ?_)
    obtain ⟨c39, c40, h⟩ := h
    refine u_iaload (k := (τ29 140 12).toNat) (z := (τ29 142 (τ29 140 12).toNat)) (pc' := 218) dX11_lays_217 rfl (by decide) kd_142 c39 c40 (by decide) rfl rfl (fun r41 => ?_)
    refine u_iload (i := 4) (pc' := 220) dX11_lays_218 rfl rfl ?_
    refine u_iconst (pc' := 221) dX11_lays_220 rfl ?_
    refine u_iadd (pc' := 222) dX11_lays_221 rfl ?_
    refine u_aload_n (i := 0) (pc' := 223) dX11_lays_222 rfl rfl rfl ?_
    refine u_getR (a := 142) (pc' := 226) dX11_lays_223 rfl fl_TuneDoorModel_51 rfl (by decide) kd_140 rfl ?_
    refine u_aload_n (i := 0) (pc' := 227) dX11_lays_226 rfl rfl rfl ?_
    refine u_getI (z := (τ29 140 12)) (pc' := 230) dX11_lays_227 rfl fl_TuneDoorModel_48 rfl (by decide) (by decide) kd_140 rfl (fun r42 => ?_)
    obtain ⟨c43, c44, h⟩ := h
    refine u_iaload (k := (τ29 140 12).toNat) (z := (τ29 142 (τ29 140 12).toNat)) (pc' := 231) dX11_lays_230 rfl (by decide) kd_142 c43 c44 (by decide) rfl rfl (fun r45 => ?_)
    obtain ⟨c46, c47, h⟩ := h
    refine u_irem (pc' := 232) dX11_lays_231 rfl c46 r45 c47 ?_
    refine u_invV (q' := qX11_ruled) (As := [vI 1, vI (τ29 142 (τ29 140 12).toNat), vI (Int.tmod ((τ29 176 ((5 * x1) + r25).toNat) + 1) (τ29 142 (τ29 140 12).toNat))]) (st := [vI ((5 * (x1 + 1)) + r25), vR 176]) (pc' := 235) dX11_lays_232 rfl gX11_ruled wm_1636 rfl rfl (by decide) kd_140 wm_1638 wp_105 rfl (Nat.le_of_ble_eq_true rfl) (M0.mono h (fun v τ48 h => ?_))
    obtain ⟨r49, rfl, h⟩ := h
    show V0 E (d + 1) qX11_lays 235 [some (vR 140), some (vI x1), some (vI x2), some (vI r25), some (vI (τ29 176 ((5 * x1) + r25).toNat))] [vI r49, vI ((5 * (x1 + 1)) + r25), vR 176] τ48 Q
    obtain ⟨c50, c51, c52, h⟩ := h
    refine u_iastore (k := ((5 * (x1 + 1)) + r25).toNat) (pc' := 236) dX11_lays_235 rfl (by decide) kd_176 c50 c51 (by decide) rfl c52 ?_
    exact u_ret dX11_lays_236 rfl h
  · have h := h.2 hb
    refine u_aload_n (i := 0) (pc' := 18) dX11_lays_17 rfl rfl rfl ?_
    refine u_getR (a := 176) (pc' := 21) dX11_lays_18 rfl fl_TuneDoorModel_174 rfl (by decide) kd_140 rfl ?_
    refine u_iconst (pc' := 22) dX11_lays_21 rfl ?_
    refine u_iload_n (i := 1) (pc' := 23) dX11_lays_22 rfl rfl rfl ?_
    refine u_iconst (pc' := 24) dX11_lays_23 rfl ?_
    refine u_iadd (pc' := 25) dX11_lays_24 rfl ?_
    refine u_imul (pc' := 26) dX11_lays_25 rfl ?_
    refine u_iload_n (i := 3) (pc' := 27) dX11_lays_26 rfl rfl rfl ?_
    refine u_iadd (pc' := 28) dX11_lays_27 rfl ?_
    refine u_aload_n (i := 0) (pc' := 29) dX11_lays_28 rfl rfl rfl ?_
    refine u_getR (a := 176) (pc' := 32) dX11_lays_29 rfl fl_TuneDoorModel_174 rfl (by decide) kd_140 rfl ?_
    refine u_iconst (pc' := 33) dX11_lays_32 rfl ?_
    refine u_iload_n (i := 1) (pc' := 34) dX11_lays_33 rfl rfl rfl ?_
    refine u_imul (pc' := 35) dX11_lays_34 rfl ?_
    refine u_iload_n (i := 3) (pc' := 36) dX11_lays_35 rfl rfl rfl ?_
    refine u_iadd (pc' := 37) dX11_lays_36 rfl ?_
    obtain ⟨c53, c54, h⟩ := h
    refine u_iaload (k := ((5 * x1) + x3).toNat) (z := (τ 176 ((5 * x1) + x3).toNat)) (pc' := 38) dX11_lays_37 rfl (by decide) kd_176 c53 c54 (by decide) rfl rfl (fun r55 => ?_)
    obtain ⟨c56, c57, h⟩ := h
    refine u_iastore (k := ((5 * (x1 + 1)) + x3).toNat) (pc' := 39) dX11_lays_38 rfl (by decide) kd_176 c56 c57 (by decide) rfl r55 ?_
    refine u_iload_n (i := 2) (pc' := 40) dX11_lays_39 rfl rfl rfl ?_
    refine u_aload_n (i := 0) (pc' := 41) dX11_lays_40 rfl rfl rfl ?_
    refine u_getR (a := 176) (pc' := 44) dX11_lays_41 rfl fl_TuneDoorModel_174 rfl (by decide) kd_140 rfl ?_
    refine u_iconst (pc' := 45) dX11_lays_44 rfl ?_
    refine u_iload_n (i := 1) (pc' := 46) dX11_lays_45 rfl rfl rfl ?_
    refine u_imul (pc' := 47) dX11_lays_46 rfl ?_
    refine u_iload_n (i := 3) (pc' := 48) dX11_lays_47 rfl rfl rfl ?_
    refine u_iadd (pc' := 49) dX11_lays_48 rfl ?_
    obtain ⟨c58, c59, h⟩ := h
    refine u_iaload (k := ((5 * x1) + x3).toNat) (z := ((wr τ 176 ((5 * (x1 + 1)) + x3).toNat (τ 176 ((5 * x1) + x3).toNat)) 176 ((5 * x1) + x3).toNat)) (pc' := 50) dX11_lays_49 rfl (by decide) kd_176 c58 c59 (by decide) rfl rfl (fun r60 => ?_)
    refine u_iadd (pc' := 51) dX11_lays_50 rfl ?_
    refine s_istore_n (i := 2) (ls' := [some (vR 140), some (vI x1), some (vI (x2 + ((wr τ 176 ((5 * (x1 + 1)) + x3).toNat (τ 176 ((5 * x1) + x3).toNat)) 176 ((5 * x1) + x3).toNat))), some (vI x3), none]) (pc' := 52) dX11_lays_51 rfl rfl (Nat.le_of_ble_eq_true rfl) rfl rfl ?_
    refine s_iinc (i := 3) (ls' := [some (vR 140), some (vI x1), some (vI (x2 + ((wr τ 176 ((5 * (x1 + 1)) + x3).toNat (τ 176 ((5 * x1) + x3).toNat)) 176 ((5 * x1) + x3).toNat))), some (vI (x3 + 1)), none]) (pc' := 55) dX11_lays_52 rfl rfl (Nat.le_of_ble_eq_true rfl) rfl rfl ?_
    refine u_goto (tgt := 4) dX11_lays_55 (by decide) ?_
    exact u_less (ls' := [some (vR 140), some (vI x1), some (vI (x2 + ((wr τ 176 ((5 * (x1 + 1)) + x3).toNat (τ 176 ((5 * x1) + x3).toNat)) 176 ((5 * x1) + x3).toNat))), some (vI (x3 + 1)), none]) ⟨rfl, ⟨rfl, ⟨rfl, ⟨rfl, trivial⟩⟩⟩⟩ h
set_option maxRecDepth 20000 in
theorem bX11_ruled_0 {E : mm_Env} {d : Nat} {τ : mm_Mem} {Q : mm_Q0} {a0 : Int} {a1 : Int} {a2 : Int} (h : V0 E (d + 1) qX11_ruled 17 [some (vR 140), none, some (vI a1), some (vI a2), some (vI ((3 * (τ 140 12)) + a0)), some (vI (6 * ((3 * (τ 140 12)) + a0))), none, none] [] τ Q) : V0 E (d + 1) qX11_ruled 0 [some (vR 140), some (vI a0), some (vI a1), some (vI a2), none, none, none, none] [] τ Q := by
  refine u_iconst (pc' := 1) dX11_ruled_0 rfl ?_
  refine u_aload_n (i := 0) (pc' := 2) dX11_ruled_1 rfl rfl rfl ?_
  refine u_getI (z := (τ 140 12)) (pc' := 5) dX11_ruled_2 rfl fl_TuneDoorModel_48 rfl (by decide) (by decide) kd_140 rfl (fun r1 => ?_)
  refine u_imul (pc' := 6) dX11_ruled_5 rfl ?_
  refine u_iload_n (i := 1) (pc' := 7) dX11_ruled_6 rfl rfl rfl ?_
  refine u_iadd (pc' := 8) dX11_ruled_7 rfl ?_
  refine s_istore (i := 4) (ls' := [some (vR 140), some (vI a0), some (vI a1), some (vI a2), some (vI ((3 * (τ 140 12)) + a0)), none, none, none]) (pc' := 10) dX11_ruled_8 rfl (Nat.le_of_ble_eq_true rfl) rfl rfl ?_
  refine u_bipush (pc' := 12) dX11_ruled_10 rfl (by decide) ?_
  refine u_iload (i := 4) (pc' := 14) dX11_ruled_12 rfl rfl ?_
  refine u_imul (pc' := 15) dX11_ruled_14 rfl ?_
  refine s_istore (i := 5) (ls' := [some (vR 140), some (vI a0), some (vI a1), some (vI a2), some (vI ((3 * (τ 140 12)) + a0)), some (vI (6 * ((3 * (τ 140 12)) + a0))), none, none]) (pc' := 17) dX11_ruled_15 rfl (Nat.le_of_ble_eq_true rfl) rfl rfl ?_
  exact u_less (ls' := [some (vR 140), none, some (vI a1), some (vI a2), some (vI ((3 * (τ 140 12)) + a0)), some (vI (6 * ((3 * (τ 140 12)) + a0))), none, none]) ⟨rfl, ⟨rfl, ⟨rfl, ⟨rfl, ⟨rfl, trivial⟩⟩⟩⟩⟩ h
theorem mX11_ruled {E : mm_Env} {d : Nat} {τ : mm_Mem} {Q : mm_Q0} {a0 : Int} {a1 : Int} {a2 : Int} (h : V0 E (d + 1) qX11_ruled 17 [some (vR 140), none, some (vI a1), some (vI a2), some (vI ((3 * (τ 140 12)) + a0)), some (vI (6 * ((3 * (τ 140 12)) + a0))), none, none] [] τ Q) : M0 E (d + 1) qX11_ruled [vR 140, vI a0, vI a1, vI a2] τ Q := M0_of rfl (Nat.le_of_ble_eq_true rfl) [some (vR 140), some (vI a0), some (vI a1), some (vI a2), none, none, none, none] rfl (bX11_ruled_0  h)
set_option maxRecDepth 20000 in
theorem bX11_ruled_17 {E : mm_Env} {d : Nat} {τ : mm_Mem} {Q : mm_Q0} {x2 : Int} {x3 : Int} {x4 : Int} {x5 : Int} (h : 0 ≤ x4 ∧ x4 < 6 ∧ inR x5 ∧ inR ((6 * x4) + (τ 148 x4.toNat)) ∧ ((((6 * x4) + (τ 148 x4.toNat)) ≤ x5 → Q (some (vI x3)) τ) ∧ (¬ ((6 * x4) + (τ 148 x4.toNat)) ≤ x5 → 0 ≤ x5 ∧ x5 < 36 ∧ 0 ≤ x5 ∧ x5 < 36 ∧ M0 E d qX11_works [vR 140, vI (τ 150 x5.toNat), vI (τ 151 x5.toNat)] τ (fun v τ12 => ∃ r13 : Int, v = some (vL r13) ∧ inL r13 ∧ ((r13 = 1 → 0 ≤ x5 ∧ x5 < 36 ∧ 0 ≤ x5 ∧ x5 < 36 ∧ M0 E d qX11_works [vR 140, vI (τ12 149 x5.toNat), vI (τ12 150 x5.toNat)] τ12 (fun v τ21 => ∃ r22 : Int, v = some (vL r22) ∧ inR x2 ∧ inL r22 ∧ x2 ≠ 0 ∧ inL (Int.tmod r22 x2) ∧ ((0 ≤ (Int.tmod r22 x2) → Q (some (vI (Int.tmod r22 x2))) τ21) ∧ (¬ 0 ≤ (Int.tmod r22 x2) → inL ((Int.tmod r22 x2) + x2) ∧ Q (some (vI ((Int.tmod r22 x2) + x2))) τ21)))) ∧ (¬ r13 = 1 → V0 E (d + 1) qX11_ruled 17 [some (vR 140), none, some (vI x2), some (vI x3), some (vI x4), some (vI (x5 + 1)), none, none] [] τ12 Q)))))) : V0 E (d + 1) qX11_ruled 17 [some (vR 140), none, some (vI x2), some (vI x3), some (vI x4), some (vI x5), none, none] [] τ Q := by
  refine u_iload (i := 5) (pc' := 19) dX11_ruled_17 rfl rfl ?_
  refine u_bipush (pc' := 21) dX11_ruled_19 rfl (by decide) ?_
  refine u_iload (i := 4) (pc' := 23) dX11_ruled_21 rfl rfl ?_
  refine u_imul (pc' := 24) dX11_ruled_23 rfl ?_
  refine u_aload_n (i := 0) (pc' := 25) dX11_ruled_24 rfl rfl rfl ?_
  refine u_getR (a := 148) (pc' := 28) dX11_ruled_25 rfl fl_TuneDoorModel_70 rfl (by decide) kd_140 rfl ?_
  refine u_iload (i := 4) (pc' := 30) dX11_ruled_28 rfl rfl ?_
  obtain ⟨c1, c2, h⟩ := h
  refine u_iaload (k := x4.toNat) (z := (τ 148 x4.toNat)) (pc' := 31) dX11_ruled_30 rfl (by decide) kd_148 c1 c2 (by decide) rfl rfl (fun r3 => ?_)
  refine u_iadd (pc' := 32) dX11_ruled_31 rfl ?_
  obtain ⟨c4, c5, h⟩ := h
  refine u_icmp_ge (tgt := 109) (pc' := 35) dX11_ruled_32 rfl (by decide) c4 c5 (fun hb => ?_) (fun hb => ?_)
  · have h := h.1 hb
    refine u_iload_n (i := 3) (pc' := 110) dX11_ruled_109 rfl rfl rfl ?_
    exact u_iret dX11_ruled_110 rfl h
  · have h := h.2 hb
    refine u_aload_n (i := 0) (pc' := 36) dX11_ruled_35 rfl rfl rfl ?_
    refine u_aload_n (i := 0) (pc' := 37) dX11_ruled_36 rfl rfl rfl ?_
    refine u_getR (a := 150) (pc' := 40) dX11_ruled_37 rfl fl_TuneDoorModel_76 rfl (by decide) kd_140 rfl ?_
    refine u_iload (i := 5) (pc' := 42) dX11_ruled_40 rfl rfl ?_
    obtain ⟨c6, c7, h⟩ := h
    refine u_iaload (k := x5.toNat) (z := (τ 150 x5.toNat)) (pc' := 43) dX11_ruled_42 rfl (by decide) kd_150 c6 c7 (by decide) rfl rfl (fun r8 => ?_)
    refine u_aload_n (i := 0) (pc' := 44) dX11_ruled_43 rfl rfl rfl ?_
    refine u_getR (a := 151) (pc' := 47) dX11_ruled_44 rfl fl_TuneDoorModel_79 rfl (by decide) kd_140 rfl ?_
    refine u_iload (i := 5) (pc' := 49) dX11_ruled_47 rfl rfl ?_
    obtain ⟨c9, c10, h⟩ := h
    refine u_iaload (k := x5.toNat) (z := (τ 151 x5.toNat)) (pc' := 50) dX11_ruled_49 rfl (by decide) kd_151 c9 c10 (by decide) rfl rfl (fun r11 => ?_)
    refine u_invV (q' := qX11_works) (As := [vI (τ 150 x5.toNat), vI (τ 151 x5.toNat)]) (st := []) (pc' := 53) dX11_ruled_50 rfl gX11_works wm_1640 rfl rfl (by decide) kd_140 wm_1642 wp_106 rfl (Nat.le_of_ble_eq_true rfl) (M0.mono h (fun v τ12 h => ?_))
    obtain ⟨r13, rfl, h⟩ := h
    show V0 E (d + 1) qX11_ruled 53 [some (vR 140), none, some (vI x2), some (vI x3), some (vI x4), some (vI x5), none, none] [vL r13] τ12 Q
    refine u_lconst (z := 1) (pc' := 54) dX11_ruled_53 rfl (by decide) ?_
    obtain ⟨c14, h⟩ := h
    refine u_lcmp (pc' := 55) dX11_ruled_54 rfl c14 ⟨by decide, by decide⟩ ?_
    refine u_if_eq (tgt := 61) (pc' := 58) dX11_ruled_55 rfl (by decide) (mm_cmp_R _ _) (fun hb => ?_) (fun hb => ?_)
    · have h := h.1 (mm_cmp_0.mp hb)
      refine u_aload_n (i := 0) (pc' := 62) dX11_ruled_61 rfl rfl rfl ?_
      refine u_aload_n (i := 0) (pc' := 63) dX11_ruled_62 rfl rfl rfl ?_
      refine u_getR (a := 149) (pc' := 66) dX11_ruled_63 rfl fl_TuneDoorModel_73 rfl (by decide) kd_140 rfl ?_
      refine u_iload (i := 5) (pc' := 68) dX11_ruled_66 rfl rfl ?_
      obtain ⟨c15, c16, h⟩ := h
      refine u_iaload (k := x5.toNat) (z := (τ12 149 x5.toNat)) (pc' := 69) dX11_ruled_68 rfl (by decide) kd_149 c15 c16 (by decide) rfl rfl (fun r17 => ?_)
      refine u_aload_n (i := 0) (pc' := 70) dX11_ruled_69 rfl rfl rfl ?_
      refine u_getR (a := 150) (pc' := 73) dX11_ruled_70 rfl fl_TuneDoorModel_76 rfl (by decide) kd_140 rfl ?_
      refine u_iload (i := 5) (pc' := 75) dX11_ruled_73 rfl rfl ?_
      obtain ⟨c18, c19, h⟩ := h
      refine u_iaload (k := x5.toNat) (z := (τ12 150 x5.toNat)) (pc' := 76) dX11_ruled_75 rfl (by decide) kd_150 c18 c19 (by decide) rfl rfl (fun r20 => ?_)
      refine u_invV (q' := qX11_works) (As := [vI (τ12 149 x5.toNat), vI (τ12 150 x5.toNat)]) (st := []) (pc' := 79) dX11_ruled_76 rfl gX11_works wm_1640 rfl rfl (by decide) kd_140 wm_1642 wp_106 rfl (Nat.le_of_ble_eq_true rfl) (M0.mono h (fun v τ21 h => ?_))
      obtain ⟨r22, rfl, h⟩ := h
      show V0 E (d + 1) qX11_ruled 79 [some (vR 140), none, some (vI x2), some (vI x3), some (vI x4), some (vI x5), none, none] [vL r22] τ21 Q
      refine u_iload_n (i := 2) (pc' := 80) dX11_ruled_79 rfl rfl rfl ?_
      obtain ⟨c23, h⟩ := h
      refine u_i2l (pc' := 81) dX11_ruled_80 rfl c23 ?_
      obtain ⟨c24, c25, h⟩ := h
      refine u_lrem (pc' := 82) dX11_ruled_81 rfl c24 (inL_R c23) c25 ?_
      refine s_lstore (i := 6) (ls' := [some (vR 140), none, some (vI x2), some (vI x3), some (vI x4), some (vI x5), some (vL (Int.tmod r22 x2)), none]) (pc' := 84) dX11_ruled_82 rfl (Nat.le_of_ble_eq_true rfl) rfl rfl ?_
      refine u_lload (i := 6) (pc' := 86) dX11_ruled_84 rfl rfl ?_
      refine u_lconst (z := 0) (pc' := 87) dX11_ruled_86 rfl (by decide) ?_
      obtain ⟨c26, h⟩ := h
      refine u_lcmp (pc' := 88) dX11_ruled_87 rfl c26 ⟨by decide, by decide⟩ ?_
      refine u_if_ge (tgt := 99) (pc' := 91) dX11_ruled_88 rfl (by decide) (mm_cmp_R _ _) (fun hb => ?_) (fun hb => ?_)
      · have h := h.1 (mm_cmp_ge.mp hb)
        refine u_lload (i := 6) (pc' := 101) dX11_ruled_99 rfl rfl ?_
        refine u_l2i (pc' := 102) dX11_ruled_101 rfl c26 ?_
        exact u_iret dX11_ruled_102 rfl h
      · have h := h.2 (fun w => hb (mm_cmp_ge.mpr w))
        refine u_lload (i := 6) (pc' := 93) dX11_ruled_91 rfl rfl ?_
        refine u_iload_n (i := 2) (pc' := 94) dX11_ruled_93 rfl rfl rfl ?_
        refine u_i2l (pc' := 95) dX11_ruled_94 rfl c23 ?_
        refine u_ladd (pc' := 96) dX11_ruled_95 rfl ?_
        refine u_goto (tgt := 101) dX11_ruled_96 (by decide) ?_
        obtain ⟨c27, h⟩ := h
        refine u_l2i (pc' := 102) dX11_ruled_101 rfl c27 ?_
        exact u_iret dX11_ruled_102 rfl h
    · have h := h.2 (fun w => hb (mm_cmp_0.mpr w))
      refine u_goto (tgt := 103) dX11_ruled_58 (by decide) ?_
      refine s_iinc (i := 5) (ls' := [some (vR 140), none, some (vI x2), some (vI x3), some (vI x4), some (vI (x5 + 1)), none, none]) (pc' := 106) dX11_ruled_103 rfl rfl (Nat.le_of_ble_eq_true rfl) rfl rfl ?_
      refine u_goto (tgt := 17) dX11_ruled_106 (by decide) ?_
      exact u_less (ls' := [some (vR 140), none, some (vI x2), some (vI x3), some (vI x4), some (vI (x5 + 1)), none, none]) ⟨rfl, ⟨rfl, ⟨rfl, ⟨rfl, ⟨rfl, trivial⟩⟩⟩⟩⟩ h
set_option maxRecDepth 20000 in
theorem bX11_works_0 {E : mm_Env} {d : Nat} {τ : mm_Mem} {Q : mm_Q0} {a0 : Int} {a1 : Int} (h : V0 E (d + 1) qX11_works 14 [some (vR 140), none, some (vI a1), some (vI 0), some (vI ((1600 * (τ 140 12)) + a0)), none] [] τ Q) : V0 E (d + 1) qX11_works 0 [some (vR 140), some (vI a0), some (vI a1), none, none, none] [] τ Q := by
  refine u_iconst (pc' := 1) dX11_works_0 rfl ?_
  refine s_istore_n (i := 3) (ls' := [some (vR 140), some (vI a0), some (vI a1), some (vI 0), none, none]) (pc' := 2) dX11_works_1 rfl rfl (Nat.le_of_ble_eq_true rfl) rfl rfl ?_
  refine u_sipush (pc' := 5) dX11_works_2 rfl (by decide) ?_
  refine u_aload_n (i := 0) (pc' := 6) dX11_works_5 rfl rfl rfl ?_
  refine u_getI (z := (τ 140 12)) (pc' := 9) dX11_works_6 rfl fl_TuneDoorModel_48 rfl (by decide) (by decide) kd_140 rfl (fun r1 => ?_)
  refine u_imul (pc' := 10) dX11_works_9 rfl ?_
  refine u_iload_n (i := 1) (pc' := 11) dX11_works_10 rfl rfl rfl ?_
  refine u_iadd (pc' := 12) dX11_works_11 rfl ?_
  refine s_istore (i := 4) (ls' := [some (vR 140), some (vI a0), some (vI a1), some (vI 0), some (vI ((1600 * (τ 140 12)) + a0)), none]) (pc' := 14) dX11_works_12 rfl (Nat.le_of_ble_eq_true rfl) rfl rfl ?_
  exact u_less (ls' := [some (vR 140), none, some (vI a1), some (vI 0), some (vI ((1600 * (τ 140 12)) + a0)), none]) ⟨rfl, ⟨rfl, ⟨rfl, ⟨rfl, trivial⟩⟩⟩⟩ h
theorem mX11_works {E : mm_Env} {d : Nat} {τ : mm_Mem} {Q : mm_Q0} {a0 : Int} {a1 : Int} (h : V0 E (d + 1) qX11_works 14 [some (vR 140), none, some (vI a1), some (vI 0), some (vI ((1600 * (τ 140 12)) + a0)), none] [] τ Q) : M0 E (d + 1) qX11_works [vR 140, vI a0, vI a1] τ Q := M0_of rfl (Nat.le_of_ble_eq_true rfl) [some (vR 140), some (vI a0), some (vI a1), none, none, none] rfl (bX11_works_0  h)
set_option maxRecDepth 20000 in
theorem bX11_works_14 {E : mm_Env} {d : Nat} {τ : mm_Mem} {Q : mm_Q0} {x2 : Int} {x3 : Int} {x4 : Int} (h : inR x4 ∧ inR ((1600 * (τ 140 12)) + x2) ∧ ((((1600 * (τ 140 12)) + x2) ≤ x4 → Q (some (vL (τ 174 0))) τ) ∧ (¬ ((1600 * (τ 140 12)) + x2) ≤ x4 → 0 ≤ x4 ∧ x4 < 3200 ∧ ((9 < (τ 165 x4.toNat) → (((τ 165 x4.toNat) ≠ 22 → 0 ≤ ((x3 + (-1)) - 1) ∧ ((x3 + (-1)) - 1) < 1650 ∧ 0 ≤ (x3 + (-1)) ∧ (x3 + (-1)) < 1650 ∧ M0 E d qX11_made [vI (τ 165 x4.toNat), vL (τ 174 ((x3 + (-1)) - 1).toNat), vL (τ 174 (x3 + (-1)).toNat)] τ (fun v τ11 => ∃ r12 : Int, v = some (vL r12) ∧ 0 ≤ ((x3 + (-1)) - 1) ∧ ((x3 + (-1)) - 1) < 1650 ∧ V0 E (d + 1) qX11_works 14 [some (vR 140), none, some (vI x2), some (vI (x3 + (-1))), some (vI (x4 + 1)), none] [] (wr τ11 174 ((x3 + (-1)) - 1).toNat r12) Q)) ∧ ((τ 165 x4.toNat) = 22 → 0 ≤ (x3 - 1) ∧ (x3 - 1) < 1650 ∧ 0 ≤ (x3 - 1) ∧ (x3 - 1) < 1650 ∧ V0 E (d + 1) qX11_works 14 [some (vR 140), none, some (vI x2), some (vI x3), some (vI (x4 + 1)), none] [] (wr τ 174 (x3 - 1).toNat (1 - (τ 174 (x3 - 1).toNat))) Q))) ∧ (¬ 9 < (τ 165 x4.toNat) → (((τ 165 x4.toNat) ≠ 0 → (((τ 165 x4.toNat) ≠ 9 → 0 ≤ (τ 165 x4.toNat) ∧ (τ 165 x4.toNat) < 10 ∧ 0 ≤ x3 ∧ x3 < 1650 ∧ V0 E (d + 1) qX11_works 14 [some (vR 140), none, some (vI x2), some (vI (x3 + 1)), some (vI (x4 + 1)), none] [] (wr τ 174 x3.toNat (τ 175 (τ 165 x4.toNat).toNat)) Q) ∧ ((τ 165 x4.toNat) = 9 → 0 ≤ x3 ∧ x3 < 1650 ∧ V0 E (d + 1) qX11_works 14 [some (vR 140), none, some (vI x2), some (vI (x3 + 1)), some (vI (x4 + 1)), none] [] (wr τ 174 x3.toNat 1) Q))) ∧ ((τ 165 x4.toNat) = 0 → 0 ≤ x4 ∧ x4 < 3200 ∧ 0 ≤ x3 ∧ x3 < 1650 ∧ V0 E (d + 1) qX11_works 14 [some (vR 140), none, some (vI x2), some (vI (x3 + 1)), some (vI (x4 + 1)), none] [] (wr τ 174 x3.toNat (τ 166 x4.toNat)) Q))))))) : V0 E (d + 1) qX11_works 14 [some (vR 140), none, some (vI x2), some (vI x3), some (vI x4), none] [] τ Q := by
  refine u_iload (i := 4) (pc' := 16) dX11_works_14 rfl rfl ?_
  refine u_sipush (pc' := 19) dX11_works_16 rfl (by decide) ?_
  refine u_aload_n (i := 0) (pc' := 20) dX11_works_19 rfl rfl rfl ?_
  refine u_getI (z := (τ 140 12)) (pc' := 23) dX11_works_20 rfl fl_TuneDoorModel_48 rfl (by decide) (by decide) kd_140 rfl (fun r1 => ?_)
  refine u_imul (pc' := 24) dX11_works_23 rfl ?_
  refine u_iload_n (i := 2) (pc' := 25) dX11_works_24 rfl rfl rfl ?_
  refine u_iadd (pc' := 26) dX11_works_25 rfl ?_
  obtain ⟨c2, c3, h⟩ := h
  refine u_icmp_ge (tgt := 156) (pc' := 29) dX11_works_26 rfl (by decide) c2 c3 (fun hb => ?_) (fun hb => ?_)
  · have h := h.1 hb
    refine u_aload_n (i := 0) (pc' := 157) dX11_works_156 rfl rfl rfl ?_
    refine u_getR (a := 174) (pc' := 160) dX11_works_157 rfl fl_TuneDoorModel_168 rfl (by decide) kd_140 rfl ?_
    refine u_iconst (pc' := 161) dX11_works_160 rfl ?_
    refine u_laload (k := 0) (z := (τ 174 0)) (pc' := 162) dX11_works_161 rfl (by decide) kd_174 (by decide) (by decide) (by decide) rfl (mm_R0_La kd_174) rfl ?_
    exact u_lret dX11_works_162 rfl h
  · have h := h.2 hb
    refine u_aload_n (i := 0) (pc' := 30) dX11_works_29 rfl rfl rfl ?_
    refine u_getR (a := 165) (pc' := 33) dX11_works_30 rfl fl_TuneDoorModel_121 rfl (by decide) kd_140 rfl ?_
    refine u_iload (i := 4) (pc' := 35) dX11_works_33 rfl rfl ?_
    obtain ⟨c4, c5, h⟩ := h
    refine u_iaload (k := x4.toNat) (z := (τ 165 x4.toNat)) (pc' := 36) dX11_works_35 rfl (by decide) kd_165 c4 c5 (by decide) rfl rfl (fun r6 => ?_)
    refine s_istore (i := 5) (ls' := [some (vR 140), none, some (vI x2), some (vI x3), some (vI x4), some (vI (τ 165 x4.toNat))]) (pc' := 38) dX11_works_36 rfl (Nat.le_of_ble_eq_true rfl) rfl rfl ?_
    refine u_iload (i := 5) (pc' := 40) dX11_works_38 rfl rfl ?_
    refine u_bipush (pc' := 42) dX11_works_40 rfl (by decide) ?_
    refine u_icmp_gt (tgt := 92) (pc' := 45) dX11_works_42 rfl (by decide) r6 ⟨by decide, by decide⟩ (fun hb => ?_) (fun hb => ?_)
    · have h := h.1 hb
      refine u_iload (i := 5) (pc' := 94) dX11_works_92 rfl rfl ?_
      refine u_bipush (pc' := 96) dX11_works_94 rfl (by decide) ?_
      refine u_icmp_ne (tgt := 120) (pc' := 99) dX11_works_96 rfl (by decide) r6 ⟨by decide, by decide⟩ (fun hb => ?_) (fun hb => ?_)
      · have h := h.1 hb
        refine s_iinc (i := 3) (ls' := [some (vR 140), none, some (vI x2), some (vI (x3 + (-1))), some (vI x4), some (vI (τ 165 x4.toNat))]) (pc' := 123) dX11_works_120 rfl rfl (Nat.le_of_ble_eq_true rfl) rfl rfl ?_
        refine u_aload_n (i := 0) (pc' := 124) dX11_works_123 rfl rfl rfl ?_
        refine u_getR (a := 174) (pc' := 127) dX11_works_124 rfl fl_TuneDoorModel_168 rfl (by decide) kd_140 rfl ?_
        refine u_iload_n (i := 3) (pc' := 128) dX11_works_127 rfl rfl rfl ?_
        refine u_iconst (pc' := 129) dX11_works_128 rfl ?_
        refine u_isub (pc' := 130) dX11_works_129 rfl ?_
        refine u_iload (i := 5) (pc' := 132) dX11_works_130 rfl rfl ?_
        refine u_aload_n (i := 0) (pc' := 133) dX11_works_132 rfl rfl rfl ?_
        refine u_getR (a := 174) (pc' := 136) dX11_works_133 rfl fl_TuneDoorModel_168 rfl (by decide) kd_140 rfl ?_
        refine u_iload_n (i := 3) (pc' := 137) dX11_works_136 rfl rfl rfl ?_
        refine u_iconst (pc' := 138) dX11_works_137 rfl ?_
        refine u_isub (pc' := 139) dX11_works_138 rfl ?_
        obtain ⟨c7, c8, h⟩ := h
        refine u_laload (k := ((x3 + (-1)) - 1).toNat) (z := (τ 174 ((x3 + (-1)) - 1).toNat)) (pc' := 140) dX11_works_139 rfl (by decide) kd_174 c7 c8 (by decide) rfl (mm_R0_La kd_174) rfl ?_
        refine u_aload_n (i := 0) (pc' := 141) dX11_works_140 rfl rfl rfl ?_
        refine u_getR (a := 174) (pc' := 144) dX11_works_141 rfl fl_TuneDoorModel_168 rfl (by decide) kd_140 rfl ?_
        refine u_iload_n (i := 3) (pc' := 145) dX11_works_144 rfl rfl rfl ?_
        obtain ⟨c9, c10, h⟩ := h
        refine u_laload (k := (x3 + (-1)).toNat) (z := (τ 174 (x3 + (-1)).toNat)) (pc' := 146) dX11_works_145 rfl (by decide) kd_174 c9 c10 (by decide) rfl (mm_R0_La kd_174) rfl ?_
        refine u_invS (q' := qX11_made) (As := [vI (τ 165 x4.toNat), vL (τ 174 ((x3 + (-1)) - 1).toNat), vL (τ 174 (x3 + (-1)).toNat)]) (st := [vI ((x3 + (-1)) - 1), vR 174]) (pc' := 149) dX11_works_146 rfl gX11_made wm_1644 wm_1645 rfl (Nat.le_of_ble_eq_true rfl) (M0.mono h (fun v τ11 h => ?_))
        obtain ⟨r12, rfl, h⟩ := h
        show V0 E (d + 1) qX11_works 149 [some (vR 140), none, some (vI x2), some (vI (x3 + (-1))), some (vI x4), some (vI (τ 165 x4.toNat))] [vL r12, vI ((x3 + (-1)) - 1), vR 174] τ11 Q
        obtain ⟨c13, c14, h⟩ := h
        refine u_lastore (k := ((x3 + (-1)) - 1).toNat) (pc' := 150) dX11_works_149 rfl (by decide) kd_174 c13 c14 (by decide) rfl (mm_R0_La kd_174) ?_
        refine s_iinc (i := 4) (ls' := [some (vR 140), none, some (vI x2), some (vI (x3 + (-1))), some (vI (x4 + 1)), some (vI (τ 165 x4.toNat))]) (pc' := 153) dX11_works_150 rfl rfl (Nat.le_of_ble_eq_true rfl) rfl rfl ?_
        refine u_goto (tgt := 14) dX11_works_153 (by decide) ?_
        exact u_less (ls' := [some (vR 140), none, some (vI x2), some (vI (x3 + (-1))), some (vI (x4 + 1)), none]) ⟨rfl, ⟨rfl, ⟨rfl, ⟨rfl, trivial⟩⟩⟩⟩ h
      · have h := h.2 hb
        refine u_aload_n (i := 0) (pc' := 100) dX11_works_99 rfl rfl rfl ?_
        refine u_getR (a := 174) (pc' := 103) dX11_works_100 rfl fl_TuneDoorModel_168 rfl (by decide) kd_140 rfl ?_
        refine u_iload_n (i := 3) (pc' := 104) dX11_works_103 rfl rfl rfl ?_
        refine u_iconst (pc' := 105) dX11_works_104 rfl ?_
        refine u_isub (pc' := 106) dX11_works_105 rfl ?_
        refine u_lconst (z := 1) (pc' := 107) dX11_works_106 rfl (by decide) ?_
        refine u_aload_n (i := 0) (pc' := 108) dX11_works_107 rfl rfl rfl ?_
        refine u_getR (a := 174) (pc' := 111) dX11_works_108 rfl fl_TuneDoorModel_168 rfl (by decide) kd_140 rfl ?_
        refine u_iload_n (i := 3) (pc' := 112) dX11_works_111 rfl rfl rfl ?_
        refine u_iconst (pc' := 113) dX11_works_112 rfl ?_
        refine u_isub (pc' := 114) dX11_works_113 rfl ?_
        obtain ⟨c15, c16, h⟩ := h
        refine u_laload (k := (x3 - 1).toNat) (z := (τ 174 (x3 - 1).toNat)) (pc' := 115) dX11_works_114 rfl (by decide) kd_174 c15 c16 (by decide) rfl (mm_R0_La kd_174) rfl ?_
        refine u_lsub (pc' := 116) dX11_works_115 rfl ?_
        obtain ⟨c17, c18, h⟩ := h
        refine u_lastore (k := (x3 - 1).toNat) (pc' := 117) dX11_works_116 rfl (by decide) kd_174 c17 c18 (by decide) rfl (mm_R0_La kd_174) ?_
        refine u_goto (tgt := 150) dX11_works_117 (by decide) ?_
        refine s_iinc (i := 4) (ls' := [some (vR 140), none, some (vI x2), some (vI x3), some (vI (x4 + 1)), some (vI (τ 165 x4.toNat))]) (pc' := 153) dX11_works_150 rfl rfl (Nat.le_of_ble_eq_true rfl) rfl rfl ?_
        refine u_goto (tgt := 14) dX11_works_153 (by decide) ?_
        exact u_less (ls' := [some (vR 140), none, some (vI x2), some (vI x3), some (vI (x4 + 1)), none]) ⟨rfl, ⟨rfl, ⟨rfl, ⟨rfl, trivial⟩⟩⟩⟩ h
    · have h := h.2 hb
      refine u_aload_n (i := 0) (pc' := 46) dX11_works_45 rfl rfl rfl ?_
      refine u_getR (a := 174) (pc' := 49) dX11_works_46 rfl fl_TuneDoorModel_168 rfl (by decide) kd_140 rfl ?_
      refine u_iload_n (i := 3) (pc' := 50) dX11_works_49 rfl rfl rfl ?_
      refine u_iload (i := 5) (pc' := 52) dX11_works_50 rfl rfl ?_
      refine u_if_ne (tgt := 66) (pc' := 55) dX11_works_52 rfl (by decide) r6 (fun hb => ?_) (fun hb => ?_)
      · have h := h.1 hb
        refine u_iload (i := 5) (pc' := 68) dX11_works_66 rfl rfl ?_
        refine u_bipush (pc' := 70) dX11_works_68 rfl (by decide) ?_
        refine u_icmp_ne (tgt := 77) (pc' := 73) dX11_works_70 rfl (by decide) r6 ⟨by decide, by decide⟩ (fun hb => ?_) (fun hb => ?_)
        · have h := h.1 hb
          refine u_aload_n (i := 0) (pc' := 78) dX11_works_77 rfl rfl rfl ?_
          refine u_getR (a := 175) (pc' := 81) dX11_works_78 rfl fl_TuneDoorModel_171 rfl (by decide) kd_140 rfl ?_
          refine u_iload (i := 5) (pc' := 83) dX11_works_81 rfl rfl ?_
          obtain ⟨c19, c20, h⟩ := h
          refine u_iaload (k := (τ 165 x4.toNat).toNat) (z := (τ 175 (τ 165 x4.toNat).toNat)) (pc' := 84) dX11_works_83 rfl (by decide) kd_175 c19 c20 (by decide) rfl rfl (fun r21 => ?_)
          refine u_i2l (pc' := 85) dX11_works_84 rfl r21 ?_
          obtain ⟨c22, c23, h⟩ := h
          refine u_lastore (k := x3.toNat) (pc' := 86) dX11_works_85 rfl (by decide) kd_174 c22 c23 (by decide) rfl (mm_R0_La kd_174) ?_
          refine s_iinc (i := 3) (ls' := [some (vR 140), none, some (vI x2), some (vI (x3 + 1)), some (vI x4), some (vI (τ 165 x4.toNat))]) (pc' := 89) dX11_works_86 rfl rfl (Nat.le_of_ble_eq_true rfl) rfl rfl ?_
          refine u_goto (tgt := 150) dX11_works_89 (by decide) ?_
          refine s_iinc (i := 4) (ls' := [some (vR 140), none, some (vI x2), some (vI (x3 + 1)), some (vI (x4 + 1)), some (vI (τ 165 x4.toNat))]) (pc' := 153) dX11_works_150 rfl rfl (Nat.le_of_ble_eq_true rfl) rfl rfl ?_
          refine u_goto (tgt := 14) dX11_works_153 (by decide) ?_
          exact u_less (ls' := [some (vR 140), none, some (vI x2), some (vI (x3 + 1)), some (vI (x4 + 1)), none]) ⟨rfl, ⟨rfl, ⟨rfl, ⟨rfl, trivial⟩⟩⟩⟩ h
        · have h := h.2 hb
          refine u_lconst (z := 1) (pc' := 74) dX11_works_73 rfl (by decide) ?_
          refine u_goto (tgt := 85) dX11_works_74 (by decide) ?_
          obtain ⟨c24, c25, h⟩ := h
          refine u_lastore (k := x3.toNat) (pc' := 86) dX11_works_85 rfl (by decide) kd_174 c24 c25 (by decide) rfl (mm_R0_La kd_174) ?_
          refine s_iinc (i := 3) (ls' := [some (vR 140), none, some (vI x2), some (vI (x3 + 1)), some (vI x4), some (vI (τ 165 x4.toNat))]) (pc' := 89) dX11_works_86 rfl rfl (Nat.le_of_ble_eq_true rfl) rfl rfl ?_
          refine u_goto (tgt := 150) dX11_works_89 (by decide) ?_
          refine s_iinc (i := 4) (ls' := [some (vR 140), none, some (vI x2), some (vI (x3 + 1)), some (vI (x4 + 1)), some (vI (τ 165 x4.toNat))]) (pc' := 153) dX11_works_150 rfl rfl (Nat.le_of_ble_eq_true rfl) rfl rfl ?_
          refine u_goto (tgt := 14) dX11_works_153 (by decide) ?_
          exact u_less (ls' := [some (vR 140), none, some (vI x2), some (vI (x3 + 1)), some (vI (x4 + 1)), none]) ⟨rfl, ⟨rfl, ⟨rfl, ⟨rfl, trivial⟩⟩⟩⟩ h
      · have h := h.2 hb
        refine u_aload_n (i := 0) (pc' := 56) dX11_works_55 rfl rfl rfl ?_
        refine u_getR (a := 166) (pc' := 59) dX11_works_56 rfl fl_TuneDoorModel_124 rfl (by decide) kd_140 rfl ?_
        refine u_iload (i := 4) (pc' := 61) dX11_works_59 rfl rfl ?_
        obtain ⟨c26, c27, h⟩ := h
        refine u_iaload (k := x4.toNat) (z := (τ 166 x4.toNat)) (pc' := 62) dX11_works_61 rfl (by decide) kd_166 c26 c27 (by decide) rfl rfl (fun r28 => ?_)
        refine u_i2l (pc' := 63) dX11_works_62 rfl r28 ?_
        refine u_goto (tgt := 85) dX11_works_63 (by decide) ?_
        obtain ⟨c29, c30, h⟩ := h
        refine u_lastore (k := x3.toNat) (pc' := 86) dX11_works_85 rfl (by decide) kd_174 c29 c30 (by decide) rfl (mm_R0_La kd_174) ?_
        refine s_iinc (i := 3) (ls' := [some (vR 140), none, some (vI x2), some (vI (x3 + 1)), some (vI x4), some (vI (τ 165 x4.toNat))]) (pc' := 89) dX11_works_86 rfl rfl (Nat.le_of_ble_eq_true rfl) rfl rfl ?_
        refine u_goto (tgt := 150) dX11_works_89 (by decide) ?_
        refine s_iinc (i := 4) (ls' := [some (vR 140), none, some (vI x2), some (vI (x3 + 1)), some (vI (x4 + 1)), some (vI (τ 165 x4.toNat))]) (pc' := 153) dX11_works_150 rfl rfl (Nat.le_of_ble_eq_true rfl) rfl rfl ?_
        refine u_goto (tgt := 14) dX11_works_153 (by decide) ?_
        exact u_less (ls' := [some (vR 140), none, some (vI x2), some (vI (x3 + 1)), some (vI (x4 + 1)), none]) ⟨rfl, ⟨rfl, ⟨rfl, ⟨rfl, trivial⟩⟩⟩⟩ h
set_option maxRecDepth 20000 in
theorem bX11_made_0 {E : mm_Env} {d : Nat} {τ : mm_Mem} {Q : mm_Q0} {a0 : Int} {a1 : Int} {a2 : Int} (h : inR a0 ∧ ((a0 < 10 ∨ 20 < a0 → inL (a1 + a2) ∧ (((a1 + a2) ≤ 0 → Q (some (vL 0)) τ) ∧ (¬ (a1 + a2) ≤ 0 → Q (some (vL 1)) τ))) ∧ (a0 = 10 → M0 E d qX11_bounded [vL (a1 + a2)] τ (fun v τ3 => ∃ r4 : Int, v = some (vL r4) ∧ Q (some (vL r4)) τ3)) ∧ (a0 = 11 → M0 E d qX11_bounded [vL (a1 - a2)] τ (fun v τ5 => ∃ r6 : Int, v = some (vL r6) ∧ Q (some (vL r6)) τ5)) ∧ (a0 = 12 → M0 E d qX11_bounded [vL (a1 * a2)] τ (fun v τ7 => ∃ r8 : Int, v = some (vL r8) ∧ Q (some (vL r8)) τ7)) ∧ (a0 = 13 → M0 E d qX11_over [vL a1, vL a2] τ (fun v τ9 => ∃ r10 : Int, v = some (vL r10) ∧ Q (some (vL r10)) τ9)) ∧ (a0 = 14 → inL a2 ∧ ((a2 ≠ 0 → M0 E d qX11_over [vL a1, vL a2] τ (fun v τ12 => ∃ r13 : Int, v = some (vL r13) ∧ Q (some (vL (a1 - (a2 * r13)))) τ12)) ∧ (a2 = 0 → Q (some (vL 0)) τ))) ∧ (a0 = 15 → inL a1 ∧ inL a2 ∧ ((a2 ≤ a1 → Q (some (vL a2)) τ) ∧ (¬ a2 ≤ a1 → Q (some (vL a1)) τ))) ∧ (a0 = 16 → inL a1 ∧ inL a2 ∧ ((a1 ≤ a2 → Q (some (vL a2)) τ) ∧ (¬ a1 ≤ a2 → Q (some (vL a1)) τ))) ∧ (a0 = 17 → inL a1 ∧ inL a2 ∧ ((a2 ≤ a1 → Q (some (vL 0)) τ) ∧ (¬ a2 ≤ a1 → Q (some (vL 1)) τ))) ∧ (a0 = 18 → inL a1 ∧ inL a2 ∧ ((a1 ≤ a2 → Q (some (vL 0)) τ) ∧ (¬ a1 ≤ a2 → Q (some (vL 1)) τ))) ∧ (a0 = 19 → inL a1 ∧ inL a2 ∧ ((a1 ≠ a2 → Q (some (vL 0)) τ) ∧ (a1 = a2 → Q (some (vL 1)) τ))) ∧ (a0 = 20 → Q (some (vL (a1 * a2))) τ))) : V0 E (d + 1) qX11_made 0 [some (vI a0), some (vL a1), none, some (vL a2), none] [] τ Q := by
  refine u_iload_n (i := 0) (pc' := 1) dX11_made_0 rfl rfl rfl ?_
  obtain ⟨c1, h⟩ := h
  refine u_tableswitch (dt := 171) dX11_made_1 c1 (by decide) (fun hb => ?_) (fun hb hb2 => ?_)
  · have h := h.1 hb
    refine u_lload_n (i := 1) (pc' := 172) dX11_made_171 rfl rfl rfl ?_
    refine u_lload_n (i := 3) (pc' := 173) dX11_made_172 rfl rfl rfl ?_
    refine u_ladd (pc' := 174) dX11_made_173 rfl ?_
    refine u_lconst (z := 0) (pc' := 175) dX11_made_174 rfl (by decide) ?_
    obtain ⟨c2, h⟩ := h
    refine u_lcmp (pc' := 176) dX11_made_175 rfl c2 ⟨by decide, by decide⟩ ?_
    refine u_if_le (tgt := 183) (pc' := 179) dX11_made_176 rfl (by decide) (mm_cmp_R _ _) (fun hb => ?_) (fun hb => ?_)
    · have h := h.1 (mm_cmp_le.mp hb)
      refine u_lconst (z := 0) (pc' := 184) dX11_made_183 rfl (by decide) ?_
      exact u_lret dX11_made_184 rfl h
    · have h := h.2 (fun w => hb (mm_cmp_le.mpr w))
      refine u_lconst (z := 1) (pc' := 180) dX11_made_179 rfl (by decide) ?_
      refine u_goto (tgt := 184) dX11_made_180 (by decide) ?_
      exact u_lret dX11_made_184 rfl h
  · have hc : a0 = 10 ∨ a0 = 11 ∨ a0 = 12 ∨ a0 = 13 ∨ a0 = 14 ∨ a0 = 15 ∨ a0 = 16 ∨ a0 = 17 ∨ a0 = 18 ∨ a0 = 19 ∨ a0 = 20 := by omega
    rcases hc with hc | hc | hc | hc | hc | hc | hc | hc | hc | hc | hc
    · have h := h.2.1 hc
      refine ⟨59, 60, by rw [hc]; rfl, by decide, ?_⟩
      refine u_lload_n (i := 1) (pc' := 61) dX11_made_60 rfl rfl rfl ?_
      refine u_lload_n (i := 3) (pc' := 62) dX11_made_61 rfl rfl rfl ?_
      refine u_ladd (pc' := 63) dX11_made_62 rfl ?_
      refine u_invS (q' := qX11_bounded) (As := [vL (a1 + a2)]) (st := []) (pc' := 66) dX11_made_63 rfl gX11_bounded wm_1647 wm_1648 rfl (Nat.le_of_ble_eq_true rfl) (M0.mono h (fun v τ3 h => ?_))
      obtain ⟨r4, rfl, h⟩ := h
      show V0 E (d + 1) qX11_made 66 [some (vI a0), some (vL a1), none, some (vL a2), none] [vL r4] τ3 Q
      exact u_lret dX11_made_66 rfl h
    · have h := h.2.2.1 hc
      refine ⟨66, 67, by rw [hc]; rfl, by decide, ?_⟩
      refine u_lload_n (i := 1) (pc' := 68) dX11_made_67 rfl rfl rfl ?_
      refine u_lload_n (i := 3) (pc' := 69) dX11_made_68 rfl rfl rfl ?_
      refine u_lsub (pc' := 70) dX11_made_69 rfl ?_
      refine u_invS (q' := qX11_bounded) (As := [vL (a1 - a2)]) (st := []) (pc' := 73) dX11_made_70 rfl gX11_bounded wm_1647 wm_1648 rfl (Nat.le_of_ble_eq_true rfl) (M0.mono h (fun v τ5 h => ?_))
      obtain ⟨r6, rfl, h⟩ := h
      show V0 E (d + 1) qX11_made 73 [some (vI a0), some (vL a1), none, some (vL a2), none] [vL r6] τ5 Q
      exact u_lret dX11_made_73 rfl h
    · have h := h.2.2.2.1 hc
      refine ⟨73, 74, by rw [hc]; rfl, by decide, ?_⟩
      refine u_lload_n (i := 1) (pc' := 75) dX11_made_74 rfl rfl rfl ?_
      refine u_lload_n (i := 3) (pc' := 76) dX11_made_75 rfl rfl rfl ?_
      refine u_lmul (pc' := 77) dX11_made_76 rfl ?_
      refine u_invS (q' := qX11_bounded) (As := [vL (a1 * a2)]) (st := []) (pc' := 80) dX11_made_77 rfl gX11_bounded wm_1647 wm_1648 rfl (Nat.le_of_ble_eq_true rfl) (M0.mono h (fun v τ7 h => ?_))
      obtain ⟨r8, rfl, h⟩ := h
      show V0 E (d + 1) qX11_made 80 [some (vI a0), some (vL a1), none, some (vL a2), none] [vL r8] τ7 Q
      exact u_lret dX11_made_80 rfl h
    · have h := h.2.2.2.2.1 hc
      refine ⟨80, 81, by rw [hc]; rfl, by decide, ?_⟩
      refine u_lload_n (i := 1) (pc' := 82) dX11_made_81 rfl rfl rfl ?_
      refine u_lload_n (i := 3) (pc' := 83) dX11_made_82 rfl rfl rfl ?_
      refine u_invS (q' := qX11_over) (As := [vL a1, vL a2]) (st := []) (pc' := 86) dX11_made_83 rfl gX11_over wm_1652 wm_1653 rfl (Nat.le_of_ble_eq_true rfl) (M0.mono h (fun v τ9 h => ?_))
      obtain ⟨r10, rfl, h⟩ := h
      show V0 E (d + 1) qX11_made 86 [some (vI a0), some (vL a1), none, some (vL a2), none] [vL r10] τ9 Q
      exact u_lret dX11_made_86 rfl h
    · have h := h.2.2.2.2.2.1 hc
      refine ⟨86, 87, by rw [hc]; rfl, by decide, ?_⟩
      refine u_lload_n (i := 3) (pc' := 88) dX11_made_87 rfl rfl rfl ?_
      refine u_lconst (z := 0) (pc' := 89) dX11_made_88 rfl (by decide) ?_
      obtain ⟨c11, h⟩ := h
      refine u_lcmp (pc' := 90) dX11_made_89 rfl c11 ⟨by decide, by decide⟩ ?_
      refine u_if_ne (tgt := 97) (pc' := 93) dX11_made_90 rfl (by decide) (mm_cmp_R _ _) (fun hb => ?_) (fun hb => ?_)
      · have h := h.1 (mm_cmp_ne.mp hb)
        refine u_lload_n (i := 1) (pc' := 98) dX11_made_97 rfl rfl rfl ?_
        refine u_lload_n (i := 3) (pc' := 99) dX11_made_98 rfl rfl rfl ?_
        refine u_lload_n (i := 1) (pc' := 100) dX11_made_99 rfl rfl rfl ?_
        refine u_lload_n (i := 3) (pc' := 101) dX11_made_100 rfl rfl rfl ?_
        refine u_invS (q' := qX11_over) (As := [vL a1, vL a2]) (st := [vL a2, vL a1]) (pc' := 104) dX11_made_101 rfl gX11_over wm_1652 wm_1653 rfl (Nat.le_of_ble_eq_true rfl) (M0.mono h (fun v τ12 h => ?_))
        obtain ⟨r13, rfl, h⟩ := h
        show V0 E (d + 1) qX11_made 104 [some (vI a0), some (vL a1), none, some (vL a2), none] [vL r13, vL a2, vL a1] τ12 Q
        refine u_lmul (pc' := 105) dX11_made_104 rfl ?_
        refine u_lsub (pc' := 106) dX11_made_105 rfl ?_
        exact u_lret dX11_made_106 rfl h
      · have h := h.2 (mm_cmp_0.mp hb)
        refine u_lconst (z := 0) (pc' := 94) dX11_made_93 rfl (by decide) ?_
        refine u_goto (tgt := 106) dX11_made_94 (by decide) ?_
        exact u_lret dX11_made_106 rfl h
    · have h := h.2.2.2.2.2.2.1 hc
      refine ⟨106, 107, by rw [hc]; rfl, by decide, ?_⟩
      refine u_lload_n (i := 1) (pc' := 108) dX11_made_107 rfl rfl rfl ?_
      refine u_lload_n (i := 3) (pc' := 109) dX11_made_108 rfl rfl rfl ?_
      obtain ⟨c14, c15, h⟩ := h
      refine u_lcmp (pc' := 110) dX11_made_109 rfl c14 c15 ?_
      refine u_if_ge (tgt := 117) (pc' := 113) dX11_made_110 rfl (by decide) (mm_cmp_R _ _) (fun hb => ?_) (fun hb => ?_)
      · have h := h.1 (mm_cmp_ge.mp hb)
        refine u_lload_n (i := 3) (pc' := 118) dX11_made_117 rfl rfl rfl ?_
        exact u_lret dX11_made_118 rfl h
      · have h := h.2 (fun w => hb (mm_cmp_ge.mpr w))
        refine u_lload_n (i := 1) (pc' := 114) dX11_made_113 rfl rfl rfl ?_
        refine u_goto (tgt := 118) dX11_made_114 (by decide) ?_
        exact u_lret dX11_made_118 rfl h
    · have h := h.2.2.2.2.2.2.2.1 hc
      refine ⟨118, 119, by rw [hc]; rfl, by decide, ?_⟩
      refine u_lload_n (i := 1) (pc' := 120) dX11_made_119 rfl rfl rfl ?_
      refine u_lload_n (i := 3) (pc' := 121) dX11_made_120 rfl rfl rfl ?_
      obtain ⟨c16, c17, h⟩ := h
      refine u_lcmp (pc' := 122) dX11_made_121 rfl c16 c17 ?_
      refine u_if_le (tgt := 129) (pc' := 125) dX11_made_122 rfl (by decide) (mm_cmp_R _ _) (fun hb => ?_) (fun hb => ?_)
      · have h := h.1 (mm_cmp_le.mp hb)
        refine u_lload_n (i := 3) (pc' := 130) dX11_made_129 rfl rfl rfl ?_
        exact u_lret dX11_made_130 rfl h
      · have h := h.2 (fun w => hb (mm_cmp_le.mpr w))
        refine u_lload_n (i := 1) (pc' := 126) dX11_made_125 rfl rfl rfl ?_
        refine u_goto (tgt := 130) dX11_made_126 (by decide) ?_
        exact u_lret dX11_made_130 rfl h
    · have h := h.2.2.2.2.2.2.2.2.1 hc
      refine ⟨130, 131, by rw [hc]; rfl, by decide, ?_⟩
      refine u_lload_n (i := 1) (pc' := 132) dX11_made_131 rfl rfl rfl ?_
      refine u_lload_n (i := 3) (pc' := 133) dX11_made_132 rfl rfl rfl ?_
      obtain ⟨c18, c19, h⟩ := h
      refine u_lcmp (pc' := 134) dX11_made_133 rfl c18 c19 ?_
      refine u_if_ge (tgt := 141) (pc' := 137) dX11_made_134 rfl (by decide) (mm_cmp_R _ _) (fun hb => ?_) (fun hb => ?_)
      · have h := h.1 (mm_cmp_ge.mp hb)
        refine u_lconst (z := 0) (pc' := 142) dX11_made_141 rfl (by decide) ?_
        exact u_lret dX11_made_142 rfl h
      · have h := h.2 (fun w => hb (mm_cmp_ge.mpr w))
        refine u_lconst (z := 1) (pc' := 138) dX11_made_137 rfl (by decide) ?_
        refine u_goto (tgt := 142) dX11_made_138 (by decide) ?_
        exact u_lret dX11_made_142 rfl h
    · have h := h.2.2.2.2.2.2.2.2.2.1 hc
      refine ⟨142, 143, by rw [hc]; rfl, by decide, ?_⟩
      refine u_lload_n (i := 1) (pc' := 144) dX11_made_143 rfl rfl rfl ?_
      refine u_lload_n (i := 3) (pc' := 145) dX11_made_144 rfl rfl rfl ?_
      obtain ⟨c20, c21, h⟩ := h
      refine u_lcmp (pc' := 146) dX11_made_145 rfl c20 c21 ?_
      refine u_if_le (tgt := 153) (pc' := 149) dX11_made_146 rfl (by decide) (mm_cmp_R _ _) (fun hb => ?_) (fun hb => ?_)
      · have h := h.1 (mm_cmp_le.mp hb)
        refine u_lconst (z := 0) (pc' := 154) dX11_made_153 rfl (by decide) ?_
        exact u_lret dX11_made_154 rfl h
      · have h := h.2 (fun w => hb (mm_cmp_le.mpr w))
        refine u_lconst (z := 1) (pc' := 150) dX11_made_149 rfl (by decide) ?_
        refine u_goto (tgt := 154) dX11_made_150 (by decide) ?_
        exact u_lret dX11_made_154 rfl h
    · have h := h.2.2.2.2.2.2.2.2.2.2.1 hc
      refine ⟨154, 155, by rw [hc]; rfl, by decide, ?_⟩
      refine u_lload_n (i := 1) (pc' := 156) dX11_made_155 rfl rfl rfl ?_
      refine u_lload_n (i := 3) (pc' := 157) dX11_made_156 rfl rfl rfl ?_
      obtain ⟨c22, c23, h⟩ := h
      refine u_lcmp (pc' := 158) dX11_made_157 rfl c22 c23 ?_
      refine u_if_ne (tgt := 165) (pc' := 161) dX11_made_158 rfl (by decide) (mm_cmp_R _ _) (fun hb => ?_) (fun hb => ?_)
      · have h := h.1 (mm_cmp_ne.mp hb)
        refine u_lconst (z := 0) (pc' := 166) dX11_made_165 rfl (by decide) ?_
        exact u_lret dX11_made_166 rfl h
      · have h := h.2 (mm_cmp_0.mp hb)
        refine u_lconst (z := 1) (pc' := 162) dX11_made_161 rfl (by decide) ?_
        refine u_goto (tgt := 166) dX11_made_162 (by decide) ?_
        exact u_lret dX11_made_166 rfl h
    · have h := h.2.2.2.2.2.2.2.2.2.2.2 hc
      refine ⟨166, 167, by rw [hc]; rfl, by decide, ?_⟩
      refine u_lload_n (i := 1) (pc' := 168) dX11_made_167 rfl rfl rfl ?_
      refine u_lload_n (i := 3) (pc' := 169) dX11_made_168 rfl rfl rfl ?_
      refine u_lmul (pc' := 170) dX11_made_169 rfl ?_
      exact u_lret dX11_made_170 rfl h
theorem mX11_made {E : mm_Env} {d : Nat} {τ : mm_Mem} {Q : mm_Q0} {a0 : Int} {a1 : Int} {a2 : Int} (h : inR a0 ∧ ((a0 < 10 ∨ 20 < a0 → inL (a1 + a2) ∧ (((a1 + a2) ≤ 0 → Q (some (vL 0)) τ) ∧ (¬ (a1 + a2) ≤ 0 → Q (some (vL 1)) τ))) ∧ (a0 = 10 → M0 E d qX11_bounded [vL (a1 + a2)] τ (fun v τ3 => ∃ r4 : Int, v = some (vL r4) ∧ Q (some (vL r4)) τ3)) ∧ (a0 = 11 → M0 E d qX11_bounded [vL (a1 - a2)] τ (fun v τ5 => ∃ r6 : Int, v = some (vL r6) ∧ Q (some (vL r6)) τ5)) ∧ (a0 = 12 → M0 E d qX11_bounded [vL (a1 * a2)] τ (fun v τ7 => ∃ r8 : Int, v = some (vL r8) ∧ Q (some (vL r8)) τ7)) ∧ (a0 = 13 → M0 E d qX11_over [vL a1, vL a2] τ (fun v τ9 => ∃ r10 : Int, v = some (vL r10) ∧ Q (some (vL r10)) τ9)) ∧ (a0 = 14 → inL a2 ∧ ((a2 ≠ 0 → M0 E d qX11_over [vL a1, vL a2] τ (fun v τ12 => ∃ r13 : Int, v = some (vL r13) ∧ Q (some (vL (a1 - (a2 * r13)))) τ12)) ∧ (a2 = 0 → Q (some (vL 0)) τ))) ∧ (a0 = 15 → inL a1 ∧ inL a2 ∧ ((a2 ≤ a1 → Q (some (vL a2)) τ) ∧ (¬ a2 ≤ a1 → Q (some (vL a1)) τ))) ∧ (a0 = 16 → inL a1 ∧ inL a2 ∧ ((a1 ≤ a2 → Q (some (vL a2)) τ) ∧ (¬ a1 ≤ a2 → Q (some (vL a1)) τ))) ∧ (a0 = 17 → inL a1 ∧ inL a2 ∧ ((a2 ≤ a1 → Q (some (vL 0)) τ) ∧ (¬ a2 ≤ a1 → Q (some (vL 1)) τ))) ∧ (a0 = 18 → inL a1 ∧ inL a2 ∧ ((a1 ≤ a2 → Q (some (vL 0)) τ) ∧ (¬ a1 ≤ a2 → Q (some (vL 1)) τ))) ∧ (a0 = 19 → inL a1 ∧ inL a2 ∧ ((a1 ≠ a2 → Q (some (vL 0)) τ) ∧ (a1 = a2 → Q (some (vL 1)) τ))) ∧ (a0 = 20 → Q (some (vL (a1 * a2))) τ))) : M0 E (d + 1) qX11_made [vI a0, vL a1, vL a2] τ Q := M0_of rfl (Nat.le_of_ble_eq_true rfl) [some (vI a0), some (vL a1), none, some (vL a2), none] rfl (bX11_made_0  h)
