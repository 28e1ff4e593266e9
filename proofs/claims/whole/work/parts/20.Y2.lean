set_option maxRecDepth 20000 in
theorem bX11_bounded_0 {E : mm_Env} {d : Nat} {τ : mm_Mem} {Q : mm_Q0} {a0 : Int} (h : inL a0 ∧ ((a0 ≤ 1000000 → (((-1000000) ≤ a0 → Q (some (vL a0)) τ) ∧ (¬ (-1000000) ≤ a0 → Q (some (vL (-1000000))) τ))) ∧ (¬ a0 ≤ 1000000 → Q (some (vL 1000000)) τ))) : V0 E d qX11_bounded 0 [some (vL a0), none] [] τ Q := by
  refine u_lload_n (i := 0) (pc' := 1) dX11_bounded_0 rfl rfl rfl ?_
  refine u_ldc2 (z := 1000000) (pc' := 4) dX11_bounded_1 rfl wm_1650 (by decide) ?_
  obtain ⟨c1, h⟩ := h
  refine u_lcmp (pc' := 5) dX11_bounded_4 rfl c1 ⟨by decide, by decide⟩ ?_
  refine u_if_le (tgt := 14) (pc' := 8) dX11_bounded_5 rfl (by decide) (mm_cmp_R _ _) (fun hb => ?_) (fun hb => ?_)
  · have h := h.1 (mm_cmp_le.mp hb)
    refine u_lload_n (i := 0) (pc' := 15) dX11_bounded_14 rfl rfl rfl ?_
    refine u_ldc2 (z := (-1000000)) (pc' := 18) dX11_bounded_15 rfl wm_1651 (by decide) ?_
    refine u_lcmp (pc' := 19) dX11_bounded_18 rfl c1 ⟨by decide, by decide⟩ ?_
    refine u_if_ge (tgt := 28) (pc' := 22) dX11_bounded_19 rfl (by decide) (mm_cmp_R _ _) (fun hb => ?_) (fun hb => ?_)
    · have h := h.1 (mm_cmp_ge.mp hb)
      refine u_lload_n (i := 0) (pc' := 29) dX11_bounded_28 rfl rfl rfl ?_
      exact u_lret dX11_bounded_29 rfl h
    · have h := h.2 (fun w => hb (mm_cmp_ge.mpr w))
      refine u_ldc2 (z := (-1000000)) (pc' := 25) dX11_bounded_22 rfl wm_1651 (by decide) ?_
      refine u_goto (tgt := 29) dX11_bounded_25 (by decide) ?_
      exact u_lret dX11_bounded_29 rfl h
  · have h := h.2 (fun w => hb (mm_cmp_le.mpr w))
    refine u_ldc2 (z := 1000000) (pc' := 11) dX11_bounded_8 rfl wm_1650 (by decide) ?_
    refine u_goto (tgt := 29) dX11_bounded_11 (by decide) ?_
    exact u_lret dX11_bounded_29 rfl h
theorem mX11_bounded {E : mm_Env} {d : Nat} {τ : mm_Mem} {Q : mm_Q0} {a0 : Int} (h : inL a0 ∧ ((a0 ≤ 1000000 → (((-1000000) ≤ a0 → Q (some (vL a0)) τ) ∧ (¬ (-1000000) ≤ a0 → Q (some (vL (-1000000))) τ))) ∧ (¬ a0 ≤ 1000000 → Q (some (vL 1000000)) τ))) : M0 E d qX11_bounded [vL a0] τ Q := M0_of rfl (Nat.le_of_ble_eq_true rfl) [some (vL a0), none] rfl (bX11_bounded_0  h)
set_option maxRecDepth 20000 in
theorem bX11_over_0 {E : mm_Env} {d : Nat} {τ : mm_Mem} {Q : mm_Q0} {a0 : Int} {a1 : Int} (h : inL a1 ∧ ((a1 ≠ 0 → inL a0 ∧ a1 ≠ 0 ∧ a1 ≠ 0 ∧ inL (Int.tmod a0 a1) ∧ (((Int.tmod a0 a1) = 0 → Q (some (vL (Int.tdiv a0 a1))) τ) ∧ (¬ (Int.tmod a0 a1) = 0 → ((0 ≤ a0 → ((0 ≤ a1 → Q (some (vL (Int.tdiv a0 a1))) τ) ∧ (¬ 0 ≤ a1 → Q (some (vL ((Int.tdiv a0 a1) - 1))) τ))) ∧ (¬ 0 ≤ a0 → ((0 ≤ a1 → Q (some (vL ((Int.tdiv a0 a1) - 1))) τ) ∧ (¬ 0 ≤ a1 → Q (some (vL (Int.tdiv a0 a1))) τ))))))) ∧ (a1 = 0 → Q (some (vL 0)) τ))) : V0 E d qX11_over 0 [some (vL a0), none, some (vL a1), none, none, none] [] τ Q := by
  refine u_lload_n (i := 2) (pc' := 1) dX11_over_0 rfl rfl rfl ?_
  refine u_lconst (z := 0) (pc' := 2) dX11_over_1 rfl (by decide) ?_
  obtain ⟨c1, h⟩ := h
  refine u_lcmp (pc' := 3) dX11_over_2 rfl c1 ⟨by decide, by decide⟩ ?_
  refine u_if_ne (tgt := 8) (pc' := 6) dX11_over_3 rfl (by decide) (mm_cmp_R _ _) (fun hb => ?_) (fun hb => ?_)
  · have h := h.1 (mm_cmp_ne.mp hb)
    refine u_lload_n (i := 0) (pc' := 9) dX11_over_8 rfl rfl rfl ?_
    refine u_lload_n (i := 2) (pc' := 10) dX11_over_9 rfl rfl rfl ?_
    obtain ⟨c2, c3, h⟩ := h
    refine u_ldiv (pc' := 11) dX11_over_10 rfl c2 c1 c3 ?_
    refine s_lstore (i := 4) (ls' := [some (vL a0), none, some (vL a1), none, some (vL (Int.tdiv a0 a1)), none]) (pc' := 13) dX11_over_11 rfl (Nat.le_of_ble_eq_true rfl) rfl rfl ?_
    refine u_lload_n (i := 0) (pc' := 14) dX11_over_13 rfl rfl rfl ?_
    refine u_lload_n (i := 2) (pc' := 15) dX11_over_14 rfl rfl rfl ?_
    obtain ⟨c4, h⟩ := h
    refine u_lrem (pc' := 16) dX11_over_15 rfl c2 c1 c4 ?_
    refine u_lconst (z := 0) (pc' := 17) dX11_over_16 rfl (by decide) ?_
    obtain ⟨c5, h⟩ := h
    refine u_lcmp (pc' := 18) dX11_over_17 rfl c5 ⟨by decide, by decide⟩ ?_
    refine u_if_eq (tgt := 53) (pc' := 21) dX11_over_18 rfl (by decide) (mm_cmp_R _ _) (fun hb => ?_) (fun hb => ?_)
    · have h := h.1 (mm_cmp_0.mp hb)
      refine u_lload (i := 4) (pc' := 55) dX11_over_53 rfl rfl ?_
      exact u_lret dX11_over_55 rfl h
    · have h := h.2 (fun w => hb (mm_cmp_0.mpr w))
      refine u_lload_n (i := 0) (pc' := 22) dX11_over_21 rfl rfl rfl ?_
      refine u_lconst (z := 0) (pc' := 23) dX11_over_22 rfl (by decide) ?_
      refine u_lcmp (pc' := 24) dX11_over_23 rfl c2 ⟨by decide, by decide⟩ ?_
      refine u_if_ge (tgt := 31) (pc' := 27) dX11_over_24 rfl (by decide) (mm_cmp_R _ _) (fun hb => ?_) (fun hb => ?_)
      · have h := h.1 (mm_cmp_ge.mp hb)
        refine u_iconst (pc' := 32) dX11_over_31 rfl ?_
        refine u_lload_n (i := 2) (pc' := 33) dX11_over_32 rfl rfl rfl ?_
        refine u_lconst (z := 0) (pc' := 34) dX11_over_33 rfl (by decide) ?_
        refine u_lcmp (pc' := 35) dX11_over_34 rfl c1 ⟨by decide, by decide⟩ ?_
        refine u_if_ge (tgt := 42) (pc' := 38) dX11_over_35 rfl (by decide) (mm_cmp_R _ _) (fun hb => ?_) (fun hb => ?_)
        · have h := h.1 (mm_cmp_ge.mp hb)
          refine u_iconst (pc' := 43) dX11_over_42 rfl ?_
          refine u_icmp_eq (tgt := 53) (pc' := 46) dX11_over_43 rfl (by decide) ⟨by decide, by decide⟩ ⟨by decide, by decide⟩ (fun _ => ?_) (fun hb => absurd hb (by decide))
          refine u_lload (i := 4) (pc' := 55) dX11_over_53 rfl rfl ?_
          exact u_lret dX11_over_55 rfl h
        · have h := h.2 (fun w => hb (mm_cmp_ge.mpr w))
          refine u_iconst (pc' := 39) dX11_over_38 rfl ?_
          refine u_goto (tgt := 43) dX11_over_39 (by decide) ?_
          refine u_icmp_eq (tgt := 53) (pc' := 46) dX11_over_43 rfl (by decide) ⟨by decide, by decide⟩ ⟨by decide, by decide⟩ (fun hb => absurd hb (by decide)) (fun _ => ?_)
          refine u_lload (i := 4) (pc' := 48) dX11_over_46 rfl rfl ?_
          refine u_lconst (z := 1) (pc' := 49) dX11_over_48 rfl (by decide) ?_
          refine u_lsub (pc' := 50) dX11_over_49 rfl ?_
          refine u_goto (tgt := 55) dX11_over_50 (by decide) ?_
          exact u_lret dX11_over_55 rfl h
      · have h := h.2 (fun w => hb (mm_cmp_ge.mpr w))
        refine u_iconst (pc' := 28) dX11_over_27 rfl ?_
        refine u_goto (tgt := 32) dX11_over_28 (by decide) ?_
        refine u_lload_n (i := 2) (pc' := 33) dX11_over_32 rfl rfl rfl ?_
        refine u_lconst (z := 0) (pc' := 34) dX11_over_33 rfl (by decide) ?_
        refine u_lcmp (pc' := 35) dX11_over_34 rfl c1 ⟨by decide, by decide⟩ ?_
        refine u_if_ge (tgt := 42) (pc' := 38) dX11_over_35 rfl (by decide) (mm_cmp_R _ _) (fun hb => ?_) (fun hb => ?_)
        · have h := h.1 (mm_cmp_ge.mp hb)
          refine u_iconst (pc' := 43) dX11_over_42 rfl ?_
          refine u_icmp_eq (tgt := 53) (pc' := 46) dX11_over_43 rfl (by decide) ⟨by decide, by decide⟩ ⟨by decide, by decide⟩ (fun hb => absurd hb (by decide)) (fun _ => ?_)
          refine u_lload (i := 4) (pc' := 48) dX11_over_46 rfl rfl ?_
          refine u_lconst (z := 1) (pc' := 49) dX11_over_48 rfl (by decide) ?_
          refine u_lsub (pc' := 50) dX11_over_49 rfl ?_
          refine u_goto (tgt := 55) dX11_over_50 (by decide) ?_
          exact u_lret dX11_over_55 rfl h
        · have h := h.2 (fun w => hb (mm_cmp_ge.mpr w))
          refine u_iconst (pc' := 39) dX11_over_38 rfl ?_
          refine u_goto (tgt := 43) dX11_over_39 (by decide) ?_
          refine u_icmp_eq (tgt := 53) (pc' := 46) dX11_over_43 rfl (by decide) ⟨by decide, by decide⟩ ⟨by decide, by decide⟩ (fun _ => ?_) (fun hb => absurd hb (by decide))
          refine u_lload (i := 4) (pc' := 55) dX11_over_53 rfl rfl ?_
          exact u_lret dX11_over_55 rfl h
  · have h := h.2 (mm_cmp_0.mp hb)
    refine u_lconst (z := 0) (pc' := 7) dX11_over_6 rfl (by decide) ?_
    exact u_lret dX11_over_7 rfl h
theorem mX11_over {E : mm_Env} {d : Nat} {τ : mm_Mem} {Q : mm_Q0} {a0 : Int} {a1 : Int} (h : inL a1 ∧ ((a1 ≠ 0 → inL a0 ∧ a1 ≠ 0 ∧ a1 ≠ 0 ∧ inL (Int.tmod a0 a1) ∧ (((Int.tmod a0 a1) = 0 → Q (some (vL (Int.tdiv a0 a1))) τ) ∧ (¬ (Int.tmod a0 a1) = 0 → ((0 ≤ a0 → ((0 ≤ a1 → Q (some (vL (Int.tdiv a0 a1))) τ) ∧ (¬ 0 ≤ a1 → Q (some (vL ((Int.tdiv a0 a1) - 1))) τ))) ∧ (¬ 0 ≤ a0 → ((0 ≤ a1 → Q (some (vL ((Int.tdiv a0 a1) - 1))) τ) ∧ (¬ 0 ≤ a1 → Q (some (vL (Int.tdiv a0 a1))) τ))))))) ∧ (a1 = 0 → Q (some (vL 0)) τ))) : M0 E d qX11_over [vL a0, vL a1] τ Q := M0_of rfl (Nat.le_of_ble_eq_true rfl) [some (vL a0), none, some (vL a1), none, none, none] rfl (bX11_over_0  h)
set_option maxRecDepth 20000 in
theorem bX11_numberAt_0 {E : mm_Env} {d : Nat} {τ : mm_Mem} {Q : mm_Q0} {a0 : Int} (h : V0 E d qX11_numberAt 4 [some (vR 140), some (vI a0), some (vI 0), some (vI 0)] [] τ Q) : V0 E d qX11_numberAt 0 [some (vR 140), some (vI a0), none, none] [] τ Q := by
  refine u_iconst (pc' := 1) dX11_numberAt_0 rfl ?_
  refine s_istore_n (i := 2) (ls' := [some (vR 140), some (vI a0), some (vI 0), none]) (pc' := 2) dX11_numberAt_1 rfl rfl (Nat.le_of_ble_eq_true rfl) rfl rfl ?_
  refine u_iconst (pc' := 3) dX11_numberAt_2 rfl ?_
  refine s_istore_n (i := 3) (ls' := [some (vR 140), some (vI a0), some (vI 0), some (vI 0)]) (pc' := 4) dX11_numberAt_3 rfl rfl (Nat.le_of_ble_eq_true rfl) rfl rfl ?_
  exact u_less (ls' := [some (vR 140), some (vI a0), some (vI 0), some (vI 0)]) ⟨rfl, ⟨rfl, ⟨rfl, ⟨rfl, trivial⟩⟩⟩⟩ h
theorem mX11_numberAt {E : mm_Env} {d : Nat} {τ : mm_Mem} {Q : mm_Q0} {a0 : Int} (h : V0 E d qX11_numberAt 4 [some (vR 140), some (vI a0), some (vI 0), some (vI 0)] [] τ Q) : M0 E d qX11_numberAt [vR 140, vI a0] τ Q := M0_of rfl (Nat.le_of_ble_eq_true rfl) [some (vR 140), some (vI a0), none, none] rfl (bX11_numberAt_0  h)
set_option maxRecDepth 20000 in
theorem bX11_numberAt_4 {E : mm_Env} {d : Nat} {τ : mm_Mem} {Q : mm_Q0} {x1 : Int} {x2 : Int} {x3 : Int} (h : 0 ≤ (τ 140 12) ∧ (τ 140 12) < 2 ∧ inR x3 ∧ (((τ 143 (τ 140 12).toNat) ≤ x3 → Q (some (vI x2)) τ) ∧ (¬ (τ 143 (τ 140 12).toNat) ≤ x3 → 0 ≤ (τ 140 12) ∧ (τ 140 12) < 2 ∧ 0 ≤ ((5 * x1) + x3) ∧ ((5 * x1) + x3) < 15000 ∧ V0 E d qX11_numberAt 4 [some (vR 140), some (vI x1), some (vI ((x2 * (τ 142 (τ 140 12).toNat)) + (τ 176 ((5 * x1) + x3).toNat))), some (vI (x3 + 1))] [] τ Q))) : V0 E d qX11_numberAt 4 [some (vR 140), some (vI x1), some (vI x2), some (vI x3)] [] τ Q := by
  refine u_iload_n (i := 3) (pc' := 5) dX11_numberAt_4 rfl rfl rfl ?_
  refine u_aload_n (i := 0) (pc' := 6) dX11_numberAt_5 rfl rfl rfl ?_
  refine u_getR (a := 143) (pc' := 9) dX11_numberAt_6 rfl fl_TuneDoorModel_54 rfl (by decide) kd_140 rfl ?_
  refine u_aload_n (i := 0) (pc' := 10) dX11_numberAt_9 rfl rfl rfl ?_
  refine u_getI (z := (τ 140 12)) (pc' := 13) dX11_numberAt_10 rfl fl_TuneDoorModel_48 rfl (by decide) (by decide) kd_140 rfl (fun r1 => ?_)
  obtain ⟨c2, c3, h⟩ := h
  refine u_iaload (k := (τ 140 12).toNat) (z := (τ 143 (τ 140 12).toNat)) (pc' := 14) dX11_numberAt_13 rfl (by decide) kd_143 c2 c3 (by decide) rfl rfl (fun r4 => ?_)
  obtain ⟨c5, h⟩ := h
  refine u_icmp_ge (tgt := 46) (pc' := 17) dX11_numberAt_14 rfl (by decide) c5 r4 (fun hb => ?_) (fun hb => ?_)
  · have h := h.1 hb
    refine u_iload_n (i := 2) (pc' := 47) dX11_numberAt_46 rfl rfl rfl ?_
    exact u_iret dX11_numberAt_47 rfl h
  · have h := h.2 hb
    refine u_iload_n (i := 2) (pc' := 18) dX11_numberAt_17 rfl rfl rfl ?_
    refine u_aload_n (i := 0) (pc' := 19) dX11_numberAt_18 rfl rfl rfl ?_
    refine u_getR (a := 142) (pc' := 22) dX11_numberAt_19 rfl fl_TuneDoorModel_51 rfl (by decide) kd_140 rfl ?_
    refine u_aload_n (i := 0) (pc' := 23) dX11_numberAt_22 rfl rfl rfl ?_
    refine u_getI (z := (τ 140 12)) (pc' := 26) dX11_numberAt_23 rfl fl_TuneDoorModel_48 rfl (by decide) (by decide) kd_140 rfl (fun r6 => ?_)
    obtain ⟨c7, c8, h⟩ := h
    refine u_iaload (k := (τ 140 12).toNat) (z := (τ 142 (τ 140 12).toNat)) (pc' := 27) dX11_numberAt_26 rfl (by decide) kd_142 c7 c8 (by decide) rfl rfl (fun r9 => ?_)
    refine u_imul (pc' := 28) dX11_numberAt_27 rfl ?_
    refine u_aload_n (i := 0) (pc' := 29) dX11_numberAt_28 rfl rfl rfl ?_
    refine u_getR (a := 176) (pc' := 32) dX11_numberAt_29 rfl fl_TuneDoorModel_174 rfl (by decide) kd_140 rfl ?_
    refine u_iconst (pc' := 33) dX11_numberAt_32 rfl ?_
    refine u_iload_n (i := 1) (pc' := 34) dX11_numberAt_33 rfl rfl rfl ?_
    refine u_imul (pc' := 35) dX11_numberAt_34 rfl ?_
    refine u_iload_n (i := 3) (pc' := 36) dX11_numberAt_35 rfl rfl rfl ?_
    refine u_iadd (pc' := 37) dX11_numberAt_36 rfl ?_
    obtain ⟨c10, c11, h⟩ := h
    refine u_iaload (k := ((5 * x1) + x3).toNat) (z := (τ 176 ((5 * x1) + x3).toNat)) (pc' := 38) dX11_numberAt_37 rfl (by decide) kd_176 c10 c11 (by decide) rfl rfl (fun r12 => ?_)
    refine u_iadd (pc' := 39) dX11_numberAt_38 rfl ?_
    refine s_istore_n (i := 2) (ls' := [some (vR 140), some (vI x1), some (vI ((x2 * (τ 142 (τ 140 12).toNat)) + (τ 176 ((5 * x1) + x3).toNat))), some (vI x3)]) (pc' := 40) dX11_numberAt_39 rfl rfl (Nat.le_of_ble_eq_true rfl) rfl rfl ?_
    refine s_iinc (i := 3) (ls' := [some (vR 140), some (vI x1), some (vI ((x2 * (τ 142 (τ 140 12).toNat)) + (τ 176 ((5 * x1) + x3).toNat))), some (vI (x3 + 1))]) (pc' := 43) dX11_numberAt_40 rfl rfl (Nat.le_of_ble_eq_true rfl) rfl rfl ?_
    refine u_goto (tgt := 4) dX11_numberAt_43 (by decide) ?_
    exact u_less (ls' := [some (vR 140), some (vI x1), some (vI ((x2 * (τ 142 (τ 140 12).toNat)) + (τ 176 ((5 * x1) + x3).toNat))), some (vI (x3 + 1))]) ⟨rfl, ⟨rfl, ⟨rfl, ⟨rfl, trivial⟩⟩⟩⟩ h
set_option maxRecDepth 20000 in
theorem bX11_fault_0 {E : mm_Env} {d : Nat} {τ : mm_Mem} {Q : mm_Q0} {a0 : Int} (h : inR a0 ∧ ((a0 ≠ 0 → ((a0 ≠ 1 → Q (some (vI (-1))) τ) ∧ (a0 = 1 → Q (some (vI (τ 140 11))) τ))) ∧ (a0 = 0 → Q (some (vI (τ 140 10))) τ))) : V0 E d qX11_fault 0 [some (vR 140), some (vI a0)] [] τ Q := by
  refine u_iload_n (i := 1) (pc' := 1) dX11_fault_0 rfl rfl rfl ?_
  obtain ⟨c1, h⟩ := h
  refine u_if_ne (tgt := 11) (pc' := 4) dX11_fault_1 rfl (by decide) c1 (fun hb => ?_) (fun hb => ?_)
  · have h := h.1 hb
    refine u_iload_n (i := 1) (pc' := 12) dX11_fault_11 rfl rfl rfl ?_
    refine u_iconst (pc' := 13) dX11_fault_12 rfl ?_
    refine u_icmp_ne (tgt := 23) (pc' := 16) dX11_fault_13 rfl (by decide) c1 ⟨by decide, by decide⟩ (fun hb => ?_) (fun hb => ?_)
    · have h := h.1 hb
      refine u_iconst (pc' := 24) dX11_fault_23 rfl ?_
      exact u_iret dX11_fault_24 rfl h
    · have h := h.2 hb
      refine u_aload_n (i := 0) (pc' := 17) dX11_fault_16 rfl rfl rfl ?_
      refine u_getI (z := (τ 140 11)) (pc' := 20) dX11_fault_17 rfl fl_TuneDoorModel_45 rfl (by decide) (by decide) kd_140 rfl (fun r2 => ?_)
      refine u_goto (tgt := 24) dX11_fault_20 (by decide) ?_
      exact u_iret dX11_fault_24 rfl h
  · have h := h.2 hb
    refine u_aload_n (i := 0) (pc' := 5) dX11_fault_4 rfl rfl rfl ?_
    refine u_getI (z := (τ 140 10)) (pc' := 8) dX11_fault_5 rfl fl_TuneDoorModel_42 rfl (by decide) (by decide) kd_140 rfl (fun r3 => ?_)
    refine u_goto (tgt := 24) dX11_fault_8 (by decide) ?_
    exact u_iret dX11_fault_24 rfl h
theorem mX11_fault {E : mm_Env} {d : Nat} {τ : mm_Mem} {Q : mm_Q0} {a0 : Int} (h : inR a0 ∧ ((a0 ≠ 0 → ((a0 ≠ 1 → Q (some (vI (-1))) τ) ∧ (a0 = 1 → Q (some (vI (τ 140 11))) τ))) ∧ (a0 = 0 → Q (some (vI (τ 140 10))) τ))) : M0 E d qX11_fault [vR 140, vI a0] τ Q := M0_of rfl (Nat.le_of_ble_eq_true rfl) [some (vR 140), some (vI a0)] rfl (bX11_fault_0  h)
set_option maxRecDepth 20000 in
theorem bX11_status_0 {E : mm_Env} {d : Nat} {τ : mm_Mem} {Q : mm_Q0} {a0 : Int} (h : M0 E d qX11_is [vI a0, vI 0, vI 5] τ (fun v τ1 => ∃ b2 : Bool, v = some (vB b2) ∧ ((b2 = false → Q (some (vI (-1))) τ1) ∧ (b2 = true → 0 ≤ a0 ∧ a0 < 6 ∧ Q (some (vI (τ1 173 a0.toNat))) τ1)))) : V0 E (d + 1) qX11_status 0 [some (vR 140), some (vI a0)] [] τ Q := by
  refine u_iload_n (i := 1) (pc' := 1) dX11_status_0 rfl rfl rfl ?_
  refine u_iconst (pc' := 2) dX11_status_1 rfl ?_
  refine u_iconst (pc' := 3) dX11_status_2 rfl ?_
  refine u_invS (q' := qX11_is) (As := [vI a0, vI 0, vI 5]) (st := []) (pc' := 6) dX11_status_3 rfl gX11_is wm_1495 wm_1496 rfl (Nat.le_of_ble_eq_true rfl) (M0.mono h (fun v τ1 h => ?_))
  obtain ⟨b2, rfl, h⟩ := h
  show V0 E (d + 1) qX11_status 6 [some (vR 140), some (vI a0)] [vB b2] τ1 Q
  refine u_if_eq (tgt := 18) (pc' := 9) dX11_status_6 rfl (by decide) (bI_R _) (fun hb => ?_) (fun hb => ?_)
  · have h := h.1 (bI_0.mp hb)
    refine u_iconst (pc' := 19) dX11_status_18 rfl ?_
    exact u_iret dX11_status_19 rfl h
  · have h := h.2 (bI_n0.mp hb)
    refine u_aload_n (i := 0) (pc' := 10) dX11_status_9 rfl rfl rfl ?_
    refine u_getR (a := 173) (pc' := 13) dX11_status_10 rfl fl_TuneDoorModel_165 rfl (by decide) kd_140 rfl ?_
    refine u_iload_n (i := 1) (pc' := 14) dX11_status_13 rfl rfl rfl ?_
    obtain ⟨c3, c4, h⟩ := h
    refine u_iaload (k := a0.toNat) (z := (τ1 173 a0.toNat)) (pc' := 15) dX11_status_14 rfl (by decide) kd_173 c3 c4 (by decide) rfl rfl (fun r5 => ?_)
    refine u_goto (tgt := 19) dX11_status_15 (by decide) ?_
    exact u_iret dX11_status_19 rfl h
theorem mX11_status {E : mm_Env} {d : Nat} {τ : mm_Mem} {Q : mm_Q0} {a0 : Int} (h : M0 E d qX11_is [vI a0, vI 0, vI 5] τ (fun v τ1 => ∃ b2 : Bool, v = some (vB b2) ∧ ((b2 = false → Q (some (vI (-1))) τ1) ∧ (b2 = true → 0 ≤ a0 ∧ a0 < 6 ∧ Q (some (vI (τ1 173 a0.toNat))) τ1)))) : M0 E (d + 1) qX11_status [vR 140, vI a0] τ Q := M0_of rfl (Nat.le_of_ble_eq_true rfl) [some (vR 140), some (vI a0)] rfl (bX11_status_0  h)
set_option maxRecDepth 20000 in
theorem bX11_has_0 {E : mm_Env} {d : Nat} {τ : mm_Mem} {Q : mm_Q0} {a0 : Int} (h : inR a0 ∧ ((a0 < 0 ∨ 9 < a0 → Q (some (vI (-1))) τ) ∧ (a0 = 0 → 0 ≤ (τ 140 12) ∧ (τ 140 12) < 2 ∧ Q (some (vI (τ 142 (τ 140 12).toNat))) τ) ∧ (a0 = 1 → 0 ≤ (τ 140 12) ∧ (τ 140 12) < 2 ∧ Q (some (vI (τ 143 (τ 140 12).toNat))) τ) ∧ (a0 = 2 → 0 ≤ (τ 140 12) ∧ (τ 140 12) < 2 ∧ Q (some (vI (τ 144 (τ 140 12).toNat))) τ) ∧ (a0 = 3 → 0 ≤ (τ 140 12) ∧ (τ 140 12) < 2 ∧ Q (some (vI (τ 152 (τ 140 12).toNat))) τ) ∧ (a0 = 4 → 0 ≤ (τ 140 12) ∧ (τ 140 12) < 2 ∧ Q (some (vI (τ 157 (τ 140 12).toNat))) τ) ∧ (a0 = 5 → 0 ≤ (3 * (τ 140 12)) ∧ (3 * (τ 140 12)) < 6 ∧ Q (some (vI (τ 148 (3 * (τ 140 12)).toNat))) τ) ∧ (a0 = 6 → 0 ≤ ((3 * (τ 140 12)) + 1) ∧ ((3 * (τ 140 12)) + 1) < 6 ∧ Q (some (vI (τ 148 ((3 * (τ 140 12)) + 1).toNat))) τ) ∧ (a0 = 7 → 0 ≤ ((3 * (τ 140 12)) + 2) ∧ ((3 * (τ 140 12)) + 2) < 6 ∧ Q (some (vI (τ 148 ((3 * (τ 140 12)) + 2).toNat))) τ) ∧ (a0 = 8 → 0 ≤ (τ 140 12) ∧ (τ 140 12) < 2 ∧ Q (some (vI (τ 163 (τ 140 12).toNat))) τ) ∧ (a0 = 9 → 0 ≤ (τ 140 12) ∧ (τ 140 12) < 2 ∧ Q (some (vI (τ 164 (τ 140 12).toNat))) τ))) : V0 E d qX11_has 0 [some (vR 140), some (vI a0)] [] τ Q := by
  refine u_iload_n (i := 1) (pc' := 1) dX11_has_0 rfl rfl rfl ?_
  obtain ⟨c1, h⟩ := h
  refine u_tableswitch (dt := 166) dX11_has_1 c1 (by decide) (fun hb => ?_) (fun hb hb2 => ?_)
  · have h := h.1 hb
    refine u_iconst (pc' := 167) dX11_has_166 rfl ?_
    exact u_iret dX11_has_167 rfl h
  · have hc : a0 = 0 ∨ a0 = 1 ∨ a0 = 2 ∨ a0 = 3 ∨ a0 = 4 ∨ a0 = 5 ∨ a0 = 6 ∨ a0 = 7 ∨ a0 = 8 ∨ a0 = 9 := by omega
    rcases hc with hc | hc | hc | hc | hc | hc | hc | hc | hc | hc
    · have h := h.2.1 hc
      refine ⟨55, 56, by rw [hc]; rfl, by decide, ?_⟩
      refine u_aload_n (i := 0) (pc' := 57) dX11_has_56 rfl rfl rfl ?_
      refine u_getR (a := 142) (pc' := 60) dX11_has_57 rfl fl_TuneDoorModel_51 rfl (by decide) kd_140 rfl ?_
      refine u_aload_n (i := 0) (pc' := 61) dX11_has_60 rfl rfl rfl ?_
      refine u_getI (z := (τ 140 12)) (pc' := 64) dX11_has_61 rfl fl_TuneDoorModel_48 rfl (by decide) (by decide) kd_140 rfl (fun r2 => ?_)
      obtain ⟨c3, c4, h⟩ := h
      refine u_iaload (k := (τ 140 12).toNat) (z := (τ 142 (τ 140 12).toNat)) (pc' := 65) dX11_has_64 rfl (by decide) kd_142 c3 c4 (by decide) rfl rfl (fun r5 => ?_)
      exact u_iret dX11_has_65 rfl h
    · have h := h.2.2.1 hc
      refine ⟨65, 66, by rw [hc]; rfl, by decide, ?_⟩
      refine u_aload_n (i := 0) (pc' := 67) dX11_has_66 rfl rfl rfl ?_
      refine u_getR (a := 143) (pc' := 70) dX11_has_67 rfl fl_TuneDoorModel_54 rfl (by decide) kd_140 rfl ?_
      refine u_aload_n (i := 0) (pc' := 71) dX11_has_70 rfl rfl rfl ?_
      refine u_getI (z := (τ 140 12)) (pc' := 74) dX11_has_71 rfl fl_TuneDoorModel_48 rfl (by decide) (by decide) kd_140 rfl (fun r6 => ?_)
      obtain ⟨c7, c8, h⟩ := h
      refine u_iaload (k := (τ 140 12).toNat) (z := (τ 143 (τ 140 12).toNat)) (pc' := 75) dX11_has_74 rfl (by decide) kd_143 c7 c8 (by decide) rfl rfl (fun r9 => ?_)
      exact u_iret dX11_has_75 rfl h
    · have h := h.2.2.2.1 hc
      refine ⟨75, 76, by rw [hc]; rfl, by decide, ?_⟩
      refine u_aload_n (i := 0) (pc' := 77) dX11_has_76 rfl rfl rfl ?_
      refine u_getR (a := 144) (pc' := 80) dX11_has_77 rfl fl_TuneDoorModel_57 rfl (by decide) kd_140 rfl ?_
      refine u_aload_n (i := 0) (pc' := 81) dX11_has_80 rfl rfl rfl ?_
      refine u_getI (z := (τ 140 12)) (pc' := 84) dX11_has_81 rfl fl_TuneDoorModel_48 rfl (by decide) (by decide) kd_140 rfl (fun r10 => ?_)
      obtain ⟨c11, c12, h⟩ := h
      refine u_iaload (k := (τ 140 12).toNat) (z := (τ 144 (τ 140 12).toNat)) (pc' := 85) dX11_has_84 rfl (by decide) kd_144 c11 c12 (by decide) rfl rfl (fun r13 => ?_)
      exact u_iret dX11_has_85 rfl h
    · have h := h.2.2.2.2.1 hc
      refine ⟨85, 86, by rw [hc]; rfl, by decide, ?_⟩
      refine u_aload_n (i := 0) (pc' := 87) dX11_has_86 rfl rfl rfl ?_
      refine u_getR (a := 152) (pc' := 90) dX11_has_87 rfl fl_TuneDoorModel_82 rfl (by decide) kd_140 rfl ?_
      refine u_aload_n (i := 0) (pc' := 91) dX11_has_90 rfl rfl rfl ?_
      refine u_getI (z := (τ 140 12)) (pc' := 94) dX11_has_91 rfl fl_TuneDoorModel_48 rfl (by decide) (by decide) kd_140 rfl (fun r14 => ?_)
      obtain ⟨c15, c16, h⟩ := h
      refine u_iaload (k := (τ 140 12).toNat) (z := (τ 152 (τ 140 12).toNat)) (pc' := 95) dX11_has_94 rfl (by decide) kd_152 c15 c16 (by decide) rfl rfl (fun r17 => ?_)
      exact u_iret dX11_has_95 rfl h
    · have h := h.2.2.2.2.2.1 hc
      refine ⟨95, 96, by rw [hc]; rfl, by decide, ?_⟩
      refine u_aload_n (i := 0) (pc' := 97) dX11_has_96 rfl rfl rfl ?_
      refine u_getR (a := 157) (pc' := 100) dX11_has_97 rfl fl_TuneDoorModel_97 rfl (by decide) kd_140 rfl ?_
      refine u_aload_n (i := 0) (pc' := 101) dX11_has_100 rfl rfl rfl ?_
      refine u_getI (z := (τ 140 12)) (pc' := 104) dX11_has_101 rfl fl_TuneDoorModel_48 rfl (by decide) (by decide) kd_140 rfl (fun r18 => ?_)
      obtain ⟨c19, c20, h⟩ := h
      refine u_iaload (k := (τ 140 12).toNat) (z := (τ 157 (τ 140 12).toNat)) (pc' := 105) dX11_has_104 rfl (by decide) kd_157 c19 c20 (by decide) rfl rfl (fun r21 => ?_)
      exact u_iret dX11_has_105 rfl h
    · have h := h.2.2.2.2.2.2.1 hc
      refine ⟨105, 106, by rw [hc]; rfl, by decide, ?_⟩
      refine u_aload_n (i := 0) (pc' := 107) dX11_has_106 rfl rfl rfl ?_
      refine u_getR (a := 148) (pc' := 110) dX11_has_107 rfl fl_TuneDoorModel_70 rfl (by decide) kd_140 rfl ?_
      refine u_iconst (pc' := 111) dX11_has_110 rfl ?_
      refine u_aload_n (i := 0) (pc' := 112) dX11_has_111 rfl rfl rfl ?_
      refine u_getI (z := (τ 140 12)) (pc' := 115) dX11_has_112 rfl fl_TuneDoorModel_48 rfl (by decide) (by decide) kd_140 rfl (fun r22 => ?_)
      refine u_imul (pc' := 116) dX11_has_115 rfl ?_
      obtain ⟨c23, c24, h⟩ := h
      refine u_iaload (k := (3 * (τ 140 12)).toNat) (z := (τ 148 (3 * (τ 140 12)).toNat)) (pc' := 117) dX11_has_116 rfl (by decide) kd_148 c23 c24 (by decide) rfl rfl (fun r25 => ?_)
      exact u_iret dX11_has_117 rfl h
    · have h := h.2.2.2.2.2.2.2.1 hc
      refine ⟨117, 118, by rw [hc]; rfl, by decide, ?_⟩
      refine u_aload_n (i := 0) (pc' := 119) dX11_has_118 rfl rfl rfl ?_
      refine u_getR (a := 148) (pc' := 122) dX11_has_119 rfl fl_TuneDoorModel_70 rfl (by decide) kd_140 rfl ?_
      refine u_iconst (pc' := 123) dX11_has_122 rfl ?_
      refine u_aload_n (i := 0) (pc' := 124) dX11_has_123 rfl rfl rfl ?_
      refine u_getI (z := (τ 140 12)) (pc' := 127) dX11_has_124 rfl fl_TuneDoorModel_48 rfl (by decide) (by decide) kd_140 rfl (fun r26 => ?_)
      refine u_imul (pc' := 128) dX11_has_127 rfl ?_
      refine u_iconst (pc' := 129) dX11_has_128 rfl ?_
      refine u_iadd (pc' := 130) dX11_has_129 rfl ?_
      obtain ⟨c27, c28, h⟩ := h
      refine u_iaload (k := ((3 * (τ 140 12)) + 1).toNat) (z := (τ 148 ((3 * (τ 140 12)) + 1).toNat)) (pc' := 131) dX11_has_130 rfl (by decide) kd_148 c27 c28 (by decide) rfl rfl (fun r29 => ?_)
      exact u_iret dX11_has_131 rfl h
    · have h := h.2.2.2.2.2.2.2.2.1 hc
      refine ⟨131, 132, by rw [hc]; rfl, by decide, ?_⟩
      refine u_aload_n (i := 0) (pc' := 133) dX11_has_132 rfl rfl rfl ?_
      refine u_getR (a := 148) (pc' := 136) dX11_has_133 rfl fl_TuneDoorModel_70 rfl (by decide) kd_140 rfl ?_
      refine u_iconst (pc' := 137) dX11_has_136 rfl ?_
      refine u_aload_n (i := 0) (pc' := 138) dX11_has_137 rfl rfl rfl ?_
      refine u_getI (z := (τ 140 12)) (pc' := 141) dX11_has_138 rfl fl_TuneDoorModel_48 rfl (by decide) (by decide) kd_140 rfl (fun r30 => ?_)
      refine u_imul (pc' := 142) dX11_has_141 rfl ?_
      refine u_iconst (pc' := 143) dX11_has_142 rfl ?_
      refine u_iadd (pc' := 144) dX11_has_143 rfl ?_
      obtain ⟨c31, c32, h⟩ := h
      refine u_iaload (k := ((3 * (τ 140 12)) + 2).toNat) (z := (τ 148 ((3 * (τ 140 12)) + 2).toNat)) (pc' := 145) dX11_has_144 rfl (by decide) kd_148 c31 c32 (by decide) rfl rfl (fun r33 => ?_)
      exact u_iret dX11_has_145 rfl h
    · have h := h.2.2.2.2.2.2.2.2.2.1 hc
      refine ⟨145, 146, by rw [hc]; rfl, by decide, ?_⟩
      refine u_aload_n (i := 0) (pc' := 147) dX11_has_146 rfl rfl rfl ?_
      refine u_getR (a := 163) (pc' := 150) dX11_has_147 rfl fl_TuneDoorModel_115 rfl (by decide) kd_140 rfl ?_
      refine u_aload_n (i := 0) (pc' := 151) dX11_has_150 rfl rfl rfl ?_
      refine u_getI (z := (τ 140 12)) (pc' := 154) dX11_has_151 rfl fl_TuneDoorModel_48 rfl (by decide) (by decide) kd_140 rfl (fun r34 => ?_)
      obtain ⟨c35, c36, h⟩ := h
      refine u_iaload (k := (τ 140 12).toNat) (z := (τ 163 (τ 140 12).toNat)) (pc' := 155) dX11_has_154 rfl (by decide) kd_163 c35 c36 (by decide) rfl rfl (fun r37 => ?_)
      exact u_iret dX11_has_155 rfl h
    · have h := h.2.2.2.2.2.2.2.2.2.2 hc
      refine ⟨155, 156, by rw [hc]; rfl, by decide, ?_⟩
      refine u_aload_n (i := 0) (pc' := 157) dX11_has_156 rfl rfl rfl ?_
      refine u_getR (a := 164) (pc' := 160) dX11_has_157 rfl fl_TuneDoorModel_118 rfl (by decide) kd_140 rfl ?_
      refine u_aload_n (i := 0) (pc' := 161) dX11_has_160 rfl rfl rfl ?_
      refine u_getI (z := (τ 140 12)) (pc' := 164) dX11_has_161 rfl fl_TuneDoorModel_48 rfl (by decide) (by decide) kd_140 rfl (fun r38 => ?_)
      obtain ⟨c39, c40, h⟩ := h
      refine u_iaload (k := (τ 140 12).toNat) (z := (τ 164 (τ 140 12).toNat)) (pc' := 165) dX11_has_164 rfl (by decide) kd_164 c39 c40 (by decide) rfl rfl (fun r41 => ?_)
      exact u_iret dX11_has_165 rfl h
theorem mX11_has {E : mm_Env} {d : Nat} {τ : mm_Mem} {Q : mm_Q0} {a0 : Int} (h : inR a0 ∧ ((a0 < 0 ∨ 9 < a0 → Q (some (vI (-1))) τ) ∧ (a0 = 0 → 0 ≤ (τ 140 12) ∧ (τ 140 12) < 2 ∧ Q (some (vI (τ 142 (τ 140 12).toNat))) τ) ∧ (a0 = 1 → 0 ≤ (τ 140 12) ∧ (τ 140 12) < 2 ∧ Q (some (vI (τ 143 (τ 140 12).toNat))) τ) ∧ (a0 = 2 → 0 ≤ (τ 140 12) ∧ (τ 140 12) < 2 ∧ Q (some (vI (τ 144 (τ 140 12).toNat))) τ) ∧ (a0 = 3 → 0 ≤ (τ 140 12) ∧ (τ 140 12) < 2 ∧ Q (some (vI (τ 152 (τ 140 12).toNat))) τ) ∧ (a0 = 4 → 0 ≤ (τ 140 12) ∧ (τ 140 12) < 2 ∧ Q (some (vI (τ 157 (τ 140 12).toNat))) τ) ∧ (a0 = 5 → 0 ≤ (3 * (τ 140 12)) ∧ (3 * (τ 140 12)) < 6 ∧ Q (some (vI (τ 148 (3 * (τ 140 12)).toNat))) τ) ∧ (a0 = 6 → 0 ≤ ((3 * (τ 140 12)) + 1) ∧ ((3 * (τ 140 12)) + 1) < 6 ∧ Q (some (vI (τ 148 ((3 * (τ 140 12)) + 1).toNat))) τ) ∧ (a0 = 7 → 0 ≤ ((3 * (τ 140 12)) + 2) ∧ ((3 * (τ 140 12)) + 2) < 6 ∧ Q (some (vI (τ 148 ((3 * (τ 140 12)) + 2).toNat))) τ) ∧ (a0 = 8 → 0 ≤ (τ 140 12) ∧ (τ 140 12) < 2 ∧ Q (some (vI (τ 163 (τ 140 12).toNat))) τ) ∧ (a0 = 9 → 0 ≤ (τ 140 12) ∧ (τ 140 12) < 2 ∧ Q (some (vI (τ 164 (τ 140 12).toNat))) τ))) : M0 E d qX11_has [vR 140, vI a0] τ Q := M0_of rfl (Nat.le_of_ble_eq_true rfl) [some (vR 140), some (vI a0)] rfl (bX11_has_0  h)
set_option maxRecDepth 20000 in
theorem bX11_letter_0 {E : mm_Env} {d : Nat} {τ : mm_Mem} {Q : mm_Q0} {a0 : Int} {a1 : Int} {a2 : Int} (h : M0 E d qX11_is [vI a0, vI 0, vI 2] τ (fun v τ1 => ∃ b2 : Bool, v = some (vB b2) ∧ ((b2 = false → Q (some (vI (-1))) τ1) ∧ (b2 = true → M0 E d qX11_manyOf [vR 140, vI a0] τ1 (fun v τ3 => ∃ r4 : Int, v = some (vI r4) ∧ M0 E d qX11_is [vI a1, vI 0, vI (r4 - 1)] τ3 (fun v τ5 => ∃ b6 : Bool, v = some (vB b6) ∧ ((b6 = true → M0 E d qX11_nameOf [vR 140, vI (τ5 140 12), vI a0, vI a1] τ5 (fun v τ8 => ∃ r9 : Int, v = some (vL r9) ∧ V0 E (d + 1) qX11_letter 45 [none, none, none, some (vI a2), some (vL r9), none, some (vI 0), some (vL r9), none] [] τ8 Q)) ∧ (b6 = false → Q (some (vI (-1))) τ5)))))))) : V0 E (d + 1) qX11_letter 0 [some (vR 140), some (vI a0), some (vI a1), some (vI a2), none, none, none, none, none] [] τ Q := by
  refine u_iload_n (i := 1) (pc' := 1) dX11_letter_0 rfl rfl rfl ?_
  refine u_iconst (pc' := 2) dX11_letter_1 rfl ?_
  refine u_iconst (pc' := 3) dX11_letter_2 rfl ?_
  refine u_invS (q' := qX11_is) (As := [vI a0, vI 0, vI 2]) (st := []) (pc' := 6) dX11_letter_3 rfl gX11_is wm_1495 wm_1496 rfl (Nat.le_of_ble_eq_true rfl) (M0.mono h (fun v τ1 h => ?_))
  obtain ⟨b2, rfl, h⟩ := h
  show V0 E (d + 1) qX11_letter 6 [some (vR 140), some (vI a0), some (vI a1), some (vI a2), none, none, none, none, none] [vB b2] τ1 Q
  refine u_if_eq (tgt := 24) (pc' := 9) dX11_letter_6 rfl (by decide) (bI_R _) (fun hb => ?_) (fun hb => ?_)
  · have h := h.1 (bI_0.mp hb)
    refine u_iconst (pc' := 25) dX11_letter_24 rfl ?_
    exact u_iret dX11_letter_25 rfl h
  · have h := h.2 (bI_n0.mp hb)
    refine u_iload_n (i := 2) (pc' := 10) dX11_letter_9 rfl rfl rfl ?_
    refine u_iconst (pc' := 11) dX11_letter_10 rfl ?_
    refine u_aload_n (i := 0) (pc' := 12) dX11_letter_11 rfl rfl rfl ?_
    refine u_iload_n (i := 1) (pc' := 13) dX11_letter_12 rfl rfl rfl ?_
    refine u_invV (q' := qX11_manyOf) (As := [vI a0]) (st := [vI 0, vI a1]) (pc' := 16) dX11_letter_13 rfl gX11_manyOf wm_1675 rfl rfl (by decide) kd_140 wm_1677 wp_108 rfl (Nat.le_of_ble_eq_true rfl) (M0.mono h (fun v τ3 h => ?_))
    obtain ⟨r4, rfl, h⟩ := h
    show V0 E (d + 1) qX11_letter 16 [some (vR 140), some (vI a0), some (vI a1), some (vI a2), none, none, none, none, none] [vI r4, vI 0, vI a1] τ3 Q
    refine u_iconst (pc' := 17) dX11_letter_16 rfl ?_
    refine u_isub (pc' := 18) dX11_letter_17 rfl ?_
    refine u_invS (q' := qX11_is) (As := [vI a1, vI 0, vI (r4 - 1)]) (st := []) (pc' := 21) dX11_letter_18 rfl gX11_is wm_1495 wm_1496 rfl (Nat.le_of_ble_eq_true rfl) (M0.mono h (fun v τ5 h => ?_))
    obtain ⟨b6, rfl, h⟩ := h
    show V0 E (d + 1) qX11_letter 21 [some (vR 140), some (vI a0), some (vI a1), some (vI a2), none, none, none, none, none] [vB b6] τ5 Q
    refine u_if_ne (tgt := 26) (pc' := 24) dX11_letter_21 rfl (by decide) (bI_R _) (fun hb => ?_) (fun hb => ?_)
    · have h := h.1 (bI_n0.mp hb)
      refine u_aload_n (i := 0) (pc' := 27) dX11_letter_26 rfl rfl rfl ?_
      refine u_aload_n (i := 0) (pc' := 28) dX11_letter_27 rfl rfl rfl ?_
      refine u_getI (z := (τ5 140 12)) (pc' := 31) dX11_letter_28 rfl fl_TuneDoorModel_48 rfl (by decide) (by decide) kd_140 rfl (fun r7 => ?_)
      refine u_iload_n (i := 1) (pc' := 32) dX11_letter_31 rfl rfl rfl ?_
      refine u_iload_n (i := 2) (pc' := 33) dX11_letter_32 rfl rfl rfl ?_
      refine u_invV (q' := qX11_nameOf) (As := [vI (τ5 140 12), vI a0, vI a1]) (st := []) (pc' := 36) dX11_letter_33 rfl gX11_nameOf wm_1562 rfl rfl (by decide) kd_140 wm_1564 wp_88 rfl (Nat.le_of_ble_eq_true rfl) (M0.mono h (fun v τ8 h => ?_))
      obtain ⟨r9, rfl, h⟩ := h
      show V0 E (d + 1) qX11_letter 36 [some (vR 140), some (vI a0), some (vI a1), some (vI a2), none, none, none, none, none] [vL r9] τ8 Q
      refine s_lstore (i := 4) (ls' := [some (vR 140), some (vI a0), some (vI a1), some (vI a2), some (vL r9), none, none, none, none]) (pc' := 38) dX11_letter_36 rfl (Nat.le_of_ble_eq_true rfl) rfl rfl ?_
      refine u_iconst (pc' := 39) dX11_letter_38 rfl ?_
      refine s_istore (i := 6) (ls' := [some (vR 140), some (vI a0), some (vI a1), some (vI a2), some (vL r9), none, some (vI 0), none, none]) (pc' := 41) dX11_letter_39 rfl (Nat.le_of_ble_eq_true rfl) rfl rfl ?_
      refine u_lload (i := 4) (pc' := 43) dX11_letter_41 rfl rfl ?_
      refine s_lstore (i := 7) (ls' := [some (vR 140), some (vI a0), some (vI a1), some (vI a2), some (vL r9), none, some (vI 0), some (vL r9), none]) (pc' := 45) dX11_letter_43 rfl (Nat.le_of_ble_eq_true rfl) rfl rfl ?_
      exact u_less (ls' := [none, none, none, some (vI a2), some (vL r9), none, some (vI 0), some (vL r9), none]) ⟨rfl, ⟨rfl, ⟨rfl, ⟨rfl, trivial⟩⟩⟩⟩ h
    · have h := h.2 (bI_0.mp hb)
      refine u_iconst (pc' := 25) dX11_letter_24 rfl ?_
      exact u_iret dX11_letter_25 rfl h
theorem mX11_letter {E : mm_Env} {d : Nat} {τ : mm_Mem} {Q : mm_Q0} {a0 : Int} {a1 : Int} {a2 : Int} (h : M0 E d qX11_is [vI a0, vI 0, vI 2] τ (fun v τ1 => ∃ b2 : Bool, v = some (vB b2) ∧ ((b2 = false → Q (some (vI (-1))) τ1) ∧ (b2 = true → M0 E d qX11_manyOf [vR 140, vI a0] τ1 (fun v τ3 => ∃ r4 : Int, v = some (vI r4) ∧ M0 E d qX11_is [vI a1, vI 0, vI (r4 - 1)] τ3 (fun v τ5 => ∃ b6 : Bool, v = some (vB b6) ∧ ((b6 = true → M0 E d qX11_nameOf [vR 140, vI (τ5 140 12), vI a0, vI a1] τ5 (fun v τ8 => ∃ r9 : Int, v = some (vL r9) ∧ V0 E (d + 1) qX11_letter 45 [none, none, none, some (vI a2), some (vL r9), none, some (vI 0), some (vL r9), none] [] τ8 Q)) ∧ (b6 = false → Q (some (vI (-1))) τ5)))))))) : M0 E (d + 1) qX11_letter [vR 140, vI a0, vI a1, vI a2] τ Q := M0_of rfl (Nat.le_of_ble_eq_true rfl) [some (vR 140), some (vI a0), some (vI a1), some (vI a2), none, none, none, none, none] rfl (bX11_letter_0  h)
set_option maxRecDepth 20000 in
theorem bX11_letter_45 {E : mm_Env} {d : Nat} {τ : mm_Mem} {Q : mm_Q0} {x3 : Int} {x4 : Int} {x6 : Int} {x7 : Int} (h : inL x7 ∧ ((x7 = 0 → inR x3 ∧ ((x3 < 0 → Q (some (vI (-1))) τ) ∧ (¬ x3 < 0 → inR x6 ∧ ((x3 < x6 → inL (mm_land (mm_lushr x4 (8 * ((x6 - 1) - x3))) 255) ∧ Q (some (vI (mm_land (mm_lushr x4 (8 * ((x6 - 1) - x3))) 255))) τ) ∧ (¬ x3 < x6 → Q (some (vI (-1))) τ))))) ∧ (¬ x7 = 0 → V0 E (d + 1) qX11_letter 45 [none, none, none, some (vI x3), some (vL x4), none, some (vI (x6 + 1)), some (vL (mm_lushr x7 8)), none] [] τ Q))) : V0 E (d + 1) qX11_letter 45 [none, none, none, some (vI x3), some (vL x4), none, some (vI x6), some (vL x7), none] [] τ Q := by
  refine u_lload (i := 7) (pc' := 47) dX11_letter_45 rfl rfl ?_
  refine u_lconst (z := 0) (pc' := 48) dX11_letter_47 rfl (by decide) ?_
  obtain ⟨c1, h⟩ := h
  refine u_lcmp (pc' := 49) dX11_letter_48 rfl c1 ⟨by decide, by decide⟩ ?_
  refine u_if_eq (tgt := 65) (pc' := 52) dX11_letter_49 rfl (by decide) (mm_cmp_R _ _) (fun hb => ?_) (fun hb => ?_)
  · have h := h.1 (mm_cmp_0.mp hb)
    refine u_iload_n (i := 3) (pc' := 66) dX11_letter_65 rfl rfl rfl ?_
    obtain ⟨c2, h⟩ := h
    refine u_if_lt (tgt := 75) (pc' := 69) dX11_letter_66 rfl (by decide) c2 (fun hb => ?_) (fun hb => ?_)
    · have h := h.1 hb
      refine u_iconst (pc' := 76) dX11_letter_75 rfl ?_
      refine u_goto (tgt := 96) dX11_letter_76 (by decide) ?_
      exact u_iret dX11_letter_96 rfl h
    · have h := h.2 hb
      refine u_iload_n (i := 3) (pc' := 70) dX11_letter_69 rfl rfl rfl ?_
      refine u_iload (i := 6) (pc' := 72) dX11_letter_70 rfl rfl ?_
      obtain ⟨c3, h⟩ := h
      refine u_icmp_lt (tgt := 79) (pc' := 75) dX11_letter_72 rfl (by decide) c2 c3 (fun hb => ?_) (fun hb => ?_)
      · have h := h.1 hb
        refine u_lload (i := 4) (pc' := 81) dX11_letter_79 rfl rfl ?_
        refine u_bipush (pc' := 83) dX11_letter_81 rfl (by decide) ?_
        refine u_iload (i := 6) (pc' := 85) dX11_letter_83 rfl rfl ?_
        refine u_iconst (pc' := 86) dX11_letter_85 rfl ?_
        refine u_isub (pc' := 87) dX11_letter_86 rfl ?_
        refine u_iload_n (i := 3) (pc' := 88) dX11_letter_87 rfl rfl rfl ?_
        refine u_isub (pc' := 89) dX11_letter_88 rfl ?_
        refine u_imul (pc' := 90) dX11_letter_89 rfl ?_
        refine u_lushr (pc' := 91) dX11_letter_90 rfl ?_
        refine u_ldc2 (z := 255) (pc' := 94) dX11_letter_91 rfl wm_1679 (by decide) ?_
        refine u_land (pc' := 95) dX11_letter_94 rfl ?_
        obtain ⟨c4, h⟩ := h
        refine u_l2i (pc' := 96) dX11_letter_95 rfl c4 ?_
        exact u_iret dX11_letter_96 rfl h
      · have h := h.2 hb
        refine u_iconst (pc' := 76) dX11_letter_75 rfl ?_
        refine u_goto (tgt := 96) dX11_letter_76 (by decide) ?_
        exact u_iret dX11_letter_96 rfl h
  · have h := h.2 (fun w => hb (mm_cmp_0.mpr w))
    refine s_iinc (i := 6) (ls' := [none, none, none, some (vI x3), some (vL x4), none, some (vI (x6 + 1)), some (vL x7), none]) (pc' := 55) dX11_letter_52 rfl rfl (Nat.le_of_ble_eq_true rfl) rfl rfl ?_
    refine u_lload (i := 7) (pc' := 57) dX11_letter_55 rfl rfl ?_
    refine u_bipush (pc' := 59) dX11_letter_57 rfl (by decide) ?_
    refine u_lushr (pc' := 60) dX11_letter_59 rfl ?_
    refine s_lstore (i := 7) (ls' := [none, none, none, some (vI x3), some (vL x4), none, some (vI (x6 + 1)), some (vL (mm_lushr x7 8)), none]) (pc' := 62) dX11_letter_60 rfl (Nat.le_of_ble_eq_true rfl) rfl rfl ?_
    refine u_goto (tgt := 45) dX11_letter_62 (by decide) ?_
    exact u_less (ls' := [none, none, none, some (vI x3), some (vL x4), none, some (vI (x6 + 1)), some (vL (mm_lushr x7 8)), none]) ⟨rfl, ⟨rfl, ⟨rfl, ⟨rfl, trivial⟩⟩⟩⟩ h
set_option maxRecDepth 20000 in
theorem bX11_manyOf_0 {E : mm_Env} {d : Nat} {τ : mm_Mem} {Q : mm_Q0} {a0 : Int} (h : inR a0 ∧ ((a0 ≠ 0 → ((a0 ≠ 1 → 0 ≤ (τ 140 12) ∧ (τ 140 12) < 2 ∧ Q (some (vI (τ 157 (τ 140 12).toNat))) τ) ∧ (a0 = 1 → 0 ≤ (τ 140 12) ∧ (τ 140 12) < 2 ∧ Q (some (vI (τ 152 (τ 140 12).toNat))) τ))) ∧ (a0 = 0 → 0 ≤ (τ 140 12) ∧ (τ 140 12) < 2 ∧ Q (some (vI (τ 144 (τ 140 12).toNat))) τ))) : V0 E d qX11_manyOf 0 [some (vR 140), some (vI a0)] [] τ Q := by
  refine u_iload_n (i := 1) (pc' := 1) dX11_manyOf_0 rfl rfl rfl ?_
  obtain ⟨c1, h⟩ := h
  refine u_if_ne (tgt := 16) (pc' := 4) dX11_manyOf_1 rfl (by decide) c1 (fun hb => ?_) (fun hb => ?_)
  · have h := h.1 hb
    refine u_iload_n (i := 1) (pc' := 17) dX11_manyOf_16 rfl rfl rfl ?_
    refine u_iconst (pc' := 18) dX11_manyOf_17 rfl ?_
    refine u_icmp_ne (tgt := 33) (pc' := 21) dX11_manyOf_18 rfl (by decide) c1 ⟨by decide, by decide⟩ (fun hb => ?_) (fun hb => ?_)
    · have h := h.1 hb
      refine u_aload_n (i := 0) (pc' := 34) dX11_manyOf_33 rfl rfl rfl ?_
      refine u_getR (a := 157) (pc' := 37) dX11_manyOf_34 rfl fl_TuneDoorModel_97 rfl (by decide) kd_140 rfl ?_
      refine u_aload_n (i := 0) (pc' := 38) dX11_manyOf_37 rfl rfl rfl ?_
      refine u_getI (z := (τ 140 12)) (pc' := 41) dX11_manyOf_38 rfl fl_TuneDoorModel_48 rfl (by decide) (by decide) kd_140 rfl (fun r2 => ?_)
      obtain ⟨c3, c4, h⟩ := h
      refine u_iaload (k := (τ 140 12).toNat) (z := (τ 157 (τ 140 12).toNat)) (pc' := 42) dX11_manyOf_41 rfl (by decide) kd_157 c3 c4 (by decide) rfl rfl (fun r5 => ?_)
      exact u_iret dX11_manyOf_42 rfl h
    · have h := h.2 hb
      refine u_aload_n (i := 0) (pc' := 22) dX11_manyOf_21 rfl rfl rfl ?_
      refine u_getR (a := 152) (pc' := 25) dX11_manyOf_22 rfl fl_TuneDoorModel_82 rfl (by decide) kd_140 rfl ?_
      refine u_aload_n (i := 0) (pc' := 26) dX11_manyOf_25 rfl rfl rfl ?_
      refine u_getI (z := (τ 140 12)) (pc' := 29) dX11_manyOf_26 rfl fl_TuneDoorModel_48 rfl (by decide) (by decide) kd_140 rfl (fun r6 => ?_)
      obtain ⟨c7, c8, h⟩ := h
      refine u_iaload (k := (τ 140 12).toNat) (z := (τ 152 (τ 140 12).toNat)) (pc' := 30) dX11_manyOf_29 rfl (by decide) kd_152 c7 c8 (by decide) rfl rfl (fun r9 => ?_)
      refine u_goto (tgt := 42) dX11_manyOf_30 (by decide) ?_
      exact u_iret dX11_manyOf_42 rfl h
  · have h := h.2 hb
    refine u_aload_n (i := 0) (pc' := 5) dX11_manyOf_4 rfl rfl rfl ?_
    refine u_getR (a := 144) (pc' := 8) dX11_manyOf_5 rfl fl_TuneDoorModel_57 rfl (by decide) kd_140 rfl ?_
    refine u_aload_n (i := 0) (pc' := 9) dX11_manyOf_8 rfl rfl rfl ?_
    refine u_getI (z := (τ 140 12)) (pc' := 12) dX11_manyOf_9 rfl fl_TuneDoorModel_48 rfl (by decide) (by decide) kd_140 rfl (fun r10 => ?_)
    obtain ⟨c11, c12, h⟩ := h
    refine u_iaload (k := (τ 140 12).toNat) (z := (τ 144 (τ 140 12).toNat)) (pc' := 13) dX11_manyOf_12 rfl (by decide) kd_144 c11 c12 (by decide) rfl rfl (fun r13 => ?_)
    refine u_goto (tgt := 42) dX11_manyOf_13 (by decide) ?_
    exact u_iret dX11_manyOf_42 rfl h
theorem mX11_manyOf {E : mm_Env} {d : Nat} {τ : mm_Mem} {Q : mm_Q0} {a0 : Int} (h : inR a0 ∧ ((a0 ≠ 0 → ((a0 ≠ 1 → 0 ≤ (τ 140 12) ∧ (τ 140 12) < 2 ∧ Q (some (vI (τ 157 (τ 140 12).toNat))) τ) ∧ (a0 = 1 → 0 ≤ (τ 140 12) ∧ (τ 140 12) < 2 ∧ Q (some (vI (τ 152 (τ 140 12).toNat))) τ))) ∧ (a0 = 0 → 0 ≤ (τ 140 12) ∧ (τ 140 12) < 2 ∧ Q (some (vI (τ 144 (τ 140 12).toNat))) τ))) : M0 E d qX11_manyOf [vR 140, vI a0] τ Q := M0_of rfl (Nat.le_of_ble_eq_true rfl) [some (vR 140), some (vI a0)] rfl (bX11_manyOf_0  h)
set_option maxRecDepth 20000 in
theorem bX11_door__0 {E : mm_Env} {d : Nat} {τ : mm_Mem} {Q : mm_Q0} {a0 : Int} {a1 : Int} (h : M0 E d qX11_isDoor [vR 140, vI a0] τ (fun v τ1 => ∃ b2 : Bool, v = some (vB b2) ∧ ((b2 = true → V0 E (d + 1) qX11_door_ 15 [some (vR 140), some (vI a0), some (vI a1), some (vI 0), some (vI 0)] [] τ1 Q) ∧ (b2 = false → Q (some (vI (-1))) τ1)))) : V0 E (d + 1) qX11_door_ 0 [some (vR 140), some (vI a0), some (vI a1), none, none] [] τ Q := by
  refine u_aload_n (i := 0) (pc' := 1) dX11_door__0 rfl rfl rfl ?_
  refine u_iload_n (i := 1) (pc' := 2) dX11_door__1 rfl rfl rfl ?_
  refine u_invV (q' := qX11_isDoor) (As := [vI a0]) (st := []) (pc' := 5) dX11_door__2 rfl gX11_isDoor wm_1684 rfl rfl (by decide) kd_140 wm_1686 wp_109 rfl (Nat.le_of_ble_eq_true rfl) (M0.mono h (fun v τ1 h => ?_))
  obtain ⟨b2, rfl, h⟩ := h
  show V0 E (d + 1) qX11_door_ 5 [some (vR 140), some (vI a0), some (vI a1), none, none] [vB b2] τ1 Q
  refine u_if_ne (tgt := 10) (pc' := 8) dX11_door__5 rfl (by decide) (bI_R _) (fun hb => ?_) (fun hb => ?_)
  · have h := h.1 (bI_n0.mp hb)
    refine u_iconst (pc' := 11) dX11_door__10 rfl ?_
    refine s_istore_n (i := 3) (ls' := [some (vR 140), some (vI a0), some (vI a1), some (vI 0), none]) (pc' := 12) dX11_door__11 rfl rfl (Nat.le_of_ble_eq_true rfl) rfl rfl ?_
    refine u_iconst (pc' := 13) dX11_door__12 rfl ?_
    refine s_istore (i := 4) (ls' := [some (vR 140), some (vI a0), some (vI a1), some (vI 0), some (vI 0)]) (pc' := 15) dX11_door__13 rfl (Nat.le_of_ble_eq_true rfl) rfl rfl ?_
    exact u_less (ls' := [some (vR 140), some (vI a0), some (vI a1), some (vI 0), some (vI 0)]) ⟨rfl, ⟨rfl, ⟨rfl, ⟨rfl, ⟨rfl, trivial⟩⟩⟩⟩⟩ h
  · have h := h.2 (bI_0.mp hb)
    refine u_iconst (pc' := 9) dX11_door__8 rfl ?_
    exact u_iret dX11_door__9 rfl h
theorem mX11_door_ {E : mm_Env} {d : Nat} {τ : mm_Mem} {Q : mm_Q0} {a0 : Int} {a1 : Int} (h : M0 E d qX11_isDoor [vR 140, vI a0] τ (fun v τ1 => ∃ b2 : Bool, v = some (vB b2) ∧ ((b2 = true → V0 E (d + 1) qX11_door_ 15 [some (vR 140), some (vI a0), some (vI a1), some (vI 0), some (vI 0)] [] τ1 Q) ∧ (b2 = false → Q (some (vI (-1))) τ1)))) : M0 E (d + 1) qX11_door_ [vR 140, vI a0, vI a1] τ Q := M0_of rfl (Nat.le_of_ble_eq_true rfl) [some (vR 140), some (vI a0), some (vI a1), none, none] rfl (bX11_door__0  h)
set_option maxRecDepth 20000 in
theorem bX11_door__15 {E : mm_Env} {d : Nat} {τ : mm_Mem} {Q : mm_Q0} {x1 : Int} {x2 : Int} {x3 : Int} {x4 : Int} (h : 0 ≤ (τ 140 12) ∧ (τ 140 12) < 2 ∧ inR x4 ∧ (((τ 144 (τ 140 12).toNat) ≤ x4 → inR x2 ∧ ((x2 ≠ 0 → ((x2 ≠ 1 → ((x2 ≠ 2 → ((x2 ≠ 3 → Q (some (vI (-1))) τ) ∧ (x2 = 3 → Q (some (vI x3)) τ))) ∧ (x2 = 2 → M0 E d qX11_door4 [vR 140, vI x1] τ (fun v τ7 => ∃ r8 : Int, v = some (vI r8) ∧ 0 ≤ r8 ∧ r8 < 8 ∧ Q (some (vI (τ7 156 r8.toNat))) τ7)))) ∧ (x2 = 1 → M0 E d qX11_door4 [vR 140, vI x1] τ (fun v τ12 => ∃ r13 : Int, v = some (vI r13) ∧ 0 ≤ r13 ∧ r13 < 8 ∧ Q (some (vI (τ12 155 r13.toNat))) τ12)))) ∧ (x2 = 0 → M0 E d qX11_door4 [vR 140, vI x1] τ (fun v τ17 => ∃ r18 : Int, v = some (vI r18) ∧ 0 ≤ r18 ∧ r18 < 8 ∧ Q (some (vI (τ17 154 r18.toNat))) τ17)))) ∧ (¬ (τ 144 (τ 140 12).toNat) ≤ x4 → M0 E d qX11_isEar [vR 140, vI x1, vI x4] τ (fun v τ22 => ∃ b23 : Bool, v = some (vB b23) ∧ ((b23 = false → V0 E (d + 1) qX11_door_ 15 [some (vR 140), some (vI x1), some (vI x2), some (vI (mm_or x3 0)), some (vI (x4 + 1))] [] τ22 Q) ∧ (b23 = true → V0 E (d + 1) qX11_door_ 15 [some (vR 140), some (vI x1), some (vI x2), some (vI (mm_or x3 (mm_shl 1 x4))), some (vI (x4 + 1))] [] τ22 Q)))))) : V0 E (d + 1) qX11_door_ 15 [some (vR 140), some (vI x1), some (vI x2), some (vI x3), some (vI x4)] [] τ Q := by
  refine u_iload (i := 4) (pc' := 17) dX11_door__15 rfl rfl ?_
  refine u_aload_n (i := 0) (pc' := 18) dX11_door__17 rfl rfl rfl ?_
  refine u_getR (a := 144) (pc' := 21) dX11_door__18 rfl fl_TuneDoorModel_57 rfl (by decide) kd_140 rfl ?_
  refine u_aload_n (i := 0) (pc' := 22) dX11_door__21 rfl rfl rfl ?_
  refine u_getI (z := (τ 140 12)) (pc' := 25) dX11_door__22 rfl fl_TuneDoorModel_48 rfl (by decide) (by decide) kd_140 rfl (fun r1 => ?_)
  obtain ⟨c2, c3, h⟩ := h
  refine u_iaload (k := (τ 140 12).toNat) (z := (τ 144 (τ 140 12).toNat)) (pc' := 26) dX11_door__25 rfl (by decide) kd_144 c2 c3 (by decide) rfl rfl (fun r4 => ?_)
  obtain ⟨c5, h⟩ := h
  refine u_icmp_ge (tgt := 56) (pc' := 29) dX11_door__26 rfl (by decide) c5 r4 (fun hb => ?_) (fun hb => ?_)
  · have h := h.1 hb
    refine u_iload_n (i := 2) (pc' := 57) dX11_door__56 rfl rfl rfl ?_
    obtain ⟨c6, h⟩ := h
    refine u_if_ne (tgt := 73) (pc' := 60) dX11_door__57 rfl (by decide) c6 (fun hb => ?_) (fun hb => ?_)
    · have h := h.1 hb
      refine u_iload_n (i := 2) (pc' := 74) dX11_door__73 rfl rfl rfl ?_
      refine u_iconst (pc' := 75) dX11_door__74 rfl ?_
      refine u_icmp_ne (tgt := 91) (pc' := 78) dX11_door__75 rfl (by decide) c6 ⟨by decide, by decide⟩ (fun hb => ?_) (fun hb => ?_)
      · have h := h.1 hb
        refine u_iload_n (i := 2) (pc' := 92) dX11_door__91 rfl rfl rfl ?_
        refine u_iconst (pc' := 93) dX11_door__92 rfl ?_
        refine u_icmp_ne (tgt := 109) (pc' := 96) dX11_door__93 rfl (by decide) c6 ⟨by decide, by decide⟩ (fun hb => ?_) (fun hb => ?_)
        · have h := h.1 hb
          refine u_iload_n (i := 2) (pc' := 110) dX11_door__109 rfl rfl rfl ?_
          refine u_iconst (pc' := 111) dX11_door__110 rfl ?_
          refine u_icmp_ne (tgt := 118) (pc' := 114) dX11_door__111 rfl (by decide) c6 ⟨by decide, by decide⟩ (fun hb => ?_) (fun hb => ?_)
          · have h := h.1 hb
            refine u_iconst (pc' := 119) dX11_door__118 rfl ?_
            exact u_iret dX11_door__119 rfl h
          · have h := h.2 hb
            refine u_iload_n (i := 3) (pc' := 115) dX11_door__114 rfl rfl rfl ?_
            refine u_goto (tgt := 119) dX11_door__115 (by decide) ?_
            exact u_iret dX11_door__119 rfl h
        · have h := h.2 hb
          refine u_aload_n (i := 0) (pc' := 97) dX11_door__96 rfl rfl rfl ?_
          refine u_getR (a := 156) (pc' := 100) dX11_door__97 rfl fl_TuneDoorModel_94 rfl (by decide) kd_140 rfl ?_
          refine u_aload_n (i := 0) (pc' := 101) dX11_door__100 rfl rfl rfl ?_
          refine u_iload_n (i := 1) (pc' := 102) dX11_door__101 rfl rfl rfl ?_
          refine u_invV (q' := qX11_door4) (As := [vI x1]) (st := [vR 156]) (pc' := 105) dX11_door__102 rfl gX11_door4 wm_1696 rfl rfl (by decide) kd_140 wm_1698 wp_112 rfl (Nat.le_of_ble_eq_true rfl) (M0.mono h (fun v τ7 h => ?_))
          obtain ⟨r8, rfl, h⟩ := h
          show V0 E (d + 1) qX11_door_ 105 [some (vR 140), some (vI x1), some (vI x2), some (vI x3), some (vI x4)] [vI r8, vR 156] τ7 Q
          obtain ⟨c9, c10, h⟩ := h
          refine u_iaload (k := r8.toNat) (z := (τ7 156 r8.toNat)) (pc' := 106) dX11_door__105 rfl (by decide) kd_156 c9 c10 (by decide) rfl rfl (fun r11 => ?_)
          refine u_goto (tgt := 119) dX11_door__106 (by decide) ?_
          exact u_iret dX11_door__119 rfl h
      · have h := h.2 hb
        refine u_aload_n (i := 0) (pc' := 79) dX11_door__78 rfl rfl rfl ?_
        refine u_getR (a := 155) (pc' := 82) dX11_door__79 rfl fl_TuneDoorModel_91 rfl (by decide) kd_140 rfl ?_
        refine u_aload_n (i := 0) (pc' := 83) dX11_door__82 rfl rfl rfl ?_
        refine u_iload_n (i := 1) (pc' := 84) dX11_door__83 rfl rfl rfl ?_
        refine u_invV (q' := qX11_door4) (As := [vI x1]) (st := [vR 155]) (pc' := 87) dX11_door__84 rfl gX11_door4 wm_1696 rfl rfl (by decide) kd_140 wm_1698 wp_112 rfl (Nat.le_of_ble_eq_true rfl) (M0.mono h (fun v τ12 h => ?_))
        obtain ⟨r13, rfl, h⟩ := h
        show V0 E (d + 1) qX11_door_ 87 [some (vR 140), some (vI x1), some (vI x2), some (vI x3), some (vI x4)] [vI r13, vR 155] τ12 Q
        obtain ⟨c14, c15, h⟩ := h
        refine u_iaload (k := r13.toNat) (z := (τ12 155 r13.toNat)) (pc' := 88) dX11_door__87 rfl (by decide) kd_155 c14 c15 (by decide) rfl rfl (fun r16 => ?_)
        refine u_goto (tgt := 119) dX11_door__88 (by decide) ?_
        exact u_iret dX11_door__119 rfl h
    · have h := h.2 hb
      refine u_aload_n (i := 0) (pc' := 61) dX11_door__60 rfl rfl rfl ?_
      refine u_getR (a := 154) (pc' := 64) dX11_door__61 rfl fl_TuneDoorModel_88 rfl (by decide) kd_140 rfl ?_
      refine u_aload_n (i := 0) (pc' := 65) dX11_door__64 rfl rfl rfl ?_
      refine u_iload_n (i := 1) (pc' := 66) dX11_door__65 rfl rfl rfl ?_
      refine u_invV (q' := qX11_door4) (As := [vI x1]) (st := [vR 154]) (pc' := 69) dX11_door__66 rfl gX11_door4 wm_1696 rfl rfl (by decide) kd_140 wm_1698 wp_112 rfl (Nat.le_of_ble_eq_true rfl) (M0.mono h (fun v τ17 h => ?_))
      obtain ⟨r18, rfl, h⟩ := h
      show V0 E (d + 1) qX11_door_ 69 [some (vR 140), some (vI x1), some (vI x2), some (vI x3), some (vI x4)] [vI r18, vR 154] τ17 Q
      obtain ⟨c19, c20, h⟩ := h
      refine u_iaload (k := r18.toNat) (z := (τ17 154 r18.toNat)) (pc' := 70) dX11_door__69 rfl (by decide) kd_154 c19 c20 (by decide) rfl rfl (fun r21 => ?_)
      refine u_goto (tgt := 119) dX11_door__70 (by decide) ?_
      exact u_iret dX11_door__119 rfl h
  · have h := h.2 hb
    refine u_iload_n (i := 3) (pc' := 30) dX11_door__29 rfl rfl rfl ?_
    refine u_aload_n (i := 0) (pc' := 31) dX11_door__30 rfl rfl rfl ?_
    refine u_iload_n (i := 1) (pc' := 32) dX11_door__31 rfl rfl rfl ?_
    refine u_iload (i := 4) (pc' := 34) dX11_door__32 rfl rfl ?_
    refine u_invV (q' := qX11_isEar) (As := [vI x1, vI x4]) (st := [vI x3]) (pc' := 37) dX11_door__34 rfl gX11_isEar wm_1688 rfl rfl (by decide) kd_140 wm_1690 wp_110 rfl (Nat.le_of_ble_eq_true rfl) (M0.mono h (fun v τ22 h => ?_))
    obtain ⟨b23, rfl, h⟩ := h
    show V0 E (d + 1) qX11_door_ 37 [some (vR 140), some (vI x1), some (vI x2), some (vI x3), some (vI x4)] [vB b23, vI x3] τ22 Q
    refine u_if_eq (tgt := 47) (pc' := 40) dX11_door__37 rfl (by decide) (bI_R _) (fun hb => ?_) (fun hb => ?_)
    · have h := h.1 (bI_0.mp hb)
      refine u_iconst (pc' := 48) dX11_door__47 rfl ?_
      refine u_ior (pc' := 49) dX11_door__48 rfl ?_
      refine s_istore_n (i := 3) (ls' := [some (vR 140), some (vI x1), some (vI x2), some (vI (mm_or x3 0)), some (vI x4)]) (pc' := 50) dX11_door__49 rfl rfl (Nat.le_of_ble_eq_true rfl) rfl rfl ?_
      refine s_iinc (i := 4) (ls' := [some (vR 140), some (vI x1), some (vI x2), some (vI (mm_or x3 0)), some (vI (x4 + 1))]) (pc' := 53) dX11_door__50 rfl rfl (Nat.le_of_ble_eq_true rfl) rfl rfl ?_
      refine u_goto (tgt := 15) dX11_door__53 (by decide) ?_
      exact u_less (ls' := [some (vR 140), some (vI x1), some (vI x2), some (vI (mm_or x3 0)), some (vI (x4 + 1))]) ⟨rfl, ⟨rfl, ⟨rfl, ⟨rfl, ⟨rfl, trivial⟩⟩⟩⟩⟩ h
    · have h := h.2 (bI_n0.mp hb)
      refine u_iconst (pc' := 41) dX11_door__40 rfl ?_
      refine u_iload (i := 4) (pc' := 43) dX11_door__41 rfl rfl ?_
      refine u_ishl (pc' := 44) dX11_door__43 rfl ?_
      refine u_goto (tgt := 48) dX11_door__44 (by decide) ?_
      refine u_ior (pc' := 49) dX11_door__48 rfl ?_
      refine s_istore_n (i := 3) (ls' := [some (vR 140), some (vI x1), some (vI x2), some (vI (mm_or x3 (mm_shl 1 x4))), some (vI x4)]) (pc' := 50) dX11_door__49 rfl rfl (Nat.le_of_ble_eq_true rfl) rfl rfl ?_
      refine s_iinc (i := 4) (ls' := [some (vR 140), some (vI x1), some (vI x2), some (vI (mm_or x3 (mm_shl 1 x4))), some (vI (x4 + 1))]) (pc' := 53) dX11_door__50 rfl rfl (Nat.le_of_ble_eq_true rfl) rfl rfl ?_
      refine u_goto (tgt := 15) dX11_door__53 (by decide) ?_
      exact u_less (ls' := [some (vR 140), some (vI x1), some (vI x2), some (vI (mm_or x3 (mm_shl 1 x4))), some (vI (x4 + 1))]) ⟨rfl, ⟨rfl, ⟨rfl, ⟨rfl, ⟨rfl, trivial⟩⟩⟩⟩⟩ h
set_option maxRecDepth 20000 in
theorem bX11_isDoor_0 {E : mm_Env} {d : Nat} {τ : mm_Mem} {Q : mm_Q0} {a0 : Int} (h : 0 ≤ (τ 140 12) ∧ (τ 140 12) < 2 ∧ M0 E d qX11_is [vI a0, vI 0, vI ((τ 152 (τ 140 12).toNat) - 1)] τ (fun v τ5 => ∃ b6 : Bool, v = some (vB b6) ∧ Q (some (vB b6)) τ5)) : V0 E (d + 1) qX11_isDoor 0 [some (vR 140), some (vI a0)] [] τ Q := by
  refine u_iload_n (i := 1) (pc' := 1) dX11_isDoor_0 rfl rfl rfl ?_
  refine u_iconst (pc' := 2) dX11_isDoor_1 rfl ?_
  refine u_aload_n (i := 0) (pc' := 3) dX11_isDoor_2 rfl rfl rfl ?_
  refine u_getR (a := 152) (pc' := 6) dX11_isDoor_3 rfl fl_TuneDoorModel_82 rfl (by decide) kd_140 rfl ?_
  refine u_aload_n (i := 0) (pc' := 7) dX11_isDoor_6 rfl rfl rfl ?_
  refine u_getI (z := (τ 140 12)) (pc' := 10) dX11_isDoor_7 rfl fl_TuneDoorModel_48 rfl (by decide) (by decide) kd_140 rfl (fun r1 => ?_)
  obtain ⟨c2, c3, h⟩ := h
  refine u_iaload (k := (τ 140 12).toNat) (z := (τ 152 (τ 140 12).toNat)) (pc' := 11) dX11_isDoor_10 rfl (by decide) kd_152 c2 c3 (by decide) rfl rfl (fun r4 => ?_)
  refine u_iconst (pc' := 12) dX11_isDoor_11 rfl ?_
  refine u_isub (pc' := 13) dX11_isDoor_12 rfl ?_
  refine u_invS (q' := qX11_is) (As := [vI a0, vI 0, vI ((τ 152 (τ 140 12).toNat) - 1)]) (st := []) (pc' := 16) dX11_isDoor_13 rfl gX11_is wm_1495 wm_1496 rfl (Nat.le_of_ble_eq_true rfl) (M0.mono h (fun v τ5 h => ?_))
  obtain ⟨b6, rfl, h⟩ := h
  show V0 E (d + 1) qX11_isDoor 16 [some (vR 140), some (vI a0)] [vB b6] τ5 Q
  exact u_zret (b := b6) dX11_isDoor_16 rfl rfl h
theorem mX11_isDoor {E : mm_Env} {d : Nat} {τ : mm_Mem} {Q : mm_Q0} {a0 : Int} (h : 0 ≤ (τ 140 12) ∧ (τ 140 12) < 2 ∧ M0 E d qX11_is [vI a0, vI 0, vI ((τ 152 (τ 140 12).toNat) - 1)] τ (fun v τ5 => ∃ b6 : Bool, v = some (vB b6) ∧ Q (some (vB b6)) τ5)) : M0 E (d + 1) qX11_isDoor [vR 140, vI a0] τ Q := M0_of rfl (Nat.le_of_ble_eq_true rfl) [some (vR 140), some (vI a0)] rfl (bX11_isDoor_0  h)
set_option maxRecDepth 20000 in
theorem bX11_isEar_0 {E : mm_Env} {d : Nat} {τ : mm_Mem} {Q : mm_Q0} {a0 : Int} {a1 : Int} (h : V0 E (d + 1) qX11_isEar 2 [some (vR 140), some (vI a0), some (vI a1), some (vI 0)] [] τ Q) : V0 E (d + 1) qX11_isEar 0 [some (vR 140), some (vI a0), some (vI a1), none] [] τ Q := by
  refine u_iconst (pc' := 1) dX11_isEar_0 rfl ?_
  refine s_istore_n (i := 3) (ls' := [some (vR 140), some (vI a0), some (vI a1), some (vI 0)]) (pc' := 2) dX11_isEar_1 rfl rfl (Nat.le_of_ble_eq_true rfl) rfl rfl ?_
  exact u_less (ls' := [some (vR 140), some (vI a0), some (vI a1), some (vI 0)]) ⟨rfl, ⟨rfl, ⟨rfl, ⟨rfl, trivial⟩⟩⟩⟩ h
theorem mX11_isEar {E : mm_Env} {d : Nat} {τ : mm_Mem} {Q : mm_Q0} {a0 : Int} {a1 : Int} (h : V0 E (d + 1) qX11_isEar 2 [some (vR 140), some (vI a0), some (vI a1), some (vI 0)] [] τ Q) : M0 E (d + 1) qX11_isEar [vR 140, vI a0, vI a1] τ Q := M0_of rfl (Nat.le_of_ble_eq_true rfl) [some (vR 140), some (vI a0), some (vI a1), none] rfl (bX11_isEar_0  h)
set_option maxRecDepth 20000 in
theorem bX11_isEar_2 {E : mm_Env} {d : Nat} {τ : mm_Mem} {Q : mm_Q0} {x1 : Int} {x2 : Int} {x3 : Int} (h : 0 ≤ (τ 140 12) ∧ (τ 140 12) < 2 ∧ inR x3 ∧ (((τ 157 (τ 140 12).toNat) ≤ x3 → Q (some (vB false)) τ) ∧ (¬ (τ 157 (τ 140 12).toNat) ≤ x3 → M0 E d qX11_person4 [vR 140, vI x3] τ (fun v τ6 => ∃ r7 : Int, v = some (vI r7) ∧ 0 ≤ r7 ∧ r7 < 8 ∧ inR x1 ∧ (((τ6 159 r7.toNat) ≠ x1 → V0 E (d + 1) qX11_isEar 2 [some (vR 140), some (vI x1), some (vI x2), some (vI (x3 + 1))] [] τ6 Q) ∧ ((τ6 159 r7.toNat) = x1 → M0 E d qX11_person4 [vR 140, vI x3] τ6 (fun v τ12 => ∃ r13 : Int, v = some (vI r13) ∧ 0 ≤ r13 ∧ r13 < 8 ∧ inR x2 ∧ (((τ12 160 r13.toNat) ≠ x2 → V0 E (d + 1) qX11_isEar 2 [some (vR 140), some (vI x1), some (vI x2), some (vI (x3 + 1))] [] τ12 Q) ∧ ((τ12 160 r13.toNat) = x2 → Q (some (vB true)) τ12))))))))) : V0 E (d + 1) qX11_isEar 2 [some (vR 140), some (vI x1), some (vI x2), some (vI x3)] [] τ Q := by
  refine u_iload_n (i := 3) (pc' := 3) dX11_isEar_2 rfl rfl rfl ?_
  refine u_aload_n (i := 0) (pc' := 4) dX11_isEar_3 rfl rfl rfl ?_
  refine u_getR (a := 157) (pc' := 7) dX11_isEar_4 rfl fl_TuneDoorModel_97 rfl (by decide) kd_140 rfl ?_
  refine u_aload_n (i := 0) (pc' := 8) dX11_isEar_7 rfl rfl rfl ?_
  refine u_getI (z := (τ 140 12)) (pc' := 11) dX11_isEar_8 rfl fl_TuneDoorModel_48 rfl (by decide) (by decide) kd_140 rfl (fun r1 => ?_)
  obtain ⟨c2, c3, h⟩ := h
  refine u_iaload (k := (τ 140 12).toNat) (z := (τ 157 (τ 140 12).toNat)) (pc' := 12) dX11_isEar_11 rfl (by decide) kd_157 c2 c3 (by decide) rfl rfl (fun r4 => ?_)
  obtain ⟨c5, h⟩ := h
  refine u_icmp_ge (tgt := 51) (pc' := 15) dX11_isEar_12 rfl (by decide) c5 r4 (fun hb => ?_) (fun hb => ?_)
  · have h := h.1 hb
    refine u_iconst (pc' := 52) dX11_isEar_51 rfl ?_
    exact u_zret (b := false) dX11_isEar_52 rfl rfl h
  · have h := h.2 hb
    refine u_aload_n (i := 0) (pc' := 16) dX11_isEar_15 rfl rfl rfl ?_
    refine u_getR (a := 159) (pc' := 19) dX11_isEar_16 rfl fl_TuneDoorModel_103 rfl (by decide) kd_140 rfl ?_
    refine u_aload_n (i := 0) (pc' := 20) dX11_isEar_19 rfl rfl rfl ?_
    refine u_iload_n (i := 3) (pc' := 21) dX11_isEar_20 rfl rfl rfl ?_
    refine u_invV (q' := qX11_person4) (As := [vI x3]) (st := [vR 159]) (pc' := 24) dX11_isEar_21 rfl gX11_person4 wm_1692 rfl rfl (by decide) kd_140 wm_1694 wp_111 rfl (Nat.le_of_ble_eq_true rfl) (M0.mono h (fun v τ6 h => ?_))
    obtain ⟨r7, rfl, h⟩ := h
    show V0 E (d + 1) qX11_isEar 24 [some (vR 140), some (vI x1), some (vI x2), some (vI x3)] [vI r7, vR 159] τ6 Q
    obtain ⟨c8, c9, h⟩ := h
    refine u_iaload (k := r7.toNat) (z := (τ6 159 r7.toNat)) (pc' := 25) dX11_isEar_24 rfl (by decide) kd_159 c8 c9 (by decide) rfl rfl (fun r10 => ?_)
    refine u_iload_n (i := 1) (pc' := 26) dX11_isEar_25 rfl rfl rfl ?_
    obtain ⟨c11, h⟩ := h
    refine u_icmp_ne (tgt := 45) (pc' := 29) dX11_isEar_26 rfl (by decide) r10 c11 (fun hb => ?_) (fun hb => ?_)
    · have h := h.1 hb
      refine s_iinc (i := 3) (ls' := [some (vR 140), some (vI x1), some (vI x2), some (vI (x3 + 1))]) (pc' := 48) dX11_isEar_45 rfl rfl (Nat.le_of_ble_eq_true rfl) rfl rfl ?_
      refine u_goto (tgt := 2) dX11_isEar_48 (by decide) ?_
      exact u_less (ls' := [some (vR 140), some (vI x1), some (vI x2), some (vI (x3 + 1))]) ⟨rfl, ⟨rfl, ⟨rfl, ⟨rfl, trivial⟩⟩⟩⟩ h
    · have h := h.2 hb
      refine u_aload_n (i := 0) (pc' := 30) dX11_isEar_29 rfl rfl rfl ?_
      refine u_getR (a := 160) (pc' := 33) dX11_isEar_30 rfl fl_TuneDoorModel_106 rfl (by decide) kd_140 rfl ?_
      refine u_aload_n (i := 0) (pc' := 34) dX11_isEar_33 rfl rfl rfl ?_
      refine u_iload_n (i := 3) (pc' := 35) dX11_isEar_34 rfl rfl rfl ?_
      refine u_invV (q' := qX11_person4) (As := [vI x3]) (st := [vR 160]) (pc' := 38) dX11_isEar_35 rfl gX11_person4 wm_1692 rfl rfl (by decide) kd_140 wm_1694 wp_111 rfl (Nat.le_of_ble_eq_true rfl) (M0.mono h (fun v τ12 h => ?_))
      obtain ⟨r13, rfl, h⟩ := h
      show V0 E (d + 1) qX11_isEar 38 [some (vR 140), some (vI x1), some (vI x2), some (vI x3)] [vI r13, vR 160] τ12 Q
      obtain ⟨c14, c15, h⟩ := h
      refine u_iaload (k := r13.toNat) (z := (τ12 160 r13.toNat)) (pc' := 39) dX11_isEar_38 rfl (by decide) kd_160 c14 c15 (by decide) rfl rfl (fun r16 => ?_)
      refine u_iload_n (i := 2) (pc' := 40) dX11_isEar_39 rfl rfl rfl ?_
      obtain ⟨c17, h⟩ := h
      refine u_icmp_ne (tgt := 45) (pc' := 43) dX11_isEar_40 rfl (by decide) r16 c17 (fun hb => ?_) (fun hb => ?_)
      · have h := h.1 hb
        refine s_iinc (i := 3) (ls' := [some (vR 140), some (vI x1), some (vI x2), some (vI (x3 + 1))]) (pc' := 48) dX11_isEar_45 rfl rfl (Nat.le_of_ble_eq_true rfl) rfl rfl ?_
        refine u_goto (tgt := 2) dX11_isEar_48 (by decide) ?_
        exact u_less (ls' := [some (vR 140), some (vI x1), some (vI x2), some (vI (x3 + 1))]) ⟨rfl, ⟨rfl, ⟨rfl, ⟨rfl, trivial⟩⟩⟩⟩ h
      · have h := h.2 hb
        refine u_iconst (pc' := 44) dX11_isEar_43 rfl ?_
        exact u_zret (b := true) dX11_isEar_44 rfl rfl h
set_option maxRecDepth 20000 in
theorem bX11_person4_0 {E : mm_Env} {d : Nat} {τ : mm_Mem} {Q : mm_Q0} {a0 : Int} (h : Q (some (vI ((4 * (τ 140 12)) + a0))) τ) : V0 E d qX11_person4 0 [some (vR 140), some (vI a0)] [] τ Q := by
  refine u_iconst (pc' := 1) dX11_person4_0 rfl ?_
  refine u_aload_n (i := 0) (pc' := 2) dX11_person4_1 rfl rfl rfl ?_
  refine u_getI (z := (τ 140 12)) (pc' := 5) dX11_person4_2 rfl fl_TuneDoorModel_48 rfl (by decide) (by decide) kd_140 rfl (fun r1 => ?_)
  refine u_imul (pc' := 6) dX11_person4_5 rfl ?_
  refine u_iload_n (i := 1) (pc' := 7) dX11_person4_6 rfl rfl rfl ?_
  refine u_iadd (pc' := 8) dX11_person4_7 rfl ?_
  exact u_iret dX11_person4_8 rfl h
theorem mX11_person4 {E : mm_Env} {d : Nat} {τ : mm_Mem} {Q : mm_Q0} {a0 : Int} (h : Q (some (vI ((4 * (τ 140 12)) + a0))) τ) : M0 E d qX11_person4 [vR 140, vI a0] τ Q := M0_of rfl (Nat.le_of_ble_eq_true rfl) [some (vR 140), some (vI a0)] rfl (bX11_person4_0  h)
set_option maxRecDepth 20000 in
theorem bX11_door4_0 {E : mm_Env} {d : Nat} {τ : mm_Mem} {Q : mm_Q0} {a0 : Int} (h : Q (some (vI ((4 * (τ 140 12)) + a0))) τ) : V0 E d qX11_door4 0 [some (vR 140), some (vI a0)] [] τ Q := by
  refine u_iconst (pc' := 1) dX11_door4_0 rfl ?_
  refine u_aload_n (i := 0) (pc' := 2) dX11_door4_1 rfl rfl rfl ?_
  refine u_getI (z := (τ 140 12)) (pc' := 5) dX11_door4_2 rfl fl_TuneDoorModel_48 rfl (by decide) (by decide) kd_140 rfl (fun r1 => ?_)
  refine u_imul (pc' := 6) dX11_door4_5 rfl ?_
  refine u_iload_n (i := 1) (pc' := 7) dX11_door4_6 rfl rfl rfl ?_
  refine u_iadd (pc' := 8) dX11_door4_7 rfl ?_
  exact u_iret dX11_door4_8 rfl h
theorem mX11_door4 {E : mm_Env} {d : Nat} {τ : mm_Mem} {Q : mm_Q0} {a0 : Int} (h : Q (some (vI ((4 * (τ 140 12)) + a0))) τ) : M0 E d qX11_door4 [vR 140, vI a0] τ Q := M0_of rfl (Nat.le_of_ble_eq_true rfl) [some (vR 140), some (vI a0)] rfl (bX11_door4_0  h)
set_option maxRecDepth 20000 in
theorem bX11_person__0 {E : mm_Env} {d : Nat} {τ : mm_Mem} {Q : mm_Q0} {a0 : Int} {a1 : Int} (h : M0 E d qX11_isPerson [vR 140, vI a0] τ (fun v τ1 => ∃ b2 : Bool, v = some (vB b2) ∧ ((b2 = true → inR a1 ∧ ((a1 < 0 ∨ 6 < a1 → Q (some (vI (-1))) τ1) ∧ (a1 = 0 → M0 E d qX11_person4 [vR 140, vI a0] τ1 (fun v τ4 => ∃ r5 : Int, v = some (vI r5) ∧ 0 ≤ r5 ∧ r5 < 8 ∧ Q (some (vI (τ4 159 r5.toNat))) τ4)) ∧ (a1 = 1 → M0 E d qX11_person4 [vR 140, vI a0] τ1 (fun v τ9 => ∃ r10 : Int, v = some (vI r10) ∧ 0 ≤ r10 ∧ r10 < 8 ∧ Q (some (vI (τ9 160 r10.toNat))) τ9)) ∧ (a1 = 2 → 0 ≤ a0 ∧ a0 < 4 ∧ Q (some (vI (τ1 179 a0.toNat))) τ1) ∧ (a1 = 3 → M0 E d qX11_person4 [vR 140, vI a0] τ1 (fun v τ17 => ∃ r18 : Int, v = some (vI r18) ∧ 0 ≤ r18 ∧ r18 < 8 ∧ Q (some (vI (τ17 161 r18.toNat))) τ17)) ∧ (a1 = 4 → M0 E d qX11_person4 [vR 140, vI a0] τ1 (fun v τ22 => ∃ r23 : Int, v = some (vI r23) ∧ 0 ≤ r23 ∧ r23 < 8 ∧ Q (some (vI (τ22 162 r23.toNat))) τ22)) ∧ (a1 = 5 → 0 ≤ a0 ∧ a0 < 4 ∧ Q (some (vI (τ1 180 a0.toNat))) τ1) ∧ (a1 = 6 → 0 ≤ a0 ∧ a0 < 4 ∧ Q (some (vI (τ1 181 a0.toNat))) τ1))) ∧ (b2 = false → Q (some (vI (-1))) τ1)))) : V0 E (d + 1) qX11_person_ 0 [some (vR 140), some (vI a0), some (vI a1)] [] τ Q := by
  refine u_aload_n (i := 0) (pc' := 1) dX11_person__0 rfl rfl rfl ?_
  refine u_iload_n (i := 1) (pc' := 2) dX11_person__1 rfl rfl rfl ?_
  refine u_invV (q' := qX11_isPerson) (As := [vI a0]) (st := []) (pc' := 5) dX11_person__2 rfl gX11_isPerson wm_1704 rfl rfl (by decide) kd_140 wm_1706 wp_113 rfl (Nat.le_of_ble_eq_true rfl) (M0.mono h (fun v τ1 h => ?_))
  obtain ⟨b2, rfl, h⟩ := h
  show V0 E (d + 1) qX11_person_ 5 [some (vR 140), some (vI a0), some (vI a1)] [vB b2] τ1 Q
  refine u_if_ne (tgt := 10) (pc' := 8) dX11_person__5 rfl (by decide) (bI_R _) (fun hb => ?_) (fun hb => ?_)
  · have h := h.1 (bI_n0.mp hb)
    refine u_iload_n (i := 2) (pc' := 11) dX11_person__10 rfl rfl rfl ?_
    obtain ⟨c3, h⟩ := h
    refine u_tableswitch (dt := 117) dX11_person__11 c3 (by decide) (fun hb => ?_) (fun hb hb2 => ?_)
    · have h := h.1 hb
      refine u_iconst (pc' := 118) dX11_person__117 rfl ?_
      exact u_iret dX11_person__118 rfl h
    · have hc : a1 = 0 ∨ a1 = 1 ∨ a1 = 2 ∨ a1 = 3 ∨ a1 = 4 ∨ a1 = 5 ∨ a1 = 6 := by omega
      rcases hc with hc | hc | hc | hc | hc | hc | hc
      · have h := h.2.1 hc
        refine ⟨41, 52, by rw [hc]; rfl, by decide, ?_⟩
        refine u_aload_n (i := 0) (pc' := 53) dX11_person__52 rfl rfl rfl ?_
        refine u_getR (a := 159) (pc' := 56) dX11_person__53 rfl fl_TuneDoorModel_103 rfl (by decide) kd_140 rfl ?_
        refine u_aload_n (i := 0) (pc' := 57) dX11_person__56 rfl rfl rfl ?_
        refine u_iload_n (i := 1) (pc' := 58) dX11_person__57 rfl rfl rfl ?_
        refine u_invV (q' := qX11_person4) (As := [vI a0]) (st := [vR 159]) (pc' := 61) dX11_person__58 rfl gX11_person4 wm_1692 rfl rfl (by decide) kd_140 wm_1694 wp_111 rfl (Nat.le_of_ble_eq_true rfl) (M0.mono h (fun v τ4 h => ?_))
        obtain ⟨r5, rfl, h⟩ := h
        show V0 E (d + 1) qX11_person_ 61 [some (vR 140), some (vI a0), some (vI a1)] [vI r5, vR 159] τ4 Q
        obtain ⟨c6, c7, h⟩ := h
        refine u_iaload (k := r5.toNat) (z := (τ4 159 r5.toNat)) (pc' := 62) dX11_person__61 rfl (by decide) kd_159 c6 c7 (by decide) rfl rfl (fun r8 => ?_)
        exact u_iret dX11_person__62 rfl h
      · have h := h.2.2.1 hc
        refine ⟨52, 63, by rw [hc]; rfl, by decide, ?_⟩
        refine u_aload_n (i := 0) (pc' := 64) dX11_person__63 rfl rfl rfl ?_
        refine u_getR (a := 160) (pc' := 67) dX11_person__64 rfl fl_TuneDoorModel_106 rfl (by decide) kd_140 rfl ?_
        refine u_aload_n (i := 0) (pc' := 68) dX11_person__67 rfl rfl rfl ?_
        refine u_iload_n (i := 1) (pc' := 69) dX11_person__68 rfl rfl rfl ?_
        refine u_invV (q' := qX11_person4) (As := [vI a0]) (st := [vR 160]) (pc' := 72) dX11_person__69 rfl gX11_person4 wm_1692 rfl rfl (by decide) kd_140 wm_1694 wp_111 rfl (Nat.le_of_ble_eq_true rfl) (M0.mono h (fun v τ9 h => ?_))
        obtain ⟨r10, rfl, h⟩ := h
        show V0 E (d + 1) qX11_person_ 72 [some (vR 140), some (vI a0), some (vI a1)] [vI r10, vR 160] τ9 Q
        obtain ⟨c11, c12, h⟩ := h
        refine u_iaload (k := r10.toNat) (z := (τ9 160 r10.toNat)) (pc' := 73) dX11_person__72 rfl (by decide) kd_160 c11 c12 (by decide) rfl rfl (fun r13 => ?_)
        exact u_iret dX11_person__73 rfl h
      · have h := h.2.2.2.1 hc
        refine ⟨63, 74, by rw [hc]; rfl, by decide, ?_⟩
        refine u_aload_n (i := 0) (pc' := 75) dX11_person__74 rfl rfl rfl ?_
        refine u_getR (a := 179) (pc' := 78) dX11_person__75 rfl fl_TuneDoorModel_183 rfl (by decide) kd_140 rfl ?_
        refine u_iload_n (i := 1) (pc' := 79) dX11_person__78 rfl rfl rfl ?_
        obtain ⟨c14, c15, h⟩ := h
        refine u_iaload (k := a0.toNat) (z := (τ1 179 a0.toNat)) (pc' := 80) dX11_person__79 rfl (by decide) kd_179 c14 c15 (by decide) rfl rfl (fun r16 => ?_)
        exact u_iret dX11_person__80 rfl h
      · have h := h.2.2.2.2.1 hc
        refine ⟨70, 81, by rw [hc]; rfl, by decide, ?_⟩
        refine u_aload_n (i := 0) (pc' := 82) dX11_person__81 rfl rfl rfl ?_
        refine u_getR (a := 161) (pc' := 85) dX11_person__82 rfl fl_TuneDoorModel_109 rfl (by decide) kd_140 rfl ?_
        refine u_aload_n (i := 0) (pc' := 86) dX11_person__85 rfl rfl rfl ?_
        refine u_iload_n (i := 1) (pc' := 87) dX11_person__86 rfl rfl rfl ?_
        refine u_invV (q' := qX11_person4) (As := [vI a0]) (st := [vR 161]) (pc' := 90) dX11_person__87 rfl gX11_person4 wm_1692 rfl rfl (by decide) kd_140 wm_1694 wp_111 rfl (Nat.le_of_ble_eq_true rfl) (M0.mono h (fun v τ17 h => ?_))
        obtain ⟨r18, rfl, h⟩ := h
        show V0 E (d + 1) qX11_person_ 90 [some (vR 140), some (vI a0), some (vI a1)] [vI r18, vR 161] τ17 Q
        obtain ⟨c19, c20, h⟩ := h
        refine u_iaload (k := r18.toNat) (z := (τ17 161 r18.toNat)) (pc' := 91) dX11_person__90 rfl (by decide) kd_161 c19 c20 (by decide) rfl rfl (fun r21 => ?_)
        exact u_iret dX11_person__91 rfl h
      · have h := h.2.2.2.2.2.1 hc
        refine ⟨81, 92, by rw [hc]; rfl, by decide, ?_⟩
        refine u_aload_n (i := 0) (pc' := 93) dX11_person__92 rfl rfl rfl ?_
        refine u_getR (a := 162) (pc' := 96) dX11_person__93 rfl fl_TuneDoorModel_112 rfl (by decide) kd_140 rfl ?_
        refine u_aload_n (i := 0) (pc' := 97) dX11_person__96 rfl rfl rfl ?_
        refine u_iload_n (i := 1) (pc' := 98) dX11_person__97 rfl rfl rfl ?_
        refine u_invV (q' := qX11_person4) (As := [vI a0]) (st := [vR 162]) (pc' := 101) dX11_person__98 rfl gX11_person4 wm_1692 rfl rfl (by decide) kd_140 wm_1694 wp_111 rfl (Nat.le_of_ble_eq_true rfl) (M0.mono h (fun v τ22 h => ?_))
        obtain ⟨r23, rfl, h⟩ := h
        show V0 E (d + 1) qX11_person_ 101 [some (vR 140), some (vI a0), some (vI a1)] [vI r23, vR 162] τ22 Q
        obtain ⟨c24, c25, h⟩ := h
        refine u_iaload (k := r23.toNat) (z := (τ22 162 r23.toNat)) (pc' := 102) dX11_person__101 rfl (by decide) kd_162 c24 c25 (by decide) rfl rfl (fun r26 => ?_)
        exact u_iret dX11_person__102 rfl h
      · have h := h.2.2.2.2.2.2.1 hc
        refine ⟨92, 103, by rw [hc]; rfl, by decide, ?_⟩
        refine u_aload_n (i := 0) (pc' := 104) dX11_person__103 rfl rfl rfl ?_
        refine u_getR (a := 180) (pc' := 107) dX11_person__104 rfl fl_TuneDoorModel_186 rfl (by decide) kd_140 rfl ?_
        refine u_iload_n (i := 1) (pc' := 108) dX11_person__107 rfl rfl rfl ?_
        obtain ⟨c27, c28, h⟩ := h
        refine u_iaload (k := a0.toNat) (z := (τ1 180 a0.toNat)) (pc' := 109) dX11_person__108 rfl (by decide) kd_180 c27 c28 (by decide) rfl rfl (fun r29 => ?_)
        exact u_iret dX11_person__109 rfl h
      · have h := h.2.2.2.2.2.2.2 hc
        refine ⟨99, 110, by rw [hc]; rfl, by decide, ?_⟩
        refine u_aload_n (i := 0) (pc' := 111) dX11_person__110 rfl rfl rfl ?_
        refine u_getR (a := 181) (pc' := 114) dX11_person__111 rfl fl_TuneDoorModel_189 rfl (by decide) kd_140 rfl ?_
        refine u_iload_n (i := 1) (pc' := 115) dX11_person__114 rfl rfl rfl ?_
        obtain ⟨c30, c31, h⟩ := h
        refine u_iaload (k := a0.toNat) (z := (τ1 181 a0.toNat)) (pc' := 116) dX11_person__115 rfl (by decide) kd_181 c30 c31 (by decide) rfl rfl (fun r32 => ?_)
        exact u_iret dX11_person__116 rfl h
  · have h := h.2 (bI_0.mp hb)
    refine u_iconst (pc' := 9) dX11_person__8 rfl ?_
    exact u_iret dX11_person__9 rfl h
theorem mX11_person_ {E : mm_Env} {d : Nat} {τ : mm_Mem} {Q : mm_Q0} {a0 : Int} {a1 : Int} (h : M0 E d qX11_isPerson [vR 140, vI a0] τ (fun v τ1 => ∃ b2 : Bool, v = some (vB b2) ∧ ((b2 = true → inR a1 ∧ ((a1 < 0 ∨ 6 < a1 → Q (some (vI (-1))) τ1) ∧ (a1 = 0 → M0 E d qX11_person4 [vR 140, vI a0] τ1 (fun v τ4 => ∃ r5 : Int, v = some (vI r5) ∧ 0 ≤ r5 ∧ r5 < 8 ∧ Q (some (vI (τ4 159 r5.toNat))) τ4)) ∧ (a1 = 1 → M0 E d qX11_person4 [vR 140, vI a0] τ1 (fun v τ9 => ∃ r10 : Int, v = some (vI r10) ∧ 0 ≤ r10 ∧ r10 < 8 ∧ Q (some (vI (τ9 160 r10.toNat))) τ9)) ∧ (a1 = 2 → 0 ≤ a0 ∧ a0 < 4 ∧ Q (some (vI (τ1 179 a0.toNat))) τ1) ∧ (a1 = 3 → M0 E d qX11_person4 [vR 140, vI a0] τ1 (fun v τ17 => ∃ r18 : Int, v = some (vI r18) ∧ 0 ≤ r18 ∧ r18 < 8 ∧ Q (some (vI (τ17 161 r18.toNat))) τ17)) ∧ (a1 = 4 → M0 E d qX11_person4 [vR 140, vI a0] τ1 (fun v τ22 => ∃ r23 : Int, v = some (vI r23) ∧ 0 ≤ r23 ∧ r23 < 8 ∧ Q (some (vI (τ22 162 r23.toNat))) τ22)) ∧ (a1 = 5 → 0 ≤ a0 ∧ a0 < 4 ∧ Q (some (vI (τ1 180 a0.toNat))) τ1) ∧ (a1 = 6 → 0 ≤ a0 ∧ a0 < 4 ∧ Q (some (vI (τ1 181 a0.toNat))) τ1))) ∧ (b2 = false → Q (some (vI (-1))) τ1)))) : M0 E (d + 1) qX11_person_ [vR 140, vI a0, vI a1] τ Q := M0_of rfl (Nat.le_of_ble_eq_true rfl) [some (vR 140), some (vI a0), some (vI a1)] rfl (bX11_person__0  h)
set_option maxRecDepth 20000 in
theorem bX11_isPerson_0 {E : mm_Env} {d : Nat} {τ : mm_Mem} {Q : mm_Q0} {a0 : Int} (h : 0 ≤ (τ 140 12) ∧ (τ 140 12) < 2 ∧ M0 E d qX11_is [vI a0, vI 0, vI ((τ 157 (τ 140 12).toNat) - 1)] τ (fun v τ5 => ∃ b6 : Bool, v = some (vB b6) ∧ Q (some (vB b6)) τ5)) : V0 E (d + 1) qX11_isPerson 0 [some (vR 140), some (vI a0)] [] τ Q := by
  refine u_iload_n (i := 1) (pc' := 1) dX11_isPerson_0 rfl rfl rfl ?_
  refine u_iconst (pc' := 2) dX11_isPerson_1 rfl ?_
  refine u_aload_n (i := 0) (pc' := 3) dX11_isPerson_2 rfl rfl rfl ?_
  refine u_getR (a := 157) (pc' := 6) dX11_isPerson_3 rfl fl_TuneDoorModel_97 rfl (by decide) kd_140 rfl ?_
  refine u_aload_n (i := 0) (pc' := 7) dX11_isPerson_6 rfl rfl rfl ?_
  refine u_getI (z := (τ 140 12)) (pc' := 10) dX11_isPerson_7 rfl fl_TuneDoorModel_48 rfl (by decide) (by decide) kd_140 rfl (fun r1 => ?_)
  obtain ⟨c2, c3, h⟩ := h
  refine u_iaload (k := (τ 140 12).toNat) (z := (τ 157 (τ 140 12).toNat)) (pc' := 11) dX11_isPerson_10 rfl (by decide) kd_157 c2 c3 (by decide) rfl rfl (fun r4 => ?_)
  refine u_iconst (pc' := 12) dX11_isPerson_11 rfl ?_
  refine u_isub (pc' := 13) dX11_isPerson_12 rfl ?_
  refine u_invS (q' := qX11_is) (As := [vI a0, vI 0, vI ((τ 157 (τ 140 12).toNat) - 1)]) (st := []) (pc' := 16) dX11_isPerson_13 rfl gX11_is wm_1495 wm_1496 rfl (Nat.le_of_ble_eq_true rfl) (M0.mono h (fun v τ5 h => ?_))
  obtain ⟨b6, rfl, h⟩ := h
  show V0 E (d + 1) qX11_isPerson 16 [some (vR 140), some (vI a0)] [vB b6] τ5 Q
  exact u_zret (b := b6) dX11_isPerson_16 rfl rfl h
theorem mX11_isPerson {E : mm_Env} {d : Nat} {τ : mm_Mem} {Q : mm_Q0} {a0 : Int} (h : 0 ≤ (τ 140 12) ∧ (τ 140 12) < 2 ∧ M0 E d qX11_is [vI a0, vI 0, vI ((τ 157 (τ 140 12).toNat) - 1)] τ (fun v τ5 => ∃ b6 : Bool, v = some (vB b6) ∧ Q (some (vB b6)) τ5)) : M0 E (d + 1) qX11_isPerson [vR 140, vI a0] τ Q := M0_of rfl (Nat.le_of_ble_eq_true rfl) [some (vR 140), some (vI a0)] rfl (bX11_isPerson_0  h)
set_option maxRecDepth 20000 in
theorem bX11_note_0 {E : mm_Env} {d : Nat} {τ : mm_Mem} {Q : mm_Q0} {a0 : Int} {a1 : Int} {a2 : Int} (h : M0 E d qX11_isTune [vR 140, vI a0] τ (fun v τ1 => ∃ b2 : Bool, v = some (vB b2) ∧ ((b2 = false → Q (some (vI (-1))) τ1) ∧ (b2 = true → M0 E d qX11_isWhistle [vI a1] τ1 (fun v τ3 => ∃ b4 : Bool, v = some (vB b4) ∧ ((b4 = true → inR a2 ∧ ((a2 ≠ (-1) → ((a2 ≠ (-2) → 0 ≤ (τ3 140 12) ∧ (τ3 140 12) < 2 ∧ M0 E d qX11_is [vI a2, vI 0, vI ((τ3 143 (τ3 140 12).toNat) - 1)] τ3 (fun v τ10 => ∃ b11 : Bool, v = some (vB b11) ∧ ((b11 = false → Q (some (vI (-1))) τ10) ∧ (b11 = true → 0 ≤ ((5 * ((1000 * a0) + a1)) + a2) ∧ ((5 * ((1000 * a0) + a1)) + a2) < 15000 ∧ Q (some (vI (τ10 176 ((5 * ((1000 * a0) + a1)) + a2).toNat))) τ10)))) ∧ (a2 = (-2) → 0 ≤ ((1000 * a0) + a1) ∧ ((1000 * a0) + a1) < 3000 ∧ Q (some (vI (τ3 177 ((1000 * a0) + a1).toNat))) τ3))) ∧ (a2 = (-1) → 0 ≤ ((1000 * a0) + a1) ∧ ((1000 * a0) + a1) < 3000 ∧ Q (some (vI (τ3 178 ((1000 * a0) + a1).toNat))) τ3))) ∧ (b4 = false → Q (some (vI (-1))) τ3))))))) : V0 E (d + 1) qX11_note 0 [some (vR 140), some (vI a0), some (vI a1), some (vI a2), none] [] τ Q := by
  refine u_aload_n (i := 0) (pc' := 1) dX11_note_0 rfl rfl rfl ?_
  refine u_iload_n (i := 1) (pc' := 2) dX11_note_1 rfl rfl rfl ?_
  refine u_invV (q' := qX11_isTune) (As := [vI a0]) (st := []) (pc' := 5) dX11_note_2 rfl gX11_isTune wm_1712 rfl rfl (by decide) kd_140 wm_1714 wp_114 rfl (Nat.le_of_ble_eq_true rfl) (M0.mono h (fun v τ1 h => ?_))
  obtain ⟨b2, rfl, h⟩ := h
  show V0 E (d + 1) qX11_note 5 [some (vR 140), some (vI a0), some (vI a1), some (vI a2), none] [vB b2] τ1 Q
  refine u_if_eq (tgt := 15) (pc' := 8) dX11_note_5 rfl (by decide) (bI_R _) (fun hb => ?_) (fun hb => ?_)
  · have h := h.1 (bI_0.mp hb)
    refine u_iconst (pc' := 16) dX11_note_15 rfl ?_
    exact u_iret dX11_note_16 rfl h
  · have h := h.2 (bI_n0.mp hb)
    refine u_iload_n (i := 2) (pc' := 9) dX11_note_8 rfl rfl rfl ?_
    refine u_invS (q' := qX11_isWhistle) (As := [vI a1]) (st := []) (pc' := 12) dX11_note_9 rfl gX11_isWhistle wm_1716 wm_1717 rfl (Nat.le_of_ble_eq_true rfl) (M0.mono h (fun v τ3 h => ?_))
    obtain ⟨b4, rfl, h⟩ := h
    show V0 E (d + 1) qX11_note 12 [some (vR 140), some (vI a0), some (vI a1), some (vI a2), none] [vB b4] τ3 Q
    refine u_if_ne (tgt := 17) (pc' := 15) dX11_note_12 rfl (by decide) (bI_R _) (fun hb => ?_) (fun hb => ?_)
    · have h := h.1 (bI_n0.mp hb)
      refine u_sipush (pc' := 20) dX11_note_17 rfl (by decide) ?_
      refine u_iload_n (i := 1) (pc' := 21) dX11_note_20 rfl rfl rfl ?_
      refine u_imul (pc' := 22) dX11_note_21 rfl ?_
      refine u_iload_n (i := 2) (pc' := 23) dX11_note_22 rfl rfl rfl ?_
      refine u_iadd (pc' := 24) dX11_note_23 rfl ?_
      refine s_istore (i := 4) (ls' := [some (vR 140), some (vI a0), some (vI a1), some (vI a2), some (vI ((1000 * a0) + a1))]) (pc' := 26) dX11_note_24 rfl (Nat.le_of_ble_eq_true rfl) rfl rfl ?_
      refine u_iload_n (i := 3) (pc' := 27) dX11_note_26 rfl rfl rfl ?_
      refine u_iconst (pc' := 28) dX11_note_27 rfl ?_
      obtain ⟨c5, h⟩ := h
      refine u_icmp_ne (tgt := 41) (pc' := 31) dX11_note_28 rfl (by decide) c5 ⟨by decide, by decide⟩ (fun hb => ?_) (fun hb => ?_)
      · have h := h.1 hb
        refine u_iload_n (i := 3) (pc' := 42) dX11_note_41 rfl rfl rfl ?_
        refine u_bipush (pc' := 44) dX11_note_42 rfl (by decide) ?_
        refine u_icmp_ne (tgt := 57) (pc' := 47) dX11_note_44 rfl (by decide) c5 ⟨by decide, by decide⟩ (fun hb => ?_) (fun hb => ?_)
        · have h := h.1 hb
          refine u_iload_n (i := 3) (pc' := 58) dX11_note_57 rfl rfl rfl ?_
          refine u_iconst (pc' := 59) dX11_note_58 rfl ?_
          refine u_aload_n (i := 0) (pc' := 60) dX11_note_59 rfl rfl rfl ?_
          refine u_getR (a := 143) (pc' := 63) dX11_note_60 rfl fl_TuneDoorModel_54 rfl (by decide) kd_140 rfl ?_
          refine u_aload_n (i := 0) (pc' := 64) dX11_note_63 rfl rfl rfl ?_
          refine u_getI (z := (τ3 140 12)) (pc' := 67) dX11_note_64 rfl fl_TuneDoorModel_48 rfl (by decide) (by decide) kd_140 rfl (fun r6 => ?_)
          obtain ⟨c7, c8, h⟩ := h
          refine u_iaload (k := (τ3 140 12).toNat) (z := (τ3 143 (τ3 140 12).toNat)) (pc' := 68) dX11_note_67 rfl (by decide) kd_143 c7 c8 (by decide) rfl rfl (fun r9 => ?_)
          refine u_iconst (pc' := 69) dX11_note_68 rfl ?_
          refine u_isub (pc' := 70) dX11_note_69 rfl ?_
          refine u_invS (q' := qX11_is) (As := [vI a2, vI 0, vI ((τ3 143 (τ3 140 12).toNat) - 1)]) (st := []) (pc' := 73) dX11_note_70 rfl gX11_is wm_1495 wm_1496 rfl (Nat.le_of_ble_eq_true rfl) (M0.mono h (fun v τ10 h => ?_))
          obtain ⟨b11, rfl, h⟩ := h
          show V0 E (d + 1) qX11_note 73 [some (vR 140), some (vI a0), some (vI a1), some (vI a2), some (vI ((1000 * a0) + a1))] [vB b11] τ10 Q
          refine u_if_eq (tgt := 90) (pc' := 76) dX11_note_73 rfl (by decide) (bI_R _) (fun hb => ?_) (fun hb => ?_)
          · have h := h.1 (bI_0.mp hb)
            refine u_iconst (pc' := 91) dX11_note_90 rfl ?_
            exact u_iret dX11_note_91 rfl h
          · have h := h.2 (bI_n0.mp hb)
            refine u_aload_n (i := 0) (pc' := 77) dX11_note_76 rfl rfl rfl ?_
            refine u_getR (a := 176) (pc' := 80) dX11_note_77 rfl fl_TuneDoorModel_174 rfl (by decide) kd_140 rfl ?_
            refine u_iconst (pc' := 81) dX11_note_80 rfl ?_
            refine u_iload (i := 4) (pc' := 83) dX11_note_81 rfl rfl ?_
            refine u_imul (pc' := 84) dX11_note_83 rfl ?_
            refine u_iload_n (i := 3) (pc' := 85) dX11_note_84 rfl rfl rfl ?_
            refine u_iadd (pc' := 86) dX11_note_85 rfl ?_
            obtain ⟨c12, c13, h⟩ := h
            refine u_iaload (k := ((5 * ((1000 * a0) + a1)) + a2).toNat) (z := (τ10 176 ((5 * ((1000 * a0) + a1)) + a2).toNat)) (pc' := 87) dX11_note_86 rfl (by decide) kd_176 c12 c13 (by decide) rfl rfl (fun r14 => ?_)
            refine u_goto (tgt := 91) dX11_note_87 (by decide) ?_
            exact u_iret dX11_note_91 rfl h
        · have h := h.2 hb
          refine u_aload_n (i := 0) (pc' := 48) dX11_note_47 rfl rfl rfl ?_
          refine u_getR (a := 177) (pc' := 51) dX11_note_48 rfl fl_TuneDoorModel_177 rfl (by decide) kd_140 rfl ?_
          refine u_iload (i := 4) (pc' := 53) dX11_note_51 rfl rfl ?_
          obtain ⟨c15, c16, h⟩ := h
          refine u_iaload (k := ((1000 * a0) + a1).toNat) (z := (τ3 177 ((1000 * a0) + a1).toNat)) (pc' := 54) dX11_note_53 rfl (by decide) kd_177 c15 c16 (by decide) rfl rfl (fun r17 => ?_)
          refine u_goto (tgt := 91) dX11_note_54 (by decide) ?_
          exact u_iret dX11_note_91 rfl h
      · have h := h.2 hb
        refine u_aload_n (i := 0) (pc' := 32) dX11_note_31 rfl rfl rfl ?_
        refine u_getR (a := 178) (pc' := 35) dX11_note_32 rfl fl_TuneDoorModel_180 rfl (by decide) kd_140 rfl ?_
        refine u_iload (i := 4) (pc' := 37) dX11_note_35 rfl rfl ?_
        obtain ⟨c18, c19, h⟩ := h
        refine u_iaload (k := ((1000 * a0) + a1).toNat) (z := (τ3 178 ((1000 * a0) + a1).toNat)) (pc' := 38) dX11_note_37 rfl (by decide) kd_178 c18 c19 (by decide) rfl rfl (fun r20 => ?_)
        refine u_goto (tgt := 91) dX11_note_38 (by decide) ?_
        exact u_iret dX11_note_91 rfl h
    · have h := h.2 (bI_0.mp hb)
      refine u_iconst (pc' := 16) dX11_note_15 rfl ?_
      exact u_iret dX11_note_16 rfl h
theorem mX11_note {E : mm_Env} {d : Nat} {τ : mm_Mem} {Q : mm_Q0} {a0 : Int} {a1 : Int} {a2 : Int} (h : M0 E d qX11_isTune [vR 140, vI a0] τ (fun v τ1 => ∃ b2 : Bool, v = some (vB b2) ∧ ((b2 = false → Q (some (vI (-1))) τ1) ∧ (b2 = true → M0 E d qX11_isWhistle [vI a1] τ1 (fun v τ3 => ∃ b4 : Bool, v = some (vB b4) ∧ ((b4 = true → inR a2 ∧ ((a2 ≠ (-1) → ((a2 ≠ (-2) → 0 ≤ (τ3 140 12) ∧ (τ3 140 12) < 2 ∧ M0 E d qX11_is [vI a2, vI 0, vI ((τ3 143 (τ3 140 12).toNat) - 1)] τ3 (fun v τ10 => ∃ b11 : Bool, v = some (vB b11) ∧ ((b11 = false → Q (some (vI (-1))) τ10) ∧ (b11 = true → 0 ≤ ((5 * ((1000 * a0) + a1)) + a2) ∧ ((5 * ((1000 * a0) + a1)) + a2) < 15000 ∧ Q (some (vI (τ10 176 ((5 * ((1000 * a0) + a1)) + a2).toNat))) τ10)))) ∧ (a2 = (-2) → 0 ≤ ((1000 * a0) + a1) ∧ ((1000 * a0) + a1) < 3000 ∧ Q (some (vI (τ3 177 ((1000 * a0) + a1).toNat))) τ3))) ∧ (a2 = (-1) → 0 ≤ ((1000 * a0) + a1) ∧ ((1000 * a0) + a1) < 3000 ∧ Q (some (vI (τ3 178 ((1000 * a0) + a1).toNat))) τ3))) ∧ (b4 = false → Q (some (vI (-1))) τ3))))))) : M0 E (d + 1) qX11_note [vR 140, vI a0, vI a1, vI a2] τ Q := M0_of rfl (Nat.le_of_ble_eq_true rfl) [some (vR 140), some (vI a0), some (vI a1), some (vI a2), none] rfl (bX11_note_0  h)
set_option maxRecDepth 20000 in
theorem bX11_isTune_0 {E : mm_Env} {d : Nat} {τ : mm_Mem} {Q : mm_Q0} {a0 : Int} (h : 0 ≤ (τ 140 12) ∧ (τ 140 12) < 2 ∧ M0 E d qX11_is [vI a0, vI 0, vI ((τ 144 (τ 140 12).toNat) - 1)] τ (fun v τ5 => ∃ b6 : Bool, v = some (vB b6) ∧ Q (some (vB b6)) τ5)) : V0 E (d + 1) qX11_isTune 0 [some (vR 140), some (vI a0)] [] τ Q := by
  refine u_iload_n (i := 1) (pc' := 1) dX11_isTune_0 rfl rfl rfl ?_
  refine u_iconst (pc' := 2) dX11_isTune_1 rfl ?_
  refine u_aload_n (i := 0) (pc' := 3) dX11_isTune_2 rfl rfl rfl ?_
  refine u_getR (a := 144) (pc' := 6) dX11_isTune_3 rfl fl_TuneDoorModel_57 rfl (by decide) kd_140 rfl ?_
  refine u_aload_n (i := 0) (pc' := 7) dX11_isTune_6 rfl rfl rfl ?_
  refine u_getI (z := (τ 140 12)) (pc' := 10) dX11_isTune_7 rfl fl_TuneDoorModel_48 rfl (by decide) (by decide) kd_140 rfl (fun r1 => ?_)
  obtain ⟨c2, c3, h⟩ := h
  refine u_iaload (k := (τ 140 12).toNat) (z := (τ 144 (τ 140 12).toNat)) (pc' := 11) dX11_isTune_10 rfl (by decide) kd_144 c2 c3 (by decide) rfl rfl (fun r4 => ?_)
  refine u_iconst (pc' := 12) dX11_isTune_11 rfl ?_
  refine u_isub (pc' := 13) dX11_isTune_12 rfl ?_
  refine u_invS (q' := qX11_is) (As := [vI a0, vI 0, vI ((τ 144 (τ 140 12).toNat) - 1)]) (st := []) (pc' := 16) dX11_isTune_13 rfl gX11_is wm_1495 wm_1496 rfl (Nat.le_of_ble_eq_true rfl) (M0.mono h (fun v τ5 h => ?_))
  obtain ⟨b6, rfl, h⟩ := h
  show V0 E (d + 1) qX11_isTune 16 [some (vR 140), some (vI a0)] [vB b6] τ5 Q
  exact u_zret (b := b6) dX11_isTune_16 rfl rfl h
theorem mX11_isTune {E : mm_Env} {d : Nat} {τ : mm_Mem} {Q : mm_Q0} {a0 : Int} (h : 0 ≤ (τ 140 12) ∧ (τ 140 12) < 2 ∧ M0 E d qX11_is [vI a0, vI 0, vI ((τ 144 (τ 140 12).toNat) - 1)] τ (fun v τ5 => ∃ b6 : Bool, v = some (vB b6) ∧ Q (some (vB b6)) τ5)) : M0 E (d + 1) qX11_isTune [vR 140, vI a0] τ Q := M0_of rfl (Nat.le_of_ble_eq_true rfl) [some (vR 140), some (vI a0)] rfl (bX11_isTune_0  h)
set_option maxRecDepth 20000 in
theorem bX11_isWhistle_0 {E : mm_Env} {d : Nat} {τ : mm_Mem} {Q : mm_Q0} {a0 : Int} (h : M0 E d qX11_is [vI a0, vI 0, vI 999] τ (fun v τ1 => ∃ b2 : Bool, v = some (vB b2) ∧ Q (some (vB b2)) τ1)) : V0 E (d + 1) qX11_isWhistle 0 [some (vI a0)] [] τ Q := by
  refine u_iload_n (i := 0) (pc' := 1) dX11_isWhistle_0 rfl rfl rfl ?_
  refine u_iconst (pc' := 2) dX11_isWhistle_1 rfl ?_
  refine u_sipush (pc' := 5) dX11_isWhistle_2 rfl (by decide) ?_
  refine u_invS (q' := qX11_is) (As := [vI a0, vI 0, vI 999]) (st := []) (pc' := 8) dX11_isWhistle_5 rfl gX11_is wm_1495 wm_1496 rfl (Nat.le_of_ble_eq_true rfl) (M0.mono h (fun v τ1 h => ?_))
  obtain ⟨b2, rfl, h⟩ := h
  show V0 E (d + 1) qX11_isWhistle 8 [some (vI a0)] [vB b2] τ1 Q
  exact u_zret (b := b2) dX11_isWhistle_8 rfl rfl h
theorem mX11_isWhistle {E : mm_Env} {d : Nat} {τ : mm_Mem} {Q : mm_Q0} {a0 : Int} (h : M0 E d qX11_is [vI a0, vI 0, vI 999] τ (fun v τ1 => ∃ b2 : Bool, v = some (vB b2) ∧ Q (some (vB b2)) τ1)) : M0 E (d + 1) qX11_isWhistle [vI a0] τ Q := M0_of rfl (Nat.le_of_ble_eq_true rfl) [some (vI a0)] rfl (bX11_isWhistle_0  h)
set_option maxRecDepth 20000 in
theorem bX11_round_0 {E : mm_Env} {d : Nat} {τ : mm_Mem} {Q : mm_Q0} {a0 : Int} {a1 : Int} (h : M0 E d qX11_isTune [vR 140, vI a0] τ (fun v τ1 => ∃ b2 : Bool, v = some (vB b2) ∧ ((b2 = false → Q (some (vI (-1))) τ1) ∧ (b2 = true → inR a1 ∧ ((a1 = 0 → V0 E (d + 1) qX11_round 28 [some (vR 140), none, some (vI a1), some (vI (1000 * a0)), some (vI 1), none] [] τ1 Q) ∧ (¬ a1 = 0 → ((a1 = 1 → V0 E (d + 1) qX11_round 28 [some (vR 140), none, some (vI a1), some (vI (1000 * a0)), some (vI 1), none] [] τ1 Q) ∧ (¬ a1 = 1 → Q (some (vI (-1))) τ1)))))))) : V0 E (d + 1) qX11_round 0 [some (vR 140), some (vI a0), some (vI a1), none, none, none] [] τ Q := by
  refine u_aload_n (i := 0) (pc' := 1) dX11_round_0 rfl rfl rfl ?_
  refine u_iload_n (i := 1) (pc' := 2) dX11_round_1 rfl rfl rfl ?_
  refine u_invV (q' := qX11_isTune) (As := [vI a0]) (st := []) (pc' := 5) dX11_round_2 rfl gX11_isTune wm_1712 rfl rfl (by decide) kd_140 wm_1714 wp_114 rfl (Nat.le_of_ble_eq_true rfl) (M0.mono h (fun v τ1 h => ?_))
  obtain ⟨b2, rfl, h⟩ := h
  show V0 E (d + 1) qX11_round 5 [some (vR 140), some (vI a0), some (vI a1), none, none, none] [vB b2] τ1 Q
  refine u_if_eq (tgt := 17) (pc' := 8) dX11_round_5 rfl (by decide) (bI_R _) (fun hb => ?_) (fun hb => ?_)
  · have h := h.1 (bI_0.mp hb)
    refine u_iconst (pc' := 18) dX11_round_17 rfl ?_
    exact u_iret dX11_round_18 rfl h
  · have h := h.2 (bI_n0.mp hb)
    refine u_iload_n (i := 2) (pc' := 9) dX11_round_8 rfl rfl rfl ?_
    obtain ⟨c3, h⟩ := h
    refine u_if_eq (tgt := 19) (pc' := 12) dX11_round_9 rfl (by decide) c3 (fun hb => ?_) (fun hb => ?_)
    · have h := h.1 hb
      refine u_sipush (pc' := 22) dX11_round_19 rfl (by decide) ?_
      refine u_iload_n (i := 1) (pc' := 23) dX11_round_22 rfl rfl rfl ?_
      refine u_imul (pc' := 24) dX11_round_23 rfl ?_
      refine s_istore_n (i := 3) (ls' := [some (vR 140), some (vI a0), some (vI a1), some (vI (1000 * a0)), none, none]) (pc' := 25) dX11_round_24 rfl rfl (Nat.le_of_ble_eq_true rfl) rfl rfl ?_
      refine u_iconst (pc' := 26) dX11_round_25 rfl ?_
      refine s_istore (i := 4) (ls' := [some (vR 140), some (vI a0), some (vI a1), some (vI (1000 * a0)), some (vI 1), none]) (pc' := 28) dX11_round_26 rfl (Nat.le_of_ble_eq_true rfl) rfl rfl ?_
      exact u_less (ls' := [some (vR 140), none, some (vI a1), some (vI (1000 * a0)), some (vI 1), none]) ⟨rfl, ⟨rfl, ⟨rfl, ⟨rfl, trivial⟩⟩⟩⟩ h
    · have h := h.2 hb
      refine u_iload_n (i := 2) (pc' := 13) dX11_round_12 rfl rfl rfl ?_
      refine u_iconst (pc' := 14) dX11_round_13 rfl ?_
      refine u_icmp_eq (tgt := 19) (pc' := 17) dX11_round_14 rfl (by decide) c3 ⟨by decide, by decide⟩ (fun hb => ?_) (fun hb => ?_)
      · have h := h.1 hb
        refine u_sipush (pc' := 22) dX11_round_19 rfl (by decide) ?_
        refine u_iload_n (i := 1) (pc' := 23) dX11_round_22 rfl rfl rfl ?_
        refine u_imul (pc' := 24) dX11_round_23 rfl ?_
        refine s_istore_n (i := 3) (ls' := [some (vR 140), some (vI a0), some (vI a1), some (vI (1000 * a0)), none, none]) (pc' := 25) dX11_round_24 rfl rfl (Nat.le_of_ble_eq_true rfl) rfl rfl ?_
        refine u_iconst (pc' := 26) dX11_round_25 rfl ?_
        refine s_istore (i := 4) (ls' := [some (vR 140), some (vI a0), some (vI a1), some (vI (1000 * a0)), some (vI 1), none]) (pc' := 28) dX11_round_26 rfl (Nat.le_of_ble_eq_true rfl) rfl rfl ?_
        exact u_less (ls' := [some (vR 140), none, some (vI a1), some (vI (1000 * a0)), some (vI 1), none]) ⟨rfl, ⟨rfl, ⟨rfl, ⟨rfl, trivial⟩⟩⟩⟩ h
      · have h := h.2 hb
        refine u_iconst (pc' := 18) dX11_round_17 rfl ?_
        exact u_iret dX11_round_18 rfl h
theorem mX11_round {E : mm_Env} {d : Nat} {τ : mm_Mem} {Q : mm_Q0} {a0 : Int} {a1 : Int} (h : M0 E d qX11_isTune [vR 140, vI a0] τ (fun v τ1 => ∃ b2 : Bool, v = some (vB b2) ∧ ((b2 = false → Q (some (vI (-1))) τ1) ∧ (b2 = true → inR a1 ∧ ((a1 = 0 → V0 E (d + 1) qX11_round 28 [some (vR 140), none, some (vI a1), some (vI (1000 * a0)), some (vI 1), none] [] τ1 Q) ∧ (¬ a1 = 0 → ((a1 = 1 → V0 E (d + 1) qX11_round 28 [some (vR 140), none, some (vI a1), some (vI (1000 * a0)), some (vI 1), none] [] τ1 Q) ∧ (¬ a1 = 1 → Q (some (vI (-1))) τ1)))))))) : M0 E (d + 1) qX11_round [vR 140, vI a0, vI a1] τ Q := M0_of rfl (Nat.le_of_ble_eq_true rfl) [some (vR 140), some (vI a0), some (vI a1), none, none, none] rfl (bX11_round_0  h)
set_option maxRecDepth 20000 in
theorem bX11_round_28 {E : mm_Env} {d : Nat} {τ : mm_Mem} {Q : mm_Q0} {x2 : Int} {x3 : Int} {x4 : Int} (h : inR x4 ∧ ((1000 ≤ x4 → Q (some (vI (-1))) τ) ∧ (¬ 1000 ≤ x4 → V0 E (d + 1) qX11_round 39 [some (vR 140), none, some (vI x2), some (vI x3), some (vI x4), some (vI 0)] [] τ Q))) : V0 E (d + 1) qX11_round 28 [some (vR 140), none, some (vI x2), some (vI x3), some (vI x4), none] [] τ Q := by
  refine u_iload (i := 4) (pc' := 30) dX11_round_28 rfl rfl ?_
  refine u_sipush (pc' := 33) dX11_round_30 rfl (by decide) ?_
  obtain ⟨c1, h⟩ := h
  refine u_icmp_ge (tgt := 115) (pc' := 36) dX11_round_33 rfl (by decide) c1 ⟨by decide, by decide⟩ (fun hb => ?_) (fun hb => ?_)
  · have h := h.1 hb
    refine u_iconst (pc' := 116) dX11_round_115 rfl ?_
    exact u_iret dX11_round_116 rfl h
  · have h := h.2 hb
    refine u_iconst (pc' := 37) dX11_round_36 rfl ?_
    refine s_istore (i := 5) (ls' := [some (vR 140), none, some (vI x2), some (vI x3), some (vI x4), some (vI 0)]) (pc' := 39) dX11_round_37 rfl (Nat.le_of_ble_eq_true rfl) rfl rfl ?_
    exact u_less (ls' := [some (vR 140), none, some (vI x2), some (vI x3), some (vI x4), some (vI 0)]) ⟨rfl, ⟨rfl, ⟨rfl, ⟨rfl, ⟨rfl, trivial⟩⟩⟩⟩⟩ h
set_option maxRecDepth 20000 in
theorem bX11_round_39 {E : mm_Env} {d : Nat} {τ : mm_Mem} {Q : mm_Q0} {x2 : Int} {x3 : Int} {x4 : Int} {x5 : Int} (h : inR x5 ∧ inR x4 ∧ ((x4 ≤ x5 → V0 E (d + 1) qX11_round 28 [some (vR 140), none, some (vI x2), some (vI x3), some (vI (x4 + 1)), none] [] τ Q) ∧ (¬ x4 ≤ x5 → 0 ≤ (x3 + x5) ∧ (x3 + x5) < 3000 ∧ 0 ≤ (x3 + x4) ∧ (x3 + x4) < 3000 ∧ (((τ 178 (x3 + x5).toNat) ≠ (τ 178 (x3 + x4).toNat) → V0 E (d + 1) qX11_round 39 [some (vR 140), none, some (vI x2), some (vI x3), some (vI x4), some (vI (x5 + 1))] [] τ Q) ∧ ((τ 178 (x3 + x5).toNat) = (τ 178 (x3 + x4).toNat) → 0 ≤ (x3 + x5) ∧ (x3 + x5) < 3000 ∧ 0 ≤ (x3 + x4) ∧ (x3 + x4) < 3000 ∧ (((τ 177 (x3 + x5).toNat) ≠ (τ 177 (x3 + x4).toNat) → V0 E (d + 1) qX11_round 39 [some (vR 140), none, some (vI x2), some (vI x3), some (vI x4), some (vI (x5 + 1))] [] τ Q) ∧ ((τ 177 (x3 + x5).toNat) = (τ 177 (x3 + x4).toNat) → inR x2 ∧ ((x2 ≠ 0 → Q (some (vI (x4 - x5))) τ) ∧ (x2 = 0 → Q (some (vI x5)) τ))))))))) : V0 E (d + 1) qX11_round 39 [some (vR 140), none, some (vI x2), some (vI x3), some (vI x4), some (vI x5)] [] τ Q := by
  refine u_iload (i := 5) (pc' := 41) dX11_round_39 rfl rfl ?_
  refine u_iload (i := 4) (pc' := 43) dX11_round_41 rfl rfl ?_
  obtain ⟨c1, c2, h⟩ := h
  refine u_icmp_ge (tgt := 109) (pc' := 46) dX11_round_43 rfl (by decide) c1 c2 (fun hb => ?_) (fun hb => ?_)
  · have h := h.1 hb
    refine s_iinc (i := 4) (ls' := [some (vR 140), none, some (vI x2), some (vI x3), some (vI (x4 + 1)), some (vI x5)]) (pc' := 112) dX11_round_109 rfl rfl (Nat.le_of_ble_eq_true rfl) rfl rfl ?_
    refine u_goto (tgt := 28) dX11_round_112 (by decide) ?_
    exact u_less (ls' := [some (vR 140), none, some (vI x2), some (vI x3), some (vI (x4 + 1)), none]) ⟨rfl, ⟨rfl, ⟨rfl, ⟨rfl, trivial⟩⟩⟩⟩ h
  · have h := h.2 hb
    refine u_aload_n (i := 0) (pc' := 47) dX11_round_46 rfl rfl rfl ?_
    refine u_getR (a := 178) (pc' := 50) dX11_round_47 rfl fl_TuneDoorModel_180 rfl (by decide) kd_140 rfl ?_
    refine u_iload_n (i := 3) (pc' := 51) dX11_round_50 rfl rfl rfl ?_
    refine u_iload (i := 5) (pc' := 53) dX11_round_51 rfl rfl ?_
    refine u_iadd (pc' := 54) dX11_round_53 rfl ?_
    obtain ⟨c3, c4, h⟩ := h
    refine u_iaload (k := (x3 + x5).toNat) (z := (τ 178 (x3 + x5).toNat)) (pc' := 55) dX11_round_54 rfl (by decide) kd_178 c3 c4 (by decide) rfl rfl (fun r5 => ?_)
    refine u_aload_n (i := 0) (pc' := 56) dX11_round_55 rfl rfl rfl ?_
    refine u_getR (a := 178) (pc' := 59) dX11_round_56 rfl fl_TuneDoorModel_180 rfl (by decide) kd_140 rfl ?_
    refine u_iload_n (i := 3) (pc' := 60) dX11_round_59 rfl rfl rfl ?_
    refine u_iload (i := 4) (pc' := 62) dX11_round_60 rfl rfl ?_
    refine u_iadd (pc' := 63) dX11_round_62 rfl ?_
    obtain ⟨c6, c7, h⟩ := h
    refine u_iaload (k := (x3 + x4).toNat) (z := (τ 178 (x3 + x4).toNat)) (pc' := 64) dX11_round_63 rfl (by decide) kd_178 c6 c7 (by decide) rfl rfl (fun r8 => ?_)
    refine u_icmp_ne (tgt := 103) (pc' := 67) dX11_round_64 rfl (by decide) r5 r8 (fun hb => ?_) (fun hb => ?_)
    · have h := h.1 hb
      refine s_iinc (i := 5) (ls' := [some (vR 140), none, some (vI x2), some (vI x3), some (vI x4), some (vI (x5 + 1))]) (pc' := 106) dX11_round_103 rfl rfl (Nat.le_of_ble_eq_true rfl) rfl rfl ?_
      refine u_goto (tgt := 39) dX11_round_106 (by decide) ?_
      exact u_less (ls' := [some (vR 140), none, some (vI x2), some (vI x3), some (vI x4), some (vI (x5 + 1))]) ⟨rfl, ⟨rfl, ⟨rfl, ⟨rfl, ⟨rfl, trivial⟩⟩⟩⟩⟩ h
    · have h := h.2 hb
      refine u_aload_n (i := 0) (pc' := 68) dX11_round_67 rfl rfl rfl ?_
      refine u_getR (a := 177) (pc' := 71) dX11_round_68 rfl fl_TuneDoorModel_177 rfl (by decide) kd_140 rfl ?_
      refine u_iload_n (i := 3) (pc' := 72) dX11_round_71 rfl rfl rfl ?_
      refine u_iload (i := 5) (pc' := 74) dX11_round_72 rfl rfl ?_
      refine u_iadd (pc' := 75) dX11_round_74 rfl ?_
      obtain ⟨c9, c10, h⟩ := h
      refine u_iaload (k := (x3 + x5).toNat) (z := (τ 177 (x3 + x5).toNat)) (pc' := 76) dX11_round_75 rfl (by decide) kd_177 c9 c10 (by decide) rfl rfl (fun r11 => ?_)
      refine u_aload_n (i := 0) (pc' := 77) dX11_round_76 rfl rfl rfl ?_
      refine u_getR (a := 177) (pc' := 80) dX11_round_77 rfl fl_TuneDoorModel_177 rfl (by decide) kd_140 rfl ?_
      refine u_iload_n (i := 3) (pc' := 81) dX11_round_80 rfl rfl rfl ?_
      refine u_iload (i := 4) (pc' := 83) dX11_round_81 rfl rfl ?_
      refine u_iadd (pc' := 84) dX11_round_83 rfl ?_
      obtain ⟨c12, c13, h⟩ := h
      refine u_iaload (k := (x3 + x4).toNat) (z := (τ 177 (x3 + x4).toNat)) (pc' := 85) dX11_round_84 rfl (by decide) kd_177 c12 c13 (by decide) rfl rfl (fun r14 => ?_)
      refine u_icmp_ne (tgt := 103) (pc' := 88) dX11_round_85 rfl (by decide) r11 r14 (fun hb => ?_) (fun hb => ?_)
      · have h := h.1 hb
        refine s_iinc (i := 5) (ls' := [some (vR 140), none, some (vI x2), some (vI x3), some (vI x4), some (vI (x5 + 1))]) (pc' := 106) dX11_round_103 rfl rfl (Nat.le_of_ble_eq_true rfl) rfl rfl ?_
        refine u_goto (tgt := 39) dX11_round_106 (by decide) ?_
        exact u_less (ls' := [some (vR 140), none, some (vI x2), some (vI x3), some (vI x4), some (vI (x5 + 1))]) ⟨rfl, ⟨rfl, ⟨rfl, ⟨rfl, ⟨rfl, trivial⟩⟩⟩⟩⟩ h
      · have h := h.2 hb
        refine u_iload_n (i := 2) (pc' := 89) dX11_round_88 rfl rfl rfl ?_
        obtain ⟨c15, h⟩ := h
        refine u_if_ne (tgt := 97) (pc' := 92) dX11_round_89 rfl (by decide) c15 (fun hb => ?_) (fun hb => ?_)
        · have h := h.1 hb
          refine u_iload (i := 4) (pc' := 99) dX11_round_97 rfl rfl ?_
          refine u_iload (i := 5) (pc' := 101) dX11_round_99 rfl rfl ?_
          refine u_isub (pc' := 102) dX11_round_101 rfl ?_
          exact u_iret dX11_round_102 rfl h
        · have h := h.2 hb
          refine u_iload (i := 5) (pc' := 94) dX11_round_92 rfl rfl ?_
          refine u_goto (tgt := 102) dX11_round_94 (by decide) ?_
          exact u_iret dX11_round_102 rfl h
set_option maxRecDepth 20000 in
theorem bX11_find_0 {E : mm_Env} {d : Nat} {τ : mm_Mem} {Q : mm_Q0} {a0 : Int} {a1 : Int} {a2 : Int} (h : M0 E d qX11_isTune [vR 140, vI a0] τ (fun v τ1 => ∃ b2 : Bool, v = some (vB b2) ∧ ((b2 = false → Q (some (vI (-1))) τ1) ∧ (b2 = true → M0 E d qX11_isWhistle [vI a1] τ1 (fun v τ3 => ∃ b4 : Bool, v = some (vB b4) ∧ ((b4 = true → V0 E (d + 1) qX11_find 20 [some (vR 140), some (vI a0), none, some (vI a2), some (vI a1)] [] τ3 Q) ∧ (b4 = false → Q (some (vI (-1))) τ3))))))) : V0 E (d + 1) qX11_find 0 [some (vR 140), some (vI a0), some (vI a1), some (vI a2), none] [] τ Q := by
  refine u_aload_n (i := 0) (pc' := 1) dX11_find_0 rfl rfl rfl ?_
  refine u_iload_n (i := 1) (pc' := 2) dX11_find_1 rfl rfl rfl ?_
  refine u_invV (q' := qX11_isTune) (As := [vI a0]) (st := []) (pc' := 5) dX11_find_2 rfl gX11_isTune wm_1712 rfl rfl (by decide) kd_140 wm_1714 wp_114 rfl (Nat.le_of_ble_eq_true rfl) (M0.mono h (fun v τ1 h => ?_))
  obtain ⟨b2, rfl, h⟩ := h
  show V0 E (d + 1) qX11_find 5 [some (vR 140), some (vI a0), some (vI a1), some (vI a2), none] [vB b2] τ1 Q
  refine u_if_eq (tgt := 15) (pc' := 8) dX11_find_5 rfl (by decide) (bI_R _) (fun hb => ?_) (fun hb => ?_)
  · have h := h.1 (bI_0.mp hb)
    refine u_iconst (pc' := 16) dX11_find_15 rfl ?_
    exact u_iret dX11_find_16 rfl h
  · have h := h.2 (bI_n0.mp hb)
    refine u_iload_n (i := 2) (pc' := 9) dX11_find_8 rfl rfl rfl ?_
    refine u_invS (q' := qX11_isWhistle) (As := [vI a1]) (st := []) (pc' := 12) dX11_find_9 rfl gX11_isWhistle wm_1716 wm_1717 rfl (Nat.le_of_ble_eq_true rfl) (M0.mono h (fun v τ3 h => ?_))
    obtain ⟨b4, rfl, h⟩ := h
    show V0 E (d + 1) qX11_find 12 [some (vR 140), some (vI a0), some (vI a1), some (vI a2), none] [vB b4] τ3 Q
    refine u_if_ne (tgt := 17) (pc' := 15) dX11_find_12 rfl (by decide) (bI_R _) (fun hb => ?_) (fun hb => ?_)
    · have h := h.1 (bI_n0.mp hb)
      refine u_iload_n (i := 2) (pc' := 18) dX11_find_17 rfl rfl rfl ?_
      refine s_istore (i := 4) (ls' := [some (vR 140), some (vI a0), some (vI a1), some (vI a2), some (vI a1)]) (pc' := 20) dX11_find_18 rfl (Nat.le_of_ble_eq_true rfl) rfl rfl ?_
      exact u_less (ls' := [some (vR 140), some (vI a0), none, some (vI a2), some (vI a1)]) ⟨rfl, ⟨rfl, ⟨rfl, ⟨rfl, trivial⟩⟩⟩⟩ h
    · have h := h.2 (bI_0.mp hb)
      refine u_iconst (pc' := 16) dX11_find_15 rfl ?_
      exact u_iret dX11_find_16 rfl h
theorem mX11_find {E : mm_Env} {d : Nat} {τ : mm_Mem} {Q : mm_Q0} {a0 : Int} {a1 : Int} {a2 : Int} (h : M0 E d qX11_isTune [vR 140, vI a0] τ (fun v τ1 => ∃ b2 : Bool, v = some (vB b2) ∧ ((b2 = false → Q (some (vI (-1))) τ1) ∧ (b2 = true → M0 E d qX11_isWhistle [vI a1] τ1 (fun v τ3 => ∃ b4 : Bool, v = some (vB b4) ∧ ((b4 = true → V0 E (d + 1) qX11_find 20 [some (vR 140), some (vI a0), none, some (vI a2), some (vI a1)] [] τ3 Q) ∧ (b4 = false → Q (some (vI (-1))) τ3))))))) : M0 E (d + 1) qX11_find [vR 140, vI a0, vI a1, vI a2] τ Q := M0_of rfl (Nat.le_of_ble_eq_true rfl) [some (vR 140), some (vI a0), some (vI a1), some (vI a2), none] rfl (bX11_find_0  h)
set_option maxRecDepth 20000 in
theorem bX11_find_20 {E : mm_Env} {d : Nat} {τ : mm_Mem} {Q : mm_Q0} {x1 : Int} {x3 : Int} {x4 : Int} (h : inR x4 ∧ ((1000 ≤ x4 → Q (some (vI (-1))) τ) ∧ (¬ 1000 ≤ x4 → 0 ≤ ((1000 * x1) + x4) ∧ ((1000 * x1) + x4) < 3000 ∧ inR x3 ∧ (((τ 178 ((1000 * x1) + x4).toNat) ≠ x3 → V0 E (d + 1) qX11_find 20 [some (vR 140), some (vI x1), none, some (vI x3), some (vI (x4 + 1))] [] τ Q) ∧ ((τ 178 ((1000 * x1) + x4).toNat) = x3 → Q (some (vI x4)) τ))))) : V0 E (d + 1) qX11_find 20 [some (vR 140), some (vI x1), none, some (vI x3), some (vI x4)] [] τ Q := by
  refine u_iload (i := 4) (pc' := 22) dX11_find_20 rfl rfl ?_
  refine u_sipush (pc' := 25) dX11_find_22 rfl (by decide) ?_
  obtain ⟨c1, h⟩ := h
  refine u_icmp_ge (tgt := 54) (pc' := 28) dX11_find_25 rfl (by decide) c1 ⟨by decide, by decide⟩ (fun hb => ?_) (fun hb => ?_)
  · have h := h.1 hb
    refine u_iconst (pc' := 55) dX11_find_54 rfl ?_
    exact u_iret dX11_find_55 rfl h
  · have h := h.2 hb
    refine u_aload_n (i := 0) (pc' := 29) dX11_find_28 rfl rfl rfl ?_
    refine u_getR (a := 178) (pc' := 32) dX11_find_29 rfl fl_TuneDoorModel_180 rfl (by decide) kd_140 rfl ?_
    refine u_sipush (pc' := 35) dX11_find_32 rfl (by decide) ?_
    refine u_iload_n (i := 1) (pc' := 36) dX11_find_35 rfl rfl rfl ?_
    refine u_imul (pc' := 37) dX11_find_36 rfl ?_
    refine u_iload (i := 4) (pc' := 39) dX11_find_37 rfl rfl ?_
    refine u_iadd (pc' := 40) dX11_find_39 rfl ?_
    obtain ⟨c2, c3, h⟩ := h
    refine u_iaload (k := ((1000 * x1) + x4).toNat) (z := (τ 178 ((1000 * x1) + x4).toNat)) (pc' := 41) dX11_find_40 rfl (by decide) kd_178 c2 c3 (by decide) rfl rfl (fun r4 => ?_)
    refine u_iload_n (i := 3) (pc' := 42) dX11_find_41 rfl rfl rfl ?_
    obtain ⟨c5, h⟩ := h
    refine u_icmp_ne (tgt := 48) (pc' := 45) dX11_find_42 rfl (by decide) r4 c5 (fun hb => ?_) (fun hb => ?_)
    · have h := h.1 hb
      refine s_iinc (i := 4) (ls' := [some (vR 140), some (vI x1), none, some (vI x3), some (vI (x4 + 1))]) (pc' := 51) dX11_find_48 rfl rfl (Nat.le_of_ble_eq_true rfl) rfl rfl ?_
      refine u_goto (tgt := 20) dX11_find_51 (by decide) ?_
      exact u_less (ls' := [some (vR 140), some (vI x1), none, some (vI x3), some (vI (x4 + 1))]) ⟨rfl, ⟨rfl, ⟨rfl, ⟨rfl, trivial⟩⟩⟩⟩ h
    · have h := h.2 hb
      refine u_iload (i := 4) (pc' := 47) dX11_find_45 rfl rfl ?_
      exact u_iret dX11_find_47 rfl h
set_option maxRecDepth 20000 in
theorem bX11_opened_0 {E : mm_Env} {d : Nat} {τ : mm_Mem} {Q : mm_Q0} {a0 : Int} {a1 : Int} (h : M0 E d qX11_isDoor [vR 140, vI a0] τ (fun v τ1 => ∃ b2 : Bool, v = some (vB b2) ∧ ((b2 = true → inR a1 ∧ ((a1 ≠ 0 → ((a1 ≠ 1 → ((a1 ≠ 2 → Q (some (vI (-1))) τ1) ∧ (a1 = 2 → 0 ≤ a0 ∧ a0 < 4 ∧ Q (some (vI (τ1 187 a0.toNat))) τ1))) ∧ (a1 = 1 → 0 ≤ a0 ∧ a0 < 4 ∧ Q (some (vI (τ1 186 a0.toNat))) τ1))) ∧ (a1 = 0 → 0 ≤ a0 ∧ a0 < 4 ∧ Q (some (vI (τ1 185 a0.toNat))) τ1))) ∧ (b2 = false → Q (some (vI (-1))) τ1)))) : V0 E (d + 1) qX11_opened 0 [some (vR 140), some (vI a0), some (vI a1)] [] τ Q := by
  refine u_aload_n (i := 0) (pc' := 1) dX11_opened_0 rfl rfl rfl ?_
  refine u_iload_n (i := 1) (pc' := 2) dX11_opened_1 rfl rfl rfl ?_
  refine u_invV (q' := qX11_isDoor) (As := [vI a0]) (st := []) (pc' := 5) dX11_opened_2 rfl gX11_isDoor wm_1684 rfl rfl (by decide) kd_140 wm_1686 wp_109 rfl (Nat.le_of_ble_eq_true rfl) (M0.mono h (fun v τ1 h => ?_))
  obtain ⟨b2, rfl, h⟩ := h
  show V0 E (d + 1) qX11_opened 5 [some (vR 140), some (vI a0), some (vI a1)] [vB b2] τ1 Q
  refine u_if_ne (tgt := 12) (pc' := 8) dX11_opened_5 rfl (by decide) (bI_R _) (fun hb => ?_) (fun hb => ?_)
  · have h := h.1 (bI_n0.mp hb)
    refine u_iload_n (i := 2) (pc' := 13) dX11_opened_12 rfl rfl rfl ?_
    obtain ⟨c3, h⟩ := h
    refine u_if_ne (tgt := 25) (pc' := 16) dX11_opened_13 rfl (by decide) c3 (fun hb => ?_) (fun hb => ?_)
    · have h := h.1 hb
      refine u_iload_n (i := 2) (pc' := 26) dX11_opened_25 rfl rfl rfl ?_
      refine u_iconst (pc' := 27) dX11_opened_26 rfl ?_
      refine u_icmp_ne (tgt := 39) (pc' := 30) dX11_opened_27 rfl (by decide) c3 ⟨by decide, by decide⟩ (fun hb => ?_) (fun hb => ?_)
      · have h := h.1 hb
        refine u_iload_n (i := 2) (pc' := 40) dX11_opened_39 rfl rfl rfl ?_
        refine u_iconst (pc' := 41) dX11_opened_40 rfl ?_
        refine u_icmp_ne (tgt := 53) (pc' := 44) dX11_opened_41 rfl (by decide) c3 ⟨by decide, by decide⟩ (fun hb => ?_) (fun hb => ?_)
        · have h := h.1 hb
          refine u_iconst (pc' := 54) dX11_opened_53 rfl ?_
          exact u_iret dX11_opened_54 rfl h
        · have h := h.2 hb
          refine u_aload_n (i := 0) (pc' := 45) dX11_opened_44 rfl rfl rfl ?_
          refine u_getR (a := 187) (pc' := 48) dX11_opened_45 rfl fl_TuneDoorModel_207 rfl (by decide) kd_140 rfl ?_
          refine u_iload_n (i := 1) (pc' := 49) dX11_opened_48 rfl rfl rfl ?_
          obtain ⟨c4, c5, h⟩ := h
          refine u_iaload (k := a0.toNat) (z := (τ1 187 a0.toNat)) (pc' := 50) dX11_opened_49 rfl (by decide) kd_187 c4 c5 (by decide) rfl rfl (fun r6 => ?_)
          refine u_goto (tgt := 54) dX11_opened_50 (by decide) ?_
          exact u_iret dX11_opened_54 rfl h
      · have h := h.2 hb
        refine u_aload_n (i := 0) (pc' := 31) dX11_opened_30 rfl rfl rfl ?_
        refine u_getR (a := 186) (pc' := 34) dX11_opened_31 rfl fl_TuneDoorModel_204 rfl (by decide) kd_140 rfl ?_
        refine u_iload_n (i := 1) (pc' := 35) dX11_opened_34 rfl rfl rfl ?_
        obtain ⟨c7, c8, h⟩ := h
        refine u_iaload (k := a0.toNat) (z := (τ1 186 a0.toNat)) (pc' := 36) dX11_opened_35 rfl (by decide) kd_186 c7 c8 (by decide) rfl rfl (fun r9 => ?_)
        refine u_goto (tgt := 54) dX11_opened_36 (by decide) ?_
        exact u_iret dX11_opened_54 rfl h
    · have h := h.2 hb
      refine u_aload_n (i := 0) (pc' := 17) dX11_opened_16 rfl rfl rfl ?_
      refine u_getR (a := 185) (pc' := 20) dX11_opened_17 rfl fl_TuneDoorModel_201 rfl (by decide) kd_140 rfl ?_
      refine u_iload_n (i := 1) (pc' := 21) dX11_opened_20 rfl rfl rfl ?_
      obtain ⟨c10, c11, h⟩ := h
      refine u_iaload (k := a0.toNat) (z := (τ1 185 a0.toNat)) (pc' := 22) dX11_opened_21 rfl (by decide) kd_185 c10 c11 (by decide) rfl rfl (fun r12 => ?_)
      refine u_goto (tgt := 54) dX11_opened_22 (by decide) ?_
      exact u_iret dX11_opened_54 rfl h
  · have h := h.2 (bI_0.mp hb)
    refine u_iconst (pc' := 9) dX11_opened_8 rfl ?_
    refine u_goto (tgt := 54) dX11_opened_9 (by decide) ?_
    exact u_iret dX11_opened_54 rfl h
theorem mX11_opened {E : mm_Env} {d : Nat} {τ : mm_Mem} {Q : mm_Q0} {a0 : Int} {a1 : Int} (h : M0 E d qX11_isDoor [vR 140, vI a0] τ (fun v τ1 => ∃ b2 : Bool, v = some (vB b2) ∧ ((b2 = true → inR a1 ∧ ((a1 ≠ 0 → ((a1 ≠ 1 → ((a1 ≠ 2 → Q (some (vI (-1))) τ1) ∧ (a1 = 2 → 0 ≤ a0 ∧ a0 < 4 ∧ Q (some (vI (τ1 187 a0.toNat))) τ1))) ∧ (a1 = 1 → 0 ≤ a0 ∧ a0 < 4 ∧ Q (some (vI (τ1 186 a0.toNat))) τ1))) ∧ (a1 = 0 → 0 ≤ a0 ∧ a0 < 4 ∧ Q (some (vI (τ1 185 a0.toNat))) τ1))) ∧ (b2 = false → Q (some (vI (-1))) τ1)))) : M0 E (d + 1) qX11_opened [vR 140, vI a0, vI a1] τ Q := M0_of rfl (Nat.le_of_ble_eq_true rfl) [some (vR 140), some (vI a0), some (vI a1)] rfl (bX11_opened_0  h)
set_option maxRecDepth 20000 in
theorem bX11_ear_0 {E : mm_Env} {d : Nat} {τ : mm_Mem} {Q : mm_Q0} {a0 : Int} {a1 : Int} {a2 : Int} (h : M0 E d qX11_isDoor [vR 140, vI a0] τ (fun v τ1 => ∃ b2 : Bool, v = some (vB b2) ∧ ((b2 = false → Q (some (vI (-1))) τ1) ∧ (b2 = true → M0 E d qX11_isTune [vR 140, vI a1] τ1 (fun v τ3 => ∃ b4 : Bool, v = some (vB b4) ∧ ((b4 = false → Q (some (vI (-1))) τ3) ∧ (b4 = true → M0 E d qX11_isEar [vR 140, vI a0, vI a1] τ3 (fun v τ5 => ∃ b6 : Bool, v = some (vB b6) ∧ ((b6 = true → inR a2 ∧ ((a2 ≠ 0 → ((a2 ≠ 1 → ((a2 ≠ 2 → Q (some (vI (-1))) τ5) ∧ (a2 = 2 → 0 ≤ ((3 * a0) + a1) ∧ ((3 * a0) + a1) < 12 ∧ Q (some (vI (τ5 184 ((3 * a0) + a1).toNat))) τ5))) ∧ (a2 = 1 → 0 ≤ ((3 * a0) + a1) ∧ ((3 * a0) + a1) < 12 ∧ Q (some (vI (τ5 183 ((3 * a0) + a1).toNat))) τ5))) ∧ (a2 = 0 → 0 ≤ ((3 * a0) + a1) ∧ ((3 * a0) + a1) < 12 ∧ Q (some (vI (τ5 182 ((3 * a0) + a1).toNat))) τ5))) ∧ (b6 = false → Q (some (vI (-1))) τ5)))))))))) : V0 E (d + 1) qX11_ear 0 [some (vR 140), some (vI a0), some (vI a1), some (vI a2), none] [] τ Q := by
  refine u_aload_n (i := 0) (pc' := 1) dX11_ear_0 rfl rfl rfl ?_
  refine u_iload_n (i := 1) (pc' := 2) dX11_ear_1 rfl rfl rfl ?_
  refine u_invV (q' := qX11_isDoor) (As := [vI a0]) (st := []) (pc' := 5) dX11_ear_2 rfl gX11_isDoor wm_1684 rfl rfl (by decide) kd_140 wm_1686 wp_109 rfl (Nat.le_of_ble_eq_true rfl) (M0.mono h (fun v τ1 h => ?_))
  obtain ⟨b2, rfl, h⟩ := h
  show V0 E (d + 1) qX11_ear 5 [some (vR 140), some (vI a0), some (vI a1), some (vI a2), none] [vB b2] τ1 Q
  refine u_if_eq (tgt := 25) (pc' := 8) dX11_ear_5 rfl (by decide) (bI_R _) (fun hb => ?_) (fun hb => ?_)
  · have h := h.1 (bI_0.mp hb)
    refine u_iconst (pc' := 26) dX11_ear_25 rfl ?_
    exact u_iret dX11_ear_26 rfl h
  · have h := h.2 (bI_n0.mp hb)
    refine u_aload_n (i := 0) (pc' := 9) dX11_ear_8 rfl rfl rfl ?_
    refine u_iload_n (i := 2) (pc' := 10) dX11_ear_9 rfl rfl rfl ?_
    refine u_invV (q' := qX11_isTune) (As := [vI a1]) (st := []) (pc' := 13) dX11_ear_10 rfl gX11_isTune wm_1712 rfl rfl (by decide) kd_140 wm_1714 wp_114 rfl (Nat.le_of_ble_eq_true rfl) (M0.mono h (fun v τ3 h => ?_))
    obtain ⟨b4, rfl, h⟩ := h
    show V0 E (d + 1) qX11_ear 13 [some (vR 140), some (vI a0), some (vI a1), some (vI a2), none] [vB b4] τ3 Q
    refine u_if_eq (tgt := 25) (pc' := 16) dX11_ear_13 rfl (by decide) (bI_R _) (fun hb => ?_) (fun hb => ?_)
    · have h := h.1 (bI_0.mp hb)
      refine u_iconst (pc' := 26) dX11_ear_25 rfl ?_
      exact u_iret dX11_ear_26 rfl h
    · have h := h.2 (bI_n0.mp hb)
      refine u_aload_n (i := 0) (pc' := 17) dX11_ear_16 rfl rfl rfl ?_
      refine u_iload_n (i := 1) (pc' := 18) dX11_ear_17 rfl rfl rfl ?_
      refine u_iload_n (i := 2) (pc' := 19) dX11_ear_18 rfl rfl rfl ?_
      refine u_invV (q' := qX11_isEar) (As := [vI a0, vI a1]) (st := []) (pc' := 22) dX11_ear_19 rfl gX11_isEar wm_1688 rfl rfl (by decide) kd_140 wm_1690 wp_110 rfl (Nat.le_of_ble_eq_true rfl) (M0.mono h (fun v τ5 h => ?_))
      obtain ⟨b6, rfl, h⟩ := h
      show V0 E (d + 1) qX11_ear 22 [some (vR 140), some (vI a0), some (vI a1), some (vI a2), none] [vB b6] τ5 Q
      refine u_if_ne (tgt := 27) (pc' := 25) dX11_ear_22 rfl (by decide) (bI_R _) (fun hb => ?_) (fun hb => ?_)
      · have h := h.1 (bI_n0.mp hb)
        refine u_iconst (pc' := 28) dX11_ear_27 rfl ?_
        refine u_iload_n (i := 1) (pc' := 29) dX11_ear_28 rfl rfl rfl ?_
        refine u_imul (pc' := 30) dX11_ear_29 rfl ?_
        refine u_iload_n (i := 2) (pc' := 31) dX11_ear_30 rfl rfl rfl ?_
        refine u_iadd (pc' := 32) dX11_ear_31 rfl ?_
        refine s_istore (i := 4) (ls' := [some (vR 140), some (vI a0), some (vI a1), some (vI a2), some (vI ((3 * a0) + a1))]) (pc' := 34) dX11_ear_32 rfl (Nat.le_of_ble_eq_true rfl) rfl rfl ?_
        refine u_iload_n (i := 3) (pc' := 35) dX11_ear_34 rfl rfl rfl ?_
        obtain ⟨c7, h⟩ := h
        refine u_if_ne (tgt := 48) (pc' := 38) dX11_ear_35 rfl (by decide) c7 (fun hb => ?_) (fun hb => ?_)
        · have h := h.1 hb
          refine u_iload_n (i := 3) (pc' := 49) dX11_ear_48 rfl rfl rfl ?_
          refine u_iconst (pc' := 50) dX11_ear_49 rfl ?_
          refine u_icmp_ne (tgt := 63) (pc' := 53) dX11_ear_50 rfl (by decide) c7 ⟨by decide, by decide⟩ (fun hb => ?_) (fun hb => ?_)
          · have h := h.1 hb
            refine u_iload_n (i := 3) (pc' := 64) dX11_ear_63 rfl rfl rfl ?_
            refine u_iconst (pc' := 65) dX11_ear_64 rfl ?_
            refine u_icmp_ne (tgt := 78) (pc' := 68) dX11_ear_65 rfl (by decide) c7 ⟨by decide, by decide⟩ (fun hb => ?_) (fun hb => ?_)
            · have h := h.1 hb
              refine u_iconst (pc' := 79) dX11_ear_78 rfl ?_
              exact u_iret dX11_ear_79 rfl h
            · have h := h.2 hb
              refine u_aload_n (i := 0) (pc' := 69) dX11_ear_68 rfl rfl rfl ?_
              refine u_getR (a := 184) (pc' := 72) dX11_ear_69 rfl fl_TuneDoorModel_198 rfl (by decide) kd_140 rfl ?_
              refine u_iload (i := 4) (pc' := 74) dX11_ear_72 rfl rfl ?_
              obtain ⟨c8, c9, h⟩ := h
              refine u_iaload (k := ((3 * a0) + a1).toNat) (z := (τ5 184 ((3 * a0) + a1).toNat)) (pc' := 75) dX11_ear_74 rfl (by decide) kd_184 c8 c9 (by decide) rfl rfl (fun r10 => ?_)
              refine u_goto (tgt := 79) dX11_ear_75 (by decide) ?_
              exact u_iret dX11_ear_79 rfl h
          · have h := h.2 hb
            refine u_aload_n (i := 0) (pc' := 54) dX11_ear_53 rfl rfl rfl ?_
            refine u_getR (a := 183) (pc' := 57) dX11_ear_54 rfl fl_TuneDoorModel_195 rfl (by decide) kd_140 rfl ?_
            refine u_iload (i := 4) (pc' := 59) dX11_ear_57 rfl rfl ?_
            obtain ⟨c11, c12, h⟩ := h
            refine u_iaload (k := ((3 * a0) + a1).toNat) (z := (τ5 183 ((3 * a0) + a1).toNat)) (pc' := 60) dX11_ear_59 rfl (by decide) kd_183 c11 c12 (by decide) rfl rfl (fun r13 => ?_)
            refine u_goto (tgt := 79) dX11_ear_60 (by decide) ?_
            exact u_iret dX11_ear_79 rfl h
        · have h := h.2 hb
          refine u_aload_n (i := 0) (pc' := 39) dX11_ear_38 rfl rfl rfl ?_
          refine u_getR (a := 182) (pc' := 42) dX11_ear_39 rfl fl_TuneDoorModel_192 rfl (by decide) kd_140 rfl ?_
          refine u_iload (i := 4) (pc' := 44) dX11_ear_42 rfl rfl ?_
          obtain ⟨c14, c15, h⟩ := h
          refine u_iaload (k := ((3 * a0) + a1).toNat) (z := (τ5 182 ((3 * a0) + a1).toNat)) (pc' := 45) dX11_ear_44 rfl (by decide) kd_182 c14 c15 (by decide) rfl rfl (fun r16 => ?_)
          refine u_goto (tgt := 79) dX11_ear_45 (by decide) ?_
          exact u_iret dX11_ear_79 rfl h
      · have h := h.2 (bI_0.mp hb)
        refine u_iconst (pc' := 26) dX11_ear_25 rfl ?_
        exact u_iret dX11_ear_26 rfl h
theorem mX11_ear {E : mm_Env} {d : Nat} {τ : mm_Mem} {Q : mm_Q0} {a0 : Int} {a1 : Int} {a2 : Int} (h : M0 E d qX11_isDoor [vR 140, vI a0] τ (fun v τ1 => ∃ b2 : Bool, v = some (vB b2) ∧ ((b2 = false → Q (some (vI (-1))) τ1) ∧ (b2 = true → M0 E d qX11_isTune [vR 140, vI a1] τ1 (fun v τ3 => ∃ b4 : Bool, v = some (vB b4) ∧ ((b4 = false → Q (some (vI (-1))) τ3) ∧ (b4 = true → M0 E d qX11_isEar [vR 140, vI a0, vI a1] τ3 (fun v τ5 => ∃ b6 : Bool, v = some (vB b6) ∧ ((b6 = true → inR a2 ∧ ((a2 ≠ 0 → ((a2 ≠ 1 → ((a2 ≠ 2 → Q (some (vI (-1))) τ5) ∧ (a2 = 2 → 0 ≤ ((3 * a0) + a1) ∧ ((3 * a0) + a1) < 12 ∧ Q (some (vI (τ5 184 ((3 * a0) + a1).toNat))) τ5))) ∧ (a2 = 1 → 0 ≤ ((3 * a0) + a1) ∧ ((3 * a0) + a1) < 12 ∧ Q (some (vI (τ5 183 ((3 * a0) + a1).toNat))) τ5))) ∧ (a2 = 0 → 0 ≤ ((3 * a0) + a1) ∧ ((3 * a0) + a1) < 12 ∧ Q (some (vI (τ5 182 ((3 * a0) + a1).toNat))) τ5))) ∧ (b6 = false → Q (some (vI (-1))) τ5)))))))))) : M0 E (d + 1) qX11_ear [vR 140, vI a0, vI a1, vI a2] τ Q := M0_of rfl (Nat.le_of_ble_eq_true rfl) [some (vR 140), some (vI a0), some (vI a1), some (vI a2), none] rfl (bX11_ear_0  h)
