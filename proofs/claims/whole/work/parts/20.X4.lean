set_option maxRecDepth 20000 in
theorem bX4_read_0 {E : mm_Env} {d : Nat} {τ : mm_Mem} {Q : mm_Q0} {a0 : Nat} (k_a0 : KD a0 = some (.inr 2)) (h : ∃ o1 : Nat, (a0 : Int) = (o1 : Int) ∧ KD o1 = some (.inr 2) ∧ M0 E d qX2_clear [vR o1] (wr τ 77 1 (a0 : Int)) (fun v τ4 => v = none ∧ M0 E d qX4_advance [vR 77] (wr τ4 77 2 (-1)) (fun v τ5 => v = none ∧ M0 E d qX4_readHead [vR 77] (wr (wr (wr τ5 77 5 0) 77 7 0) 77 8 (-1)) (fun v τ6 => ∃ b7 : Bool, v = some (vB b7) ∧ V0 E (d + 1) qX4_read 43 [some (vR 77), none, some (vB b7), some (vI 1)] [] τ6 Q)))) : V0 E (d + 1) qX4_read 0 [some (vR 77), some (vR a0), none, none] [] τ Q := by
  refine u_aload_n (i := 0) (pc' := 1) dX4_read_0 rfl rfl rfl ?_
  refine u_aload_n (i := 1) (pc' := 2) dX4_read_1 rfl rfl rfl ?_
  refine u_putR (pc' := 5) dX4_read_2 rfl fl_TuneDoor_Reader_19 rfl rfl rfl (by decide) kd_77 ?_
  refine u_aload_n (i := 0) (pc' := 6) dX4_read_5 rfl rfl rfl ?_
  obtain ⟨o1, z2, k3, h⟩ := h
  refine u_getD (a := o1) (pc' := 9) dX4_read_6 rfl fl_TuneDoor_Reader_19 rfl (by decide) kd_77 rfl (z2) ?_
  refine u_invV (q' := qX2_clear) (As := []) (st := []) (pc' := 12) dX4_read_9 rfl gX2_clear wm_558 rfl rfl (kHouse k3).1 k3 wm_559 wm_560 rfl (Nat.le_of_ble_eq_true rfl) (M0.mono h (fun v τ4 h => ?_))
  obtain ⟨rfl, h⟩ := h
  show V0 E (d + 1) qX4_read 12 [some (vR 77), some (vR a0), none, none] [] τ4 Q
  refine u_aload_n (i := 0) (pc' := 13) dX4_read_12 rfl rfl rfl ?_
  refine u_iconst (pc' := 14) dX4_read_13 rfl ?_
  refine u_putI (pc' := 17) dX4_read_14 rfl fl_TuneDoor_Reader_28 rfl rfl (by decide) (by decide) kd_77 ⟨by decide, by decide⟩ ?_
  refine u_aload_n (i := 0) (pc' := 18) dX4_read_17 rfl rfl rfl ?_
  refine u_invV (q' := qX4_advance) (As := []) (st := []) (pc' := 21) dX4_read_18 rfl gX4_advance wm_569 rfl rfl (by decide) kd_77 wm_571 wp_6 rfl (Nat.le_of_ble_eq_true rfl) (M0.mono h (fun v τ5 h => ?_))
  obtain ⟨rfl, h⟩ := h
  show V0 E (d + 1) qX4_read 21 [some (vR 77), some (vR a0), none, none] [] τ5 Q
  refine u_aload_n (i := 0) (pc' := 22) dX4_read_21 rfl rfl rfl ?_
  refine u_iconst (pc' := 23) dX4_read_22 rfl ?_
  refine u_putI (pc' := 26) dX4_read_23 rfl fl_TuneDoor_Reader_34 rfl rfl (by decide) (by decide) kd_77 ⟨by decide, by decide⟩ ?_
  refine u_aload_n (i := 0) (pc' := 27) dX4_read_26 rfl rfl rfl ?_
  refine u_iconst (pc' := 28) dX4_read_27 rfl ?_
  refine u_putI (pc' := 31) dX4_read_28 rfl fl_TuneDoor_Reader_37 rfl rfl (by decide) (by decide) kd_77 ⟨by decide, by decide⟩ ?_
  refine u_aload_n (i := 0) (pc' := 32) dX4_read_31 rfl rfl rfl ?_
  refine u_iconst (pc' := 33) dX4_read_32 rfl ?_
  refine u_putI (pc' := 36) dX4_read_33 rfl fl_TuneDoor_Reader_9 rfl rfl (by decide) (by decide) kd_77 ⟨by decide, by decide⟩ ?_
  refine u_aload_n (i := 0) (pc' := 37) dX4_read_36 rfl rfl rfl ?_
  refine u_invV (q' := qX4_readHead) (As := []) (st := []) (pc' := 40) dX4_read_37 rfl gX4_readHead wm_573 rfl rfl (by decide) kd_77 wm_575 wp_7 rfl (Nat.le_of_ble_eq_true rfl) (M0.mono h (fun v τ6 h => ?_))
  obtain ⟨b7, rfl, h⟩ := h
  show V0 E (d + 1) qX4_read 40 [some (vR 77), some (vR a0), none, none] [vB b7] τ6 Q
  refine s_istore_n (i := 2) (ls' := [some (vR 77), some (vR a0), some (vB b7), none]) (pc' := 41) dX4_read_40 rfl rfl (Nat.le_of_ble_eq_true rfl) rfl rfl ?_
  refine u_iconst (pc' := 42) dX4_read_41 rfl ?_
  refine s_istore_n (i := 3) (ls' := [some (vR 77), some (vR a0), some (vB b7), some (vI 1)]) (pc' := 43) dX4_read_42 rfl rfl (Nat.le_of_ble_eq_true rfl) rfl rfl ?_
  exact u_less (ls' := [some (vR 77), none, some (vB b7), some (vI 1)]) ⟨rfl, ⟨rfl, ⟨rfl, trivial⟩⟩⟩ h
theorem mX4_read {E : mm_Env} {d : Nat} {τ : mm_Mem} {Q : mm_Q0} {a0 : Nat} (k_a0 : KD a0 = some (.inr 2)) (h : ∃ o1 : Nat, (a0 : Int) = (o1 : Int) ∧ KD o1 = some (.inr 2) ∧ M0 E d qX2_clear [vR o1] (wr τ 77 1 (a0 : Int)) (fun v τ4 => v = none ∧ M0 E d qX4_advance [vR 77] (wr τ4 77 2 (-1)) (fun v τ5 => v = none ∧ M0 E d qX4_readHead [vR 77] (wr (wr (wr τ5 77 5 0) 77 7 0) 77 8 (-1)) (fun v τ6 => ∃ b7 : Bool, v = some (vB b7) ∧ V0 E (d + 1) qX4_read 43 [some (vR 77), none, some (vB b7), some (vI 1)] [] τ6 Q)))) : M0 E (d + 1) qX4_read [vR 77, vR a0] τ Q := M0_of rfl (Nat.le_of_ble_eq_true rfl) [some (vR 77), some (vR a0), none, none] rfl (bX4_read_0 k_a0 h)
set_option maxRecDepth 20000 in
theorem bX4_read_43 {E : mm_Env} {d : Nat} {τ : mm_Mem} {Q : mm_Q0} {x2 : Bool} {x3 : Int} (h : ((x2 = false → ((x2 = false → Q (some (vI (-1))) τ) ∧ (x2 = true → Q (some (vI x3)) τ))) ∧ (x2 = true → inR x3 ∧ ((1600 < x3 → ((x2 = false → Q (some (vI (-1))) τ) ∧ (x2 = true → Q (some (vI x3)) τ))) ∧ (¬ 1600 < x3 → (((τ 77 3) = 0 → ((x2 = false → Q (some (vI (-1))) τ) ∧ (x2 = true → Q (some (vI x3)) τ))) ∧ (¬ (τ 77 3) = 0 → M0 E d qX4_readStatement [vR 77] τ (fun v τ3 => ∃ b4 : Bool, v = some (vB b4) ∧ V0 E (d + 1) qX4_read 43 [some (vR 77), none, some (vB b4), some (vI (x3 + 1))] [] τ3 Q)))))))) : V0 E (d + 1) qX4_read 43 [some (vR 77), none, some (vB x2), some (vI x3)] [] τ Q := by
  refine u_iload_n (i := 2) (pc' := 44) dX4_read_43 rfl rfl rfl ?_
  refine u_if_eq (tgt := 72) (pc' := 47) dX4_read_44 rfl (by decide) (bI_R _) (fun hb => ?_) (fun hb => ?_)
  · have h := h.1 (bI_0.mp hb)
    refine u_iload_n (i := 2) (pc' := 73) dX4_read_72 rfl rfl rfl ?_
    refine u_if_eq (tgt := 80) (pc' := 76) dX4_read_73 rfl (by decide) (bI_R _) (fun hb => ?_) (fun hb => ?_)
    · have h := h.1 (bI_0.mp hb)
      refine u_iconst (pc' := 81) dX4_read_80 rfl ?_
      exact u_iret dX4_read_81 rfl h
    · have h := h.2 (bI_n0.mp hb)
      refine u_iload_n (i := 3) (pc' := 77) dX4_read_76 rfl rfl rfl ?_
      refine u_goto (tgt := 81) dX4_read_77 (by decide) ?_
      exact u_iret dX4_read_81 rfl h
  · have h := h.2 (bI_n0.mp hb)
    refine u_iload_n (i := 3) (pc' := 48) dX4_read_47 rfl rfl rfl ?_
    refine u_sipush (pc' := 51) dX4_read_48 rfl (by decide) ?_
    obtain ⟨c1, h⟩ := h
    refine u_icmp_gt (tgt := 72) (pc' := 54) dX4_read_51 rfl (by decide) c1 ⟨by decide, by decide⟩ (fun hb => ?_) (fun hb => ?_)
    · have h := h.1 hb
      refine u_iload_n (i := 2) (pc' := 73) dX4_read_72 rfl rfl rfl ?_
      refine u_if_eq (tgt := 80) (pc' := 76) dX4_read_73 rfl (by decide) (bI_R _) (fun hb => ?_) (fun hb => ?_)
      · have h := h.1 (bI_0.mp hb)
        refine u_iconst (pc' := 81) dX4_read_80 rfl ?_
        exact u_iret dX4_read_81 rfl h
      · have h := h.2 (bI_n0.mp hb)
        refine u_iload_n (i := 3) (pc' := 77) dX4_read_76 rfl rfl rfl ?_
        refine u_goto (tgt := 81) dX4_read_77 (by decide) ?_
        exact u_iret dX4_read_81 rfl h
    · have h := h.2 hb
      refine u_aload_n (i := 0) (pc' := 55) dX4_read_54 rfl rfl rfl ?_
      refine u_getI (z := (τ 77 3)) (pc' := 58) dX4_read_55 rfl fl_TuneDoor_Reader_44 rfl (by decide) (by decide) kd_77 rfl (fun r2 => ?_)
      refine u_if_eq (tgt := 72) (pc' := 61) dX4_read_58 rfl (by decide) r2 (fun hb => ?_) (fun hb => ?_)
      · have h := h.1 hb
        refine u_iload_n (i := 2) (pc' := 73) dX4_read_72 rfl rfl rfl ?_
        refine u_if_eq (tgt := 80) (pc' := 76) dX4_read_73 rfl (by decide) (bI_R _) (fun hb => ?_) (fun hb => ?_)
        · have h := h.1 (bI_0.mp hb)
          refine u_iconst (pc' := 81) dX4_read_80 rfl ?_
          exact u_iret dX4_read_81 rfl h
        · have h := h.2 (bI_n0.mp hb)
          refine u_iload_n (i := 3) (pc' := 77) dX4_read_76 rfl rfl rfl ?_
          refine u_goto (tgt := 81) dX4_read_77 (by decide) ?_
          exact u_iret dX4_read_81 rfl h
      · have h := h.2 hb
        refine u_aload_n (i := 0) (pc' := 62) dX4_read_61 rfl rfl rfl ?_
        refine u_invV (q' := qX4_readStatement) (As := []) (st := []) (pc' := 65) dX4_read_62 rfl gX4_readStatement wm_601 rfl rfl (by decide) kd_77 wm_603 wp_14 rfl (Nat.le_of_ble_eq_true rfl) (M0.mono h (fun v τ3 h => ?_))
        obtain ⟨b4, rfl, h⟩ := h
        show V0 E (d + 1) qX4_read 65 [some (vR 77), none, some (vB x2), some (vI x3)] [vB b4] τ3 Q
        refine s_istore_n (i := 2) (ls' := [some (vR 77), none, some (vB b4), some (vI x3)]) (pc' := 66) dX4_read_65 rfl rfl (Nat.le_of_ble_eq_true rfl) rfl rfl ?_
        refine s_iinc (i := 3) (ls' := [some (vR 77), none, some (vB b4), some (vI (x3 + 1))]) (pc' := 69) dX4_read_66 rfl rfl (Nat.le_of_ble_eq_true rfl) rfl rfl ?_
        refine u_goto (tgt := 43) dX4_read_69 (by decide) ?_
        exact u_less (ls' := [some (vR 77), none, some (vB b4), some (vI (x3 + 1))]) ⟨rfl, ⟨rfl, ⟨rfl, trivial⟩⟩⟩ h
set_option maxRecDepth 20000 in
theorem bX4_advance_0 {E : mm_Env} {d : Nat} {τ : mm_Mem} {Q : mm_Q0}  (h : inR ((τ 77 2) + 1) ∧ (((τ 72 3) ≤ ((τ 77 2) + 1) → V0 E d qX4_advance 44 [some (vR 77), none] [vI 0] (wr τ 77 2 ((τ 77 2) + 1)) Q) ∧ (¬ (τ 72 3) ≤ ((τ 77 2) + 1) → ((1601 ≤ ((τ 77 2) + 1) → V0 E d qX4_advance 44 [some (vR 77), none] [vI 0] (wr τ 77 2 ((τ 77 2) + 1)) Q) ∧ (¬ 1601 ≤ ((τ 77 2) + 1) → V0 E d qX4_advance 44 [some (vR 77), none] [vI 1] (wr τ 77 2 ((τ 77 2) + 1)) Q))))) : V0 E d qX4_advance 0 [some (vR 77), none] [] τ Q := by
  refine u_aload_n (i := 0) (pc' := 1) dX4_advance_0 rfl rfl rfl ?_
  refine u_dup (pc' := 2) dX4_advance_1 rfl (fun _ hh => by cases hh) ?_
  refine u_getI (z := (τ 77 2)) (pc' := 5) dX4_advance_2 rfl fl_TuneDoor_Reader_28 rfl (by decide) (by decide) kd_77 rfl (fun r1 => ?_)
  refine u_iconst (pc' := 6) dX4_advance_5 rfl ?_
  refine u_iadd (pc' := 7) dX4_advance_6 rfl ?_
  obtain ⟨c2, h⟩ := h
  refine u_putI (pc' := 10) dX4_advance_7 rfl fl_TuneDoor_Reader_28 rfl rfl (by decide) (by decide) kd_77 c2 ?_
  refine u_aload_n (i := 0) (pc' := 11) dX4_advance_10 rfl rfl rfl ?_
  refine u_getI (z := ((τ 77 2) + 1)) (pc' := 14) dX4_advance_11 rfl fl_TuneDoor_Reader_28 rfl (by decide) (by decide) kd_77 rfl (fun r3 => ?_)
  refine u_aload_n (i := 0) (pc' := 15) dX4_advance_14 rfl rfl rfl ?_
  refine u_getR (a := 72) (pc' := 18) dX4_advance_15 rfl fl_TuneDoor_Reader_15 rfl (by decide) kd_77 rfl ?_
  refine u_getI (z := (τ 72 3)) (pc' := 21) dX4_advance_18 rfl fl_TuneDoor_Reader_50 rfl (by decide) (by decide) kd_72 rfl (fun r4 => ?_)
  refine u_icmp_ge (tgt := 43) (pc' := 24) dX4_advance_21 rfl (by decide) r3 r4 (fun hb => ?_) (fun hb => ?_)
  · have h := h.1 hb
    refine u_iconst (pc' := 44) dX4_advance_43 rfl ?_
    exact u_less (ls' := [some (vR 77), none]) ⟨rfl, trivial⟩ h
  · have h := h.2 hb
    refine u_aload_n (i := 0) (pc' := 25) dX4_advance_24 rfl rfl rfl ?_
    refine u_getI (z := ((τ 77 2) + 1)) (pc' := 28) dX4_advance_25 rfl fl_TuneDoor_Reader_28 rfl (by decide) (by decide) kd_77 rfl (fun r5 => ?_)
    refine u_aload_n (i := 0) (pc' := 29) dX4_advance_28 rfl rfl rfl ?_
    refine u_getR (a := 72) (pc' := 32) dX4_advance_29 rfl fl_TuneDoor_Reader_15 rfl (by decide) kd_77 rfl ?_
    refine u_getR (a := 73) (pc' := 35) dX4_advance_32 rfl fl_TuneDoor_Reader_55 rfl (by decide) kd_72 rfl ?_
    refine u_alen (t0 := 0) (pc' := 36) dX4_advance_35 rfl (by decide) kd_73 (fun _ => rfl) ?_
    refine u_icmp_ge (tgt := 43) (pc' := 39) dX4_advance_36 rfl (by decide) r5 ⟨by decide, by decide⟩ (fun hb => ?_) (fun hb => ?_)
    · have h := h.1 hb
      refine u_iconst (pc' := 44) dX4_advance_43 rfl ?_
      exact u_less (ls' := [some (vR 77), none]) ⟨rfl, trivial⟩ h
    · have h := h.2 hb
      refine u_iconst (pc' := 40) dX4_advance_39 rfl ?_
      refine u_goto (tgt := 44) dX4_advance_40 (by decide) ?_
      exact u_less (ls' := [some (vR 77), none]) ⟨rfl, trivial⟩ h
theorem mX4_advance {E : mm_Env} {d : Nat} {τ : mm_Mem} {Q : mm_Q0}  (h : inR ((τ 77 2) + 1) ∧ (((τ 72 3) ≤ ((τ 77 2) + 1) → V0 E d qX4_advance 44 [some (vR 77), none] [vI 0] (wr τ 77 2 ((τ 77 2) + 1)) Q) ∧ (¬ (τ 72 3) ≤ ((τ 77 2) + 1) → ((1601 ≤ ((τ 77 2) + 1) → V0 E d qX4_advance 44 [some (vR 77), none] [vI 0] (wr τ 77 2 ((τ 77 2) + 1)) Q) ∧ (¬ 1601 ≤ ((τ 77 2) + 1) → V0 E d qX4_advance 44 [some (vR 77), none] [vI 1] (wr τ 77 2 ((τ 77 2) + 1)) Q))))) : M0 E d qX4_advance [vR 77] τ Q := M0_of rfl (Nat.le_of_ble_eq_true rfl) [some (vR 77), none] rfl (bX4_advance_0  h)
set_option maxRecDepth 20000 in
theorem bX4_advance_44 {E : mm_Env} {d : Nat} {τ : mm_Mem} {Q : mm_Q0} {y0 : Int} (h : inR y0 ∧ ((y0 = 0 → ((y0 = 0 → Q none (wr (wr τ 77 3 0) 77 4 0)) ∧ (¬ y0 = 0 → 0 ≤ (τ 77 2) ∧ (τ 77 2) < 1601 ∧ Q none (wr (wr τ 77 3 0) 77 4 (τ 75 (τ 77 2).toNat))))) ∧ (¬ y0 = 0 → 0 ≤ (τ 77 2) ∧ (τ 77 2) < 1601 ∧ ((y0 = 0 → Q none (wr (wr τ 77 3 (τ 73 (τ 77 2).toNat)) 77 4 0)) ∧ (¬ y0 = 0 → 0 ≤ (τ 77 2) ∧ (τ 77 2) < 1601 ∧ Q none (wr (wr τ 77 3 (τ 73 (τ 77 2).toNat)) 77 4 (τ 75 (τ 77 2).toNat))))))) : V0 E d qX4_advance 44 [some (vR 77), none] [vI y0] τ Q := by
  refine s_istore_n (i := 1) (ls' := [some (vR 77), some (vI y0)]) (pc' := 45) dX4_advance_44 rfl rfl (Nat.le_of_ble_eq_true rfl) rfl rfl ?_
  refine u_aload_n (i := 0) (pc' := 46) dX4_advance_45 rfl rfl rfl ?_
  refine u_iload_n (i := 1) (pc' := 47) dX4_advance_46 rfl rfl rfl ?_
  obtain ⟨c1, h⟩ := h
  refine u_if_eq (tgt := 65) (pc' := 50) dX4_advance_47 rfl (by decide) c1 (fun hb => ?_) (fun hb => ?_)
  · have h := h.1 hb
    refine u_iconst (pc' := 66) dX4_advance_65 rfl ?_
    refine u_putI (pc' := 69) dX4_advance_66 rfl fl_TuneDoor_Reader_44 rfl rfl (by decide) (by decide) kd_77 ⟨by decide, by decide⟩ ?_
    refine u_aload_n (i := 0) (pc' := 70) dX4_advance_69 rfl rfl rfl ?_
    refine u_iload_n (i := 1) (pc' := 71) dX4_advance_70 rfl rfl rfl ?_
    refine u_if_eq (tgt := 89) (pc' := 74) dX4_advance_71 rfl (by decide) c1 (fun hb => ?_) (fun hb => ?_)
    · have h := h.1 hb
      refine u_iconst (pc' := 90) dX4_advance_89 rfl ?_
      refine u_putI (pc' := 93) dX4_advance_90 rfl fl_TuneDoor_Reader_62 rfl rfl (by decide) (by decide) kd_77 ⟨by decide, by decide⟩ ?_
      exact u_ret dX4_advance_93 rfl h
    · have h := h.2 hb
      refine u_aload_n (i := 0) (pc' := 75) dX4_advance_74 rfl rfl rfl ?_
      refine u_getR (a := 72) (pc' := 78) dX4_advance_75 rfl fl_TuneDoor_Reader_15 rfl (by decide) kd_77 rfl ?_
      refine u_getR (a := 75) (pc' := 81) dX4_advance_78 rfl fl_TuneDoor_Reader_59 rfl (by decide) kd_72 rfl ?_
      refine u_aload_n (i := 0) (pc' := 82) dX4_advance_81 rfl rfl rfl ?_
      refine u_getI (z := (τ 77 2)) (pc' := 85) dX4_advance_82 rfl fl_TuneDoor_Reader_28 rfl (by decide) (by decide) kd_77 rfl (fun r2 => ?_)
      obtain ⟨c3, c4, h⟩ := h
      refine u_iaload (k := (τ 77 2).toNat) (z := (τ 75 (τ 77 2).toNat)) (pc' := 86) dX4_advance_85 rfl (by decide) kd_75 c3 c4 (by decide) rfl rfl (fun r5 => ?_)
      refine u_goto (tgt := 90) dX4_advance_86 (by decide) ?_
      refine u_putI (pc' := 93) dX4_advance_90 rfl fl_TuneDoor_Reader_62 rfl rfl (by decide) (by decide) kd_77 r5 ?_
      exact u_ret dX4_advance_93 rfl h
  · have h := h.2 hb
    refine u_aload_n (i := 0) (pc' := 51) dX4_advance_50 rfl rfl rfl ?_
    refine u_getR (a := 72) (pc' := 54) dX4_advance_51 rfl fl_TuneDoor_Reader_15 rfl (by decide) kd_77 rfl ?_
    refine u_getR (a := 73) (pc' := 57) dX4_advance_54 rfl fl_TuneDoor_Reader_55 rfl (by decide) kd_72 rfl ?_
    refine u_aload_n (i := 0) (pc' := 58) dX4_advance_57 rfl rfl rfl ?_
    refine u_getI (z := (τ 77 2)) (pc' := 61) dX4_advance_58 rfl fl_TuneDoor_Reader_28 rfl (by decide) (by decide) kd_77 rfl (fun r6 => ?_)
    obtain ⟨c7, c8, h⟩ := h
    refine u_iaload (k := (τ 77 2).toNat) (z := (τ 73 (τ 77 2).toNat)) (pc' := 62) dX4_advance_61 rfl (by decide) kd_73 c7 c8 (by decide) rfl rfl (fun r9 => ?_)
    refine u_goto (tgt := 66) dX4_advance_62 (by decide) ?_
    refine u_putI (pc' := 69) dX4_advance_66 rfl fl_TuneDoor_Reader_44 rfl rfl (by decide) (by decide) kd_77 r9 ?_
    refine u_aload_n (i := 0) (pc' := 70) dX4_advance_69 rfl rfl rfl ?_
    refine u_iload_n (i := 1) (pc' := 71) dX4_advance_70 rfl rfl rfl ?_
    refine u_if_eq (tgt := 89) (pc' := 74) dX4_advance_71 rfl (by decide) c1 (fun hb => ?_) (fun hb => ?_)
    · have h := h.1 hb
      refine u_iconst (pc' := 90) dX4_advance_89 rfl ?_
      refine u_putI (pc' := 93) dX4_advance_90 rfl fl_TuneDoor_Reader_62 rfl rfl (by decide) (by decide) kd_77 ⟨by decide, by decide⟩ ?_
      exact u_ret dX4_advance_93 rfl h
    · have h := h.2 hb
      refine u_aload_n (i := 0) (pc' := 75) dX4_advance_74 rfl rfl rfl ?_
      refine u_getR (a := 72) (pc' := 78) dX4_advance_75 rfl fl_TuneDoor_Reader_15 rfl (by decide) kd_77 rfl ?_
      refine u_getR (a := 75) (pc' := 81) dX4_advance_78 rfl fl_TuneDoor_Reader_59 rfl (by decide) kd_72 rfl ?_
      refine u_aload_n (i := 0) (pc' := 82) dX4_advance_81 rfl rfl rfl ?_
      refine u_getI (z := (τ 77 2)) (pc' := 85) dX4_advance_82 rfl fl_TuneDoor_Reader_28 rfl (by decide) (by decide) kd_77 rfl (fun r10 => ?_)
      obtain ⟨c11, c12, h⟩ := h
      refine u_iaload (k := (τ 77 2).toNat) (z := (τ 75 (τ 77 2).toNat)) (pc' := 86) dX4_advance_85 rfl (by decide) kd_75 c11 c12 (by decide) rfl rfl (fun r13 => ?_)
      refine u_goto (tgt := 90) dX4_advance_86 (by decide) ?_
      refine u_putI (pc' := 93) dX4_advance_90 rfl fl_TuneDoor_Reader_62 rfl rfl (by decide) (by decide) kd_77 r13 ?_
      exact u_ret dX4_advance_93 rfl h
set_option maxRecDepth 20000 in
theorem bX4_readHead_0 {E : mm_Env} {d : Nat} {τ : mm_Mem} {Q : mm_Q0}  (h : M0 E d qX4_readWord [vR 77, vI 0] τ (fun v τ1 => ∃ b2 : Bool, v = some (vB b2) ∧ ((b2 = false → Q (some (vB false)) τ1) ∧ (b2 = true → M0 E d qX4_readNumber [vR 77, vI 2, vI 6] τ1 (fun v τ3 => ∃ b4 : Bool, v = some (vB b4) ∧ ((b4 = true → ∃ o5 : Nat, (τ3 77 1) = (o5 : Int) ∧ KD o5 = some (.inr 2) ∧ M0 E d qX4_readWord [vR 77, vI 1] (wr τ3 o5 0 (τ3 77 6)) (fun v τ9 => ∃ b10 : Bool, v = some (vB b10) ∧ ((b10 = false → Q (some (vB false)) τ9) ∧ (b10 = true → M0 E d qX4_readNumber [vR 77, vI 2, vI 5] τ9 (fun v τ11 => ∃ b12 : Bool, v = some (vB b12) ∧ ((b12 = true → ∃ o13 : Nat, (τ11 77 1) = (o13 : Int) ∧ KD o13 = some (.inr 2) ∧ M0 E d qX4_readSign [vR 77, vI 59] (wr τ11 o13 1 (τ11 77 6)) (fun v τ17 => ∃ b18 : Bool, v = some (vB b18) ∧ Q (some (vB b18)) τ17)) ∧ (b12 = false → Q (some (vB false)) τ11))))))) ∧ (b4 = false → Q (some (vB false)) τ3))))))) : V0 E (d + 1) qX4_readHead 0 [some (vR 77)] [] τ Q := by
  refine u_aload_n (i := 0) (pc' := 1) dX4_readHead_0 rfl rfl rfl ?_
  refine u_iconst (pc' := 2) dX4_readHead_1 rfl ?_
  refine u_invV (q' := qX4_readWord) (As := [vI 0]) (st := []) (pc' := 5) dX4_readHead_2 rfl gX4_readWord wm_577 rfl rfl (by decide) kd_77 wm_579 wp_8 rfl (Nat.le_of_ble_eq_true rfl) (M0.mono h (fun v τ1 h => ?_))
  obtain ⟨b2, rfl, h⟩ := h
  show V0 E (d + 1) qX4_readHead 5 [some (vR 77)] [vB b2] τ1 Q
  refine u_if_eq (tgt := 18) (pc' := 8) dX4_readHead_5 rfl (by decide) (bI_R _) (fun hb => ?_) (fun hb => ?_)
  · have h := h.1 (bI_0.mp hb)
    refine u_iconst (pc' := 19) dX4_readHead_18 rfl ?_
    exact u_zret (b := false) dX4_readHead_19 rfl rfl h
  · have h := h.2 (bI_n0.mp hb)
    refine u_aload_n (i := 0) (pc' := 9) dX4_readHead_8 rfl rfl rfl ?_
    refine u_iconst (pc' := 10) dX4_readHead_9 rfl ?_
    refine u_bipush (pc' := 12) dX4_readHead_10 rfl (by decide) ?_
    refine u_invV (q' := qX4_readNumber) (As := [vI 2, vI 6]) (st := []) (pc' := 15) dX4_readHead_12 rfl gX4_readNumber wm_589 rfl rfl (by decide) kd_77 wm_591 wp_11 rfl (Nat.le_of_ble_eq_true rfl) (M0.mono h (fun v τ3 h => ?_))
    obtain ⟨b4, rfl, h⟩ := h
    show V0 E (d + 1) qX4_readHead 15 [some (vR 77)] [vB b4] τ3 Q
    refine u_if_ne (tgt := 20) (pc' := 18) dX4_readHead_15 rfl (by decide) (bI_R _) (fun hb => ?_) (fun hb => ?_)
    · have h := h.1 (bI_n0.mp hb)
      refine u_aload_n (i := 0) (pc' := 21) dX4_readHead_20 rfl rfl rfl ?_
      obtain ⟨o5, z6, k7, h⟩ := h
      refine u_getD (a := o5) (pc' := 24) dX4_readHead_21 rfl fl_TuneDoor_Reader_19 rfl (by decide) kd_77 rfl (z6) ?_
      refine u_aload_n (i := 0) (pc' := 25) dX4_readHead_24 rfl rfl rfl ?_
      refine u_getI (z := (τ3 77 6)) (pc' := 28) dX4_readHead_25 rfl fl_TuneDoor_Reader_78 rfl (by decide) (by decide) kd_77 rfl (fun r8 => ?_)
      refine u_putI (pc' := 31) dX4_readHead_28 rfl fl_TuneDoor_Reader_98 rfl rfl (by decide) (kHouse k7).1 k7 r8 ?_
      refine u_aload_n (i := 0) (pc' := 32) dX4_readHead_31 rfl rfl rfl ?_
      refine u_iconst (pc' := 33) dX4_readHead_32 rfl ?_
      refine u_invV (q' := qX4_readWord) (As := [vI 1]) (st := []) (pc' := 36) dX4_readHead_33 rfl gX4_readWord wm_577 rfl rfl (by decide) kd_77 wm_579 wp_8 rfl (Nat.le_of_ble_eq_true rfl) (M0.mono h (fun v τ9 h => ?_))
      obtain ⟨b10, rfl, h⟩ := h
      show V0 E (d + 1) qX4_readHead 36 [some (vR 77)] [vB b10] τ9 Q
      refine u_if_eq (tgt := 48) (pc' := 39) dX4_readHead_36 rfl (by decide) (bI_R _) (fun hb => ?_) (fun hb => ?_)
      · have h := h.1 (bI_0.mp hb)
        refine u_iconst (pc' := 49) dX4_readHead_48 rfl ?_
        exact u_zret (b := false) dX4_readHead_49 rfl rfl h
      · have h := h.2 (bI_n0.mp hb)
        refine u_aload_n (i := 0) (pc' := 40) dX4_readHead_39 rfl rfl rfl ?_
        refine u_iconst (pc' := 41) dX4_readHead_40 rfl ?_
        refine u_iconst (pc' := 42) dX4_readHead_41 rfl ?_
        refine u_invV (q' := qX4_readNumber) (As := [vI 2, vI 5]) (st := []) (pc' := 45) dX4_readHead_42 rfl gX4_readNumber wm_589 rfl rfl (by decide) kd_77 wm_591 wp_11 rfl (Nat.le_of_ble_eq_true rfl) (M0.mono h (fun v τ11 h => ?_))
        obtain ⟨b12, rfl, h⟩ := h
        show V0 E (d + 1) qX4_readHead 45 [some (vR 77)] [vB b12] τ11 Q
        refine u_if_ne (tgt := 50) (pc' := 48) dX4_readHead_45 rfl (by decide) (bI_R _) (fun hb => ?_) (fun hb => ?_)
        · have h := h.1 (bI_n0.mp hb)
          refine u_aload_n (i := 0) (pc' := 51) dX4_readHead_50 rfl rfl rfl ?_
          obtain ⟨o13, z14, k15, h⟩ := h
          refine u_getD (a := o13) (pc' := 54) dX4_readHead_51 rfl fl_TuneDoor_Reader_19 rfl (by decide) kd_77 rfl (z14) ?_
          refine u_aload_n (i := 0) (pc' := 55) dX4_readHead_54 rfl rfl rfl ?_
          refine u_getI (z := (τ11 77 6)) (pc' := 58) dX4_readHead_55 rfl fl_TuneDoor_Reader_78 rfl (by decide) (by decide) kd_77 rfl (fun r16 => ?_)
          refine u_putI (pc' := 61) dX4_readHead_58 rfl fl_TuneDoor_Reader_101 rfl rfl (by decide) (kHouse k15).1 k15 r16 ?_
          refine u_aload_n (i := 0) (pc' := 62) dX4_readHead_61 rfl rfl rfl ?_
          refine u_bipush (pc' := 64) dX4_readHead_62 rfl (by decide) ?_
          refine u_invV (q' := qX4_readSign) (As := [vI 59]) (st := []) (pc' := 67) dX4_readHead_64 rfl gX4_readSign wm_593 rfl rfl (by decide) kd_77 wm_595 wp_12 rfl (Nat.le_of_ble_eq_true rfl) (M0.mono h (fun v τ17 h => ?_))
          obtain ⟨b18, rfl, h⟩ := h
          show V0 E (d + 1) qX4_readHead 67 [some (vR 77)] [vB b18] τ17 Q
          exact u_zret (b := b18) dX4_readHead_67 rfl rfl h
        · have h := h.2 (bI_0.mp hb)
          refine u_iconst (pc' := 49) dX4_readHead_48 rfl ?_
          exact u_zret (b := false) dX4_readHead_49 rfl rfl h
    · have h := h.2 (bI_0.mp hb)
      refine u_iconst (pc' := 19) dX4_readHead_18 rfl ?_
      exact u_zret (b := false) dX4_readHead_19 rfl rfl h
theorem mX4_readHead {E : mm_Env} {d : Nat} {τ : mm_Mem} {Q : mm_Q0}  (h : M0 E d qX4_readWord [vR 77, vI 0] τ (fun v τ1 => ∃ b2 : Bool, v = some (vB b2) ∧ ((b2 = false → Q (some (vB false)) τ1) ∧ (b2 = true → M0 E d qX4_readNumber [vR 77, vI 2, vI 6] τ1 (fun v τ3 => ∃ b4 : Bool, v = some (vB b4) ∧ ((b4 = true → ∃ o5 : Nat, (τ3 77 1) = (o5 : Int) ∧ KD o5 = some (.inr 2) ∧ M0 E d qX4_readWord [vR 77, vI 1] (wr τ3 o5 0 (τ3 77 6)) (fun v τ9 => ∃ b10 : Bool, v = some (vB b10) ∧ ((b10 = false → Q (some (vB false)) τ9) ∧ (b10 = true → M0 E d qX4_readNumber [vR 77, vI 2, vI 5] τ9 (fun v τ11 => ∃ b12 : Bool, v = some (vB b12) ∧ ((b12 = true → ∃ o13 : Nat, (τ11 77 1) = (o13 : Int) ∧ KD o13 = some (.inr 2) ∧ M0 E d qX4_readSign [vR 77, vI 59] (wr τ11 o13 1 (τ11 77 6)) (fun v τ17 => ∃ b18 : Bool, v = some (vB b18) ∧ Q (some (vB b18)) τ17)) ∧ (b12 = false → Q (some (vB false)) τ11))))))) ∧ (b4 = false → Q (some (vB false)) τ3))))))) : M0 E (d + 1) qX4_readHead [vR 77] τ Q := M0_of rfl (Nat.le_of_ble_eq_true rfl) [some (vR 77)] rfl (bX4_readHead_0  h)
set_option maxRecDepth 20000 in
theorem bX4_readWord_0 {E : mm_Env} {d : Nat} {τ : mm_Mem} {Q : mm_Q0} {a0 : Int} (h : M0 E d qX4_seesWord [vR 77, vI a0] τ (fun v τ1 => ∃ b2 : Bool, v = some (vB b2) ∧ ((b2 = true → M0 E d qX4_advance [vR 77] τ1 (fun v τ3 => v = none ∧ Q (some (vB true)) τ3)) ∧ (b2 = false → M0 E d qX4_fail [vR 77, vI 1] τ1 (fun v τ4 => ∃ b5 : Bool, v = some (vB b5) ∧ Q (some (vB b5)) τ4))))) : V0 E (d + 1) qX4_readWord 0 [some (vR 77), some (vI a0)] [] τ Q := by
  refine u_aload_n (i := 0) (pc' := 1) dX4_readWord_0 rfl rfl rfl ?_
  refine u_iload_n (i := 1) (pc' := 2) dX4_readWord_1 rfl rfl rfl ?_
  refine u_invV (q' := qX4_seesWord) (As := [vI a0]) (st := []) (pc' := 5) dX4_readWord_2 rfl gX4_seesWord wm_581 rfl rfl (by decide) kd_77 wm_583 wp_9 rfl (Nat.le_of_ble_eq_true rfl) (M0.mono h (fun v τ1 h => ?_))
  obtain ⟨b2, rfl, h⟩ := h
  show V0 E (d + 1) qX4_readWord 5 [some (vR 77), some (vI a0)] [vB b2] τ1 Q
  refine u_if_ne (tgt := 14) (pc' := 8) dX4_readWord_5 rfl (by decide) (bI_R _) (fun hb => ?_) (fun hb => ?_)
  · have h := h.1 (bI_n0.mp hb)
    refine u_aload_n (i := 0) (pc' := 15) dX4_readWord_14 rfl rfl rfl ?_
    refine u_invV (q' := qX4_advance) (As := []) (st := []) (pc' := 18) dX4_readWord_15 rfl gX4_advance wm_569 rfl rfl (by decide) kd_77 wm_571 wp_6 rfl (Nat.le_of_ble_eq_true rfl) (M0.mono h (fun v τ3 h => ?_))
    obtain ⟨rfl, h⟩ := h
    show V0 E (d + 1) qX4_readWord 18 [some (vR 77), some (vI a0)] [] τ3 Q
    refine u_iconst (pc' := 19) dX4_readWord_18 rfl ?_
    exact u_zret (b := true) dX4_readWord_19 rfl rfl h
  · have h := h.2 (bI_0.mp hb)
    refine u_aload_n (i := 0) (pc' := 9) dX4_readWord_8 rfl rfl rfl ?_
    refine u_iconst (pc' := 10) dX4_readWord_9 rfl ?_
    refine u_invV (q' := qX4_fail) (As := [vI 1]) (st := []) (pc' := 13) dX4_readWord_10 rfl gX4_fail wm_585 rfl rfl (by decide) kd_77 wm_587 wp_10 rfl (Nat.le_of_ble_eq_true rfl) (M0.mono h (fun v τ4 h => ?_))
    obtain ⟨b5, rfl, h⟩ := h
    show V0 E (d + 1) qX4_readWord 13 [some (vR 77), some (vI a0)] [vB b5] τ4 Q
    exact u_zret (b := b5) dX4_readWord_13 rfl rfl h
theorem mX4_readWord {E : mm_Env} {d : Nat} {τ : mm_Mem} {Q : mm_Q0} {a0 : Int} (h : M0 E d qX4_seesWord [vR 77, vI a0] τ (fun v τ1 => ∃ b2 : Bool, v = some (vB b2) ∧ ((b2 = true → M0 E d qX4_advance [vR 77] τ1 (fun v τ3 => v = none ∧ Q (some (vB true)) τ3)) ∧ (b2 = false → M0 E d qX4_fail [vR 77, vI 1] τ1 (fun v τ4 => ∃ b5 : Bool, v = some (vB b5) ∧ Q (some (vB b5)) τ4))))) : M0 E (d + 1) qX4_readWord [vR 77, vI a0] τ Q := M0_of rfl (Nat.le_of_ble_eq_true rfl) [some (vR 77), some (vI a0)] rfl (bX4_readWord_0  h)
set_option maxRecDepth 20000 in
theorem bX4_seesWord_0 {E : mm_Env} {d : Nat} {τ : mm_Mem} {Q : mm_Q0} {a0 : Int} (h : (((τ 77 3) ≠ 4 → Q (some (vB false)) τ) ∧ ((τ 77 3) = 4 → inR a0 ∧ (((τ 77 4) ≠ a0 → Q (some (vB false)) τ) ∧ ((τ 77 4) = a0 → Q (some (vB true)) τ))))) : V0 E d qX4_seesWord 0 [some (vR 77), some (vI a0)] [] τ Q := by
  refine u_aload_n (i := 0) (pc' := 1) dX4_seesWord_0 rfl rfl rfl ?_
  refine u_getI (z := (τ 77 3)) (pc' := 4) dX4_seesWord_1 rfl fl_TuneDoor_Reader_44 rfl (by decide) (by decide) kd_77 rfl (fun r1 => ?_)
  refine u_iconst (pc' := 5) dX4_seesWord_4 rfl ?_
  refine u_icmp_ne (tgt := 20) (pc' := 8) dX4_seesWord_5 rfl (by decide) r1 ⟨by decide, by decide⟩ (fun hb => ?_) (fun hb => ?_)
  · have h := h.1 hb
    refine u_iconst (pc' := 21) dX4_seesWord_20 rfl ?_
    exact u_zret (b := false) dX4_seesWord_21 rfl rfl h
  · have h := h.2 hb
    refine u_aload_n (i := 0) (pc' := 9) dX4_seesWord_8 rfl rfl rfl ?_
    refine u_getI (z := (τ 77 4)) (pc' := 12) dX4_seesWord_9 rfl fl_TuneDoor_Reader_62 rfl (by decide) (by decide) kd_77 rfl (fun r2 => ?_)
    refine u_iload_n (i := 1) (pc' := 13) dX4_seesWord_12 rfl rfl rfl ?_
    obtain ⟨c3, h⟩ := h
    refine u_icmp_ne (tgt := 20) (pc' := 16) dX4_seesWord_13 rfl (by decide) r2 c3 (fun hb => ?_) (fun hb => ?_)
    · have h := h.1 hb
      refine u_iconst (pc' := 21) dX4_seesWord_20 rfl ?_
      exact u_zret (b := false) dX4_seesWord_21 rfl rfl h
    · have h := h.2 hb
      refine u_iconst (pc' := 17) dX4_seesWord_16 rfl ?_
      refine u_goto (tgt := 21) dX4_seesWord_17 (by decide) ?_
      exact u_zret (b := true) dX4_seesWord_21 rfl rfl h
theorem mX4_seesWord {E : mm_Env} {d : Nat} {τ : mm_Mem} {Q : mm_Q0} {a0 : Int} (h : (((τ 77 3) ≠ 4 → Q (some (vB false)) τ) ∧ ((τ 77 3) = 4 → inR a0 ∧ (((τ 77 4) ≠ a0 → Q (some (vB false)) τ) ∧ ((τ 77 4) = a0 → Q (some (vB true)) τ))))) : M0 E d qX4_seesWord [vR 77, vI a0] τ Q := M0_of rfl (Nat.le_of_ble_eq_true rfl) [some (vR 77), some (vI a0)] rfl (bX4_seesWord_0  h)
set_option maxRecDepth 20000 in
theorem bX4_fail_0 {E : mm_Env} {d : Nat} {τ : mm_Mem} {Q : mm_Q0} {a0 : Int} (h : inR a0 ∧ (((τ 72 3) ≤ (τ 77 2) → Q (some (vB false)) (wr (wr τ 77 7 a0) 77 8 0)) ∧ (¬ (τ 72 3) ≤ (τ 77 2) → ((1601 ≤ (τ 77 2) → Q (some (vB false)) (wr (wr τ 77 7 a0) 77 8 0)) ∧ (¬ 1601 ≤ (τ 77 2) → 0 ≤ (τ 77 2) ∧ (τ 77 2) < 1601 ∧ Q (some (vB false)) (wr (wr τ 77 7 a0) 77 8 (τ 74 (τ 77 2).toNat))))))) : V0 E d qX4_fail 0 [some (vR 77), some (vI a0)] [] τ Q := by
  refine u_aload_n (i := 0) (pc' := 1) dX4_fail_0 rfl rfl rfl ?_
  refine u_iload_n (i := 1) (pc' := 2) dX4_fail_1 rfl rfl rfl ?_
  obtain ⟨c1, h⟩ := h
  refine u_putI (pc' := 5) dX4_fail_2 rfl fl_TuneDoor_Reader_37 rfl rfl (by decide) (by decide) kd_77 c1 ?_
  refine u_aload_n (i := 0) (pc' := 6) dX4_fail_5 rfl rfl rfl ?_
  refine u_aload_n (i := 0) (pc' := 7) dX4_fail_6 rfl rfl rfl ?_
  refine u_getI (z := (τ 77 2)) (pc' := 10) dX4_fail_7 rfl fl_TuneDoor_Reader_28 rfl (by decide) (by decide) kd_77 rfl (fun r2 => ?_)
  refine u_aload_n (i := 0) (pc' := 11) dX4_fail_10 rfl rfl rfl ?_
  refine u_getR (a := 72) (pc' := 14) dX4_fail_11 rfl fl_TuneDoor_Reader_15 rfl (by decide) kd_77 rfl ?_
  refine u_getI (z := (τ 72 3)) (pc' := 17) dX4_fail_14 rfl fl_TuneDoor_Reader_50 rfl (by decide) (by decide) kd_72 rfl (fun r3 => ?_)
  refine u_icmp_ge (tgt := 50) (pc' := 20) dX4_fail_17 rfl (by decide) r2 r3 (fun hb => ?_) (fun hb => ?_)
  · have h := h.1 hb
    refine u_iconst (pc' := 51) dX4_fail_50 rfl ?_
    refine u_putI (pc' := 54) dX4_fail_51 rfl fl_TuneDoor_Reader_9 rfl rfl (by decide) (by decide) kd_77 ⟨by decide, by decide⟩ ?_
    refine u_iconst (pc' := 55) dX4_fail_54 rfl ?_
    exact u_zret (b := false) dX4_fail_55 rfl rfl h
  · have h := h.2 hb
    refine u_aload_n (i := 0) (pc' := 21) dX4_fail_20 rfl rfl rfl ?_
    refine u_getI (z := (τ 77 2)) (pc' := 24) dX4_fail_21 rfl fl_TuneDoor_Reader_28 rfl (by decide) (by decide) kd_77 rfl (fun r4 => ?_)
    refine u_aload_n (i := 0) (pc' := 25) dX4_fail_24 rfl rfl rfl ?_
    refine u_getR (a := 72) (pc' := 28) dX4_fail_25 rfl fl_TuneDoor_Reader_15 rfl (by decide) kd_77 rfl ?_
    refine u_getR (a := 74) (pc' := 31) dX4_fail_28 rfl fl_TuneDoor_Reader_65 rfl (by decide) kd_72 rfl ?_
    refine u_alen (t0 := 0) (pc' := 32) dX4_fail_31 rfl (by decide) kd_74 (fun _ => rfl) ?_
    refine u_icmp_ge (tgt := 50) (pc' := 35) dX4_fail_32 rfl (by decide) r4 ⟨by decide, by decide⟩ (fun hb => ?_) (fun hb => ?_)
    · have h := h.1 hb
      refine u_iconst (pc' := 51) dX4_fail_50 rfl ?_
      refine u_putI (pc' := 54) dX4_fail_51 rfl fl_TuneDoor_Reader_9 rfl rfl (by decide) (by decide) kd_77 ⟨by decide, by decide⟩ ?_
      refine u_iconst (pc' := 55) dX4_fail_54 rfl ?_
      exact u_zret (b := false) dX4_fail_55 rfl rfl h
    · have h := h.2 hb
      refine u_aload_n (i := 0) (pc' := 36) dX4_fail_35 rfl rfl rfl ?_
      refine u_getR (a := 72) (pc' := 39) dX4_fail_36 rfl fl_TuneDoor_Reader_15 rfl (by decide) kd_77 rfl ?_
      refine u_getR (a := 74) (pc' := 42) dX4_fail_39 rfl fl_TuneDoor_Reader_65 rfl (by decide) kd_72 rfl ?_
      refine u_aload_n (i := 0) (pc' := 43) dX4_fail_42 rfl rfl rfl ?_
      refine u_getI (z := (τ 77 2)) (pc' := 46) dX4_fail_43 rfl fl_TuneDoor_Reader_28 rfl (by decide) (by decide) kd_77 rfl (fun r5 => ?_)
      obtain ⟨c6, c7, h⟩ := h
      refine u_iaload (k := (τ 77 2).toNat) (z := (τ 74 (τ 77 2).toNat)) (pc' := 47) dX4_fail_46 rfl (by decide) kd_74 c6 c7 (by decide) rfl rfl (fun r8 => ?_)
      refine u_goto (tgt := 51) dX4_fail_47 (by decide) ?_
      refine u_putI (pc' := 54) dX4_fail_51 rfl fl_TuneDoor_Reader_9 rfl rfl (by decide) (by decide) kd_77 r8 ?_
      refine u_iconst (pc' := 55) dX4_fail_54 rfl ?_
      exact u_zret (b := false) dX4_fail_55 rfl rfl h
theorem mX4_fail {E : mm_Env} {d : Nat} {τ : mm_Mem} {Q : mm_Q0} {a0 : Int} (h : inR a0 ∧ (((τ 72 3) ≤ (τ 77 2) → Q (some (vB false)) (wr (wr τ 77 7 a0) 77 8 0)) ∧ (¬ (τ 72 3) ≤ (τ 77 2) → ((1601 ≤ (τ 77 2) → Q (some (vB false)) (wr (wr τ 77 7 a0) 77 8 0)) ∧ (¬ 1601 ≤ (τ 77 2) → 0 ≤ (τ 77 2) ∧ (τ 77 2) < 1601 ∧ Q (some (vB false)) (wr (wr τ 77 7 a0) 77 8 (τ 74 (τ 77 2).toNat))))))) : M0 E d qX4_fail [vR 77, vI a0] τ Q := M0_of rfl (Nat.le_of_ble_eq_true rfl) [some (vR 77), some (vI a0)] rfl (bX4_fail_0  h)
set_option maxRecDepth 20000 in
theorem bX4_readNumber_0 {E : mm_Env} {d : Nat} {τ : mm_Mem} {Q : mm_Q0} {a0 : Int} {a1 : Int} (h : (((τ 77 3) = 3 → inR a0 ∧ (((τ 77 4) < a0 → M0 E d qX4_fail [vR 77, vI 4] (wr τ 77 6 (τ 77 4)) (fun v τ5 => ∃ b6 : Bool, v = some (vB b6) ∧ Q (some (vB b6)) τ5)) ∧ (¬ (τ 77 4) < a0 → inR a1 ∧ (((τ 77 4) ≤ a1 → M0 E d qX4_advance [vR 77] (wr τ 77 6 (τ 77 4)) (fun v τ9 => v = none ∧ Q (some (vB true)) τ9)) ∧ (¬ (τ 77 4) ≤ a1 → M0 E d qX4_fail [vR 77, vI 4] (wr τ 77 6 (τ 77 4)) (fun v τ10 => ∃ b11 : Bool, v = some (vB b11) ∧ Q (some (vB b11)) τ10)))))) ∧ (¬ (τ 77 3) = 3 → M0 E d qX4_fail [vR 77, vI 1] τ (fun v τ12 => ∃ b13 : Bool, v = some (vB b13) ∧ Q (some (vB b13)) τ12)))) : V0 E (d + 1) qX4_readNumber 0 [some (vR 77), some (vI a0), some (vI a1)] [] τ Q := by
  refine u_aload_n (i := 0) (pc' := 1) dX4_readNumber_0 rfl rfl rfl ?_
  refine u_getI (z := (τ 77 3)) (pc' := 4) dX4_readNumber_1 rfl fl_TuneDoor_Reader_44 rfl (by decide) (by decide) kd_77 rfl (fun r1 => ?_)
  refine u_iconst (pc' := 5) dX4_readNumber_4 rfl ?_
  refine u_icmp_eq (tgt := 14) (pc' := 8) dX4_readNumber_5 rfl (by decide) r1 ⟨by decide, by decide⟩ (fun hb => ?_) (fun hb => ?_)
  · have h := h.1 hb
    refine u_aload_n (i := 0) (pc' := 15) dX4_readNumber_14 rfl rfl rfl ?_
    refine u_aload_n (i := 0) (pc' := 16) dX4_readNumber_15 rfl rfl rfl ?_
    refine u_getI (z := (τ 77 4)) (pc' := 19) dX4_readNumber_16 rfl fl_TuneDoor_Reader_62 rfl (by decide) (by decide) kd_77 rfl (fun r2 => ?_)
    refine u_putI (pc' := 22) dX4_readNumber_19 rfl fl_TuneDoor_Reader_78 rfl rfl (by decide) (by decide) kd_77 r2 ?_
    refine u_aload_n (i := 0) (pc' := 23) dX4_readNumber_22 rfl rfl rfl ?_
    refine u_getI (z := (τ 77 4)) (pc' := 26) dX4_readNumber_23 rfl fl_TuneDoor_Reader_78 rfl (by decide) (by decide) kd_77 rfl (fun r3 => ?_)
    refine u_iload_n (i := 1) (pc' := 27) dX4_readNumber_26 rfl rfl rfl ?_
    obtain ⟨c4, h⟩ := h
    refine u_icmp_lt (tgt := 38) (pc' := 30) dX4_readNumber_27 rfl (by decide) r3 c4 (fun hb => ?_) (fun hb => ?_)
    · have h := h.1 hb
      refine u_aload_n (i := 0) (pc' := 39) dX4_readNumber_38 rfl rfl rfl ?_
      refine u_iconst (pc' := 40) dX4_readNumber_39 rfl ?_
      refine u_invV (q' := qX4_fail) (As := [vI 4]) (st := []) (pc' := 43) dX4_readNumber_40 rfl gX4_fail wm_585 rfl rfl (by decide) kd_77 wm_587 wp_10 rfl (Nat.le_of_ble_eq_true rfl) (M0.mono h (fun v τ5 h => ?_))
      obtain ⟨b6, rfl, h⟩ := h
      show V0 E (d + 1) qX4_readNumber 43 [some (vR 77), some (vI a0), some (vI a1)] [vB b6] τ5 Q
      exact u_zret (b := b6) dX4_readNumber_43 rfl rfl h
    · have h := h.2 hb
      refine u_aload_n (i := 0) (pc' := 31) dX4_readNumber_30 rfl rfl rfl ?_
      refine u_getI (z := (τ 77 4)) (pc' := 34) dX4_readNumber_31 rfl fl_TuneDoor_Reader_78 rfl (by decide) (by decide) kd_77 rfl (fun r7 => ?_)
      refine u_iload_n (i := 2) (pc' := 35) dX4_readNumber_34 rfl rfl rfl ?_
      obtain ⟨c8, h⟩ := h
      refine u_icmp_le (tgt := 44) (pc' := 38) dX4_readNumber_35 rfl (by decide) r7 c8 (fun hb => ?_) (fun hb => ?_)
      · have h := h.1 hb
        refine u_aload_n (i := 0) (pc' := 45) dX4_readNumber_44 rfl rfl rfl ?_
        refine u_invV (q' := qX4_advance) (As := []) (st := []) (pc' := 48) dX4_readNumber_45 rfl gX4_advance wm_569 rfl rfl (by decide) kd_77 wm_571 wp_6 rfl (Nat.le_of_ble_eq_true rfl) (M0.mono h (fun v τ9 h => ?_))
        obtain ⟨rfl, h⟩ := h
        show V0 E (d + 1) qX4_readNumber 48 [some (vR 77), some (vI a0), some (vI a1)] [] τ9 Q
        refine u_iconst (pc' := 49) dX4_readNumber_48 rfl ?_
        exact u_zret (b := true) dX4_readNumber_49 rfl rfl h
      · have h := h.2 hb
        refine u_aload_n (i := 0) (pc' := 39) dX4_readNumber_38 rfl rfl rfl ?_
        refine u_iconst (pc' := 40) dX4_readNumber_39 rfl ?_
        refine u_invV (q' := qX4_fail) (As := [vI 4]) (st := []) (pc' := 43) dX4_readNumber_40 rfl gX4_fail wm_585 rfl rfl (by decide) kd_77 wm_587 wp_10 rfl (Nat.le_of_ble_eq_true rfl) (M0.mono h (fun v τ10 h => ?_))
        obtain ⟨b11, rfl, h⟩ := h
        show V0 E (d + 1) qX4_readNumber 43 [some (vR 77), some (vI a0), some (vI a1)] [vB b11] τ10 Q
        exact u_zret (b := b11) dX4_readNumber_43 rfl rfl h
  · have h := h.2 hb
    refine u_aload_n (i := 0) (pc' := 9) dX4_readNumber_8 rfl rfl rfl ?_
    refine u_iconst (pc' := 10) dX4_readNumber_9 rfl ?_
    refine u_invV (q' := qX4_fail) (As := [vI 1]) (st := []) (pc' := 13) dX4_readNumber_10 rfl gX4_fail wm_585 rfl rfl (by decide) kd_77 wm_587 wp_10 rfl (Nat.le_of_ble_eq_true rfl) (M0.mono h (fun v τ12 h => ?_))
    obtain ⟨b13, rfl, h⟩ := h
    show V0 E (d + 1) qX4_readNumber 13 [some (vR 77), some (vI a0), some (vI a1)] [vB b13] τ12 Q
    exact u_zret (b := b13) dX4_readNumber_13 rfl rfl h
theorem mX4_readNumber {E : mm_Env} {d : Nat} {τ : mm_Mem} {Q : mm_Q0} {a0 : Int} {a1 : Int} (h : (((τ 77 3) = 3 → inR a0 ∧ (((τ 77 4) < a0 → M0 E d qX4_fail [vR 77, vI 4] (wr τ 77 6 (τ 77 4)) (fun v τ5 => ∃ b6 : Bool, v = some (vB b6) ∧ Q (some (vB b6)) τ5)) ∧ (¬ (τ 77 4) < a0 → inR a1 ∧ (((τ 77 4) ≤ a1 → M0 E d qX4_advance [vR 77] (wr τ 77 6 (τ 77 4)) (fun v τ9 => v = none ∧ Q (some (vB true)) τ9)) ∧ (¬ (τ 77 4) ≤ a1 → M0 E d qX4_fail [vR 77, vI 4] (wr τ 77 6 (τ 77 4)) (fun v τ10 => ∃ b11 : Bool, v = some (vB b11) ∧ Q (some (vB b11)) τ10)))))) ∧ (¬ (τ 77 3) = 3 → M0 E d qX4_fail [vR 77, vI 1] τ (fun v τ12 => ∃ b13 : Bool, v = some (vB b13) ∧ Q (some (vB b13)) τ12)))) : M0 E (d + 1) qX4_readNumber [vR 77, vI a0, vI a1] τ Q := M0_of rfl (Nat.le_of_ble_eq_true rfl) [some (vR 77), some (vI a0), some (vI a1)] rfl (bX4_readNumber_0  h)
set_option maxRecDepth 20000 in
theorem bX4_readSign_0 {E : mm_Env} {d : Nat} {τ : mm_Mem} {Q : mm_Q0} {a0 : Int} (h : M0 E d qX4_seesSign [vR 77, vI a0] τ (fun v τ1 => ∃ b2 : Bool, v = some (vB b2) ∧ ((b2 = true → M0 E d qX4_advance [vR 77] τ1 (fun v τ3 => v = none ∧ Q (some (vB true)) τ3)) ∧ (b2 = false → M0 E d qX4_fail [vR 77, vI 1] τ1 (fun v τ4 => ∃ b5 : Bool, v = some (vB b5) ∧ Q (some (vB b5)) τ4))))) : V0 E (d + 1) qX4_readSign 0 [some (vR 77), some (vI a0)] [] τ Q := by
  refine u_aload_n (i := 0) (pc' := 1) dX4_readSign_0 rfl rfl rfl ?_
  refine u_iload_n (i := 1) (pc' := 2) dX4_readSign_1 rfl rfl rfl ?_
  refine u_invV (q' := qX4_seesSign) (As := [vI a0]) (st := []) (pc' := 5) dX4_readSign_2 rfl gX4_seesSign wm_597 rfl rfl (by decide) kd_77 wm_599 wp_13 rfl (Nat.le_of_ble_eq_true rfl) (M0.mono h (fun v τ1 h => ?_))
  obtain ⟨b2, rfl, h⟩ := h
  show V0 E (d + 1) qX4_readSign 5 [some (vR 77), some (vI a0)] [vB b2] τ1 Q
  refine u_if_ne (tgt := 14) (pc' := 8) dX4_readSign_5 rfl (by decide) (bI_R _) (fun hb => ?_) (fun hb => ?_)
  · have h := h.1 (bI_n0.mp hb)
    refine u_aload_n (i := 0) (pc' := 15) dX4_readSign_14 rfl rfl rfl ?_
    refine u_invV (q' := qX4_advance) (As := []) (st := []) (pc' := 18) dX4_readSign_15 rfl gX4_advance wm_569 rfl rfl (by decide) kd_77 wm_571 wp_6 rfl (Nat.le_of_ble_eq_true rfl) (M0.mono h (fun v τ3 h => ?_))
    obtain ⟨rfl, h⟩ := h
    show V0 E (d + 1) qX4_readSign 18 [some (vR 77), some (vI a0)] [] τ3 Q
    refine u_iconst (pc' := 19) dX4_readSign_18 rfl ?_
    exact u_zret (b := true) dX4_readSign_19 rfl rfl h
  · have h := h.2 (bI_0.mp hb)
    refine u_aload_n (i := 0) (pc' := 9) dX4_readSign_8 rfl rfl rfl ?_
    refine u_iconst (pc' := 10) dX4_readSign_9 rfl ?_
    refine u_invV (q' := qX4_fail) (As := [vI 1]) (st := []) (pc' := 13) dX4_readSign_10 rfl gX4_fail wm_585 rfl rfl (by decide) kd_77 wm_587 wp_10 rfl (Nat.le_of_ble_eq_true rfl) (M0.mono h (fun v τ4 h => ?_))
    obtain ⟨b5, rfl, h⟩ := h
    show V0 E (d + 1) qX4_readSign 13 [some (vR 77), some (vI a0)] [vB b5] τ4 Q
    exact u_zret (b := b5) dX4_readSign_13 rfl rfl h
theorem mX4_readSign {E : mm_Env} {d : Nat} {τ : mm_Mem} {Q : mm_Q0} {a0 : Int} (h : M0 E d qX4_seesSign [vR 77, vI a0] τ (fun v τ1 => ∃ b2 : Bool, v = some (vB b2) ∧ ((b2 = true → M0 E d qX4_advance [vR 77] τ1 (fun v τ3 => v = none ∧ Q (some (vB true)) τ3)) ∧ (b2 = false → M0 E d qX4_fail [vR 77, vI 1] τ1 (fun v τ4 => ∃ b5 : Bool, v = some (vB b5) ∧ Q (some (vB b5)) τ4))))) : M0 E (d + 1) qX4_readSign [vR 77, vI a0] τ Q := M0_of rfl (Nat.le_of_ble_eq_true rfl) [some (vR 77), some (vI a0)] rfl (bX4_readSign_0  h)
set_option maxRecDepth 20000 in
theorem bX4_seesSign_0 {E : mm_Env} {d : Nat} {τ : mm_Mem} {Q : mm_Q0} {a0 : Int} (h : (((τ 77 3) ≠ 2 → Q (some (vB false)) τ) ∧ ((τ 77 3) = 2 → inR a0 ∧ (((τ 77 4) ≠ a0 → Q (some (vB false)) τ) ∧ ((τ 77 4) = a0 → Q (some (vB true)) τ))))) : V0 E d qX4_seesSign 0 [some (vR 77), some (vI a0)] [] τ Q := by
  refine u_aload_n (i := 0) (pc' := 1) dX4_seesSign_0 rfl rfl rfl ?_
  refine u_getI (z := (τ 77 3)) (pc' := 4) dX4_seesSign_1 rfl fl_TuneDoor_Reader_44 rfl (by decide) (by decide) kd_77 rfl (fun r1 => ?_)
  refine u_iconst (pc' := 5) dX4_seesSign_4 rfl ?_
  refine u_icmp_ne (tgt := 20) (pc' := 8) dX4_seesSign_5 rfl (by decide) r1 ⟨by decide, by decide⟩ (fun hb => ?_) (fun hb => ?_)
  · have h := h.1 hb
    refine u_iconst (pc' := 21) dX4_seesSign_20 rfl ?_
    exact u_zret (b := false) dX4_seesSign_21 rfl rfl h
  · have h := h.2 hb
    refine u_aload_n (i := 0) (pc' := 9) dX4_seesSign_8 rfl rfl rfl ?_
    refine u_getI (z := (τ 77 4)) (pc' := 12) dX4_seesSign_9 rfl fl_TuneDoor_Reader_62 rfl (by decide) (by decide) kd_77 rfl (fun r2 => ?_)
    refine u_iload_n (i := 1) (pc' := 13) dX4_seesSign_12 rfl rfl rfl ?_
    obtain ⟨c3, h⟩ := h
    refine u_icmp_ne (tgt := 20) (pc' := 16) dX4_seesSign_13 rfl (by decide) r2 c3 (fun hb => ?_) (fun hb => ?_)
    · have h := h.1 hb
      refine u_iconst (pc' := 21) dX4_seesSign_20 rfl ?_
      exact u_zret (b := false) dX4_seesSign_21 rfl rfl h
    · have h := h.2 hb
      refine u_iconst (pc' := 17) dX4_seesSign_16 rfl ?_
      refine u_goto (tgt := 21) dX4_seesSign_17 (by decide) ?_
      exact u_zret (b := true) dX4_seesSign_21 rfl rfl h
theorem mX4_seesSign {E : mm_Env} {d : Nat} {τ : mm_Mem} {Q : mm_Q0} {a0 : Int} (h : (((τ 77 3) ≠ 2 → Q (some (vB false)) τ) ∧ ((τ 77 3) = 2 → inR a0 ∧ (((τ 77 4) ≠ a0 → Q (some (vB false)) τ) ∧ ((τ 77 4) = a0 → Q (some (vB true)) τ))))) : M0 E d qX4_seesSign [vR 77, vI a0] τ Q := M0_of rfl (Nat.le_of_ble_eq_true rfl) [some (vR 77), some (vI a0)] rfl (bX4_seesSign_0  h)
set_option maxRecDepth 20000 in
theorem bX4_readStatement_0 {E : mm_Env} {d : Nat} {τ : mm_Mem} {Q : mm_Q0}  (h : (((τ 77 3) = 4 → (((τ 77 4) < 2 ∨ 16 < (τ 77 4) → M0 E d qX4_fail [vR 77, vI 1] τ (fun v τ3 => ∃ b4 : Bool, v = some (vB b4) ∧ ((b4 = false → Q (some (vB false)) τ3) ∧ (b4 = true → M0 E d qX4_readSign [vR 77, vI 59] τ3 (fun v τ5 => ∃ b6 : Bool, v = some (vB b6) ∧ ((b6 = false → Q (some (vB false)) τ5) ∧ (b6 = true → Q (some (vB true)) τ5))))))) ∧ ((τ 77 4) = 2 → M0 E d qX4_readTune [vR 77] τ (fun v τ7 => ∃ b8 : Bool, v = some (vB b8) ∧ ((b8 = false → Q (some (vB false)) τ7) ∧ (b8 = true → M0 E d qX4_readSign [vR 77, vI 59] τ7 (fun v τ9 => ∃ b10 : Bool, v = some (vB b10) ∧ ((b10 = false → Q (some (vB false)) τ9) ∧ (b10 = true → Q (some (vB true)) τ9))))))) ∧ ((τ 77 4) = 3 → M0 E d qX4_fail [vR 77, vI 1] τ (fun v τ11 => ∃ b12 : Bool, v = some (vB b12) ∧ ((b12 = false → Q (some (vB false)) τ11) ∧ (b12 = true → M0 E d qX4_readSign [vR 77, vI 59] τ11 (fun v τ13 => ∃ b14 : Bool, v = some (vB b14) ∧ ((b14 = false → Q (some (vB false)) τ13) ∧ (b14 = true → Q (some (vB true)) τ13))))))) ∧ ((τ 77 4) = 4 → M0 E d qX4_readRule [vR 77, vI 0] τ (fun v τ15 => ∃ b16 : Bool, v = some (vB b16) ∧ ((b16 = false → Q (some (vB false)) τ15) ∧ (b16 = true → M0 E d qX4_readSign [vR 77, vI 59] τ15 (fun v τ17 => ∃ b18 : Bool, v = some (vB b18) ∧ ((b18 = false → Q (some (vB false)) τ17) ∧ (b18 = true → Q (some (vB true)) τ17))))))) ∧ ((τ 77 4) = 5 → M0 E d qX4_readRule [vR 77, vI 1] τ (fun v τ19 => ∃ b20 : Bool, v = some (vB b20) ∧ ((b20 = false → Q (some (vB false)) τ19) ∧ (b20 = true → M0 E d qX4_readSign [vR 77, vI 59] τ19 (fun v τ21 => ∃ b22 : Bool, v = some (vB b22) ∧ ((b22 = false → Q (some (vB false)) τ21) ∧ (b22 = true → Q (some (vB true)) τ21))))))) ∧ ((τ 77 4) = 6 → M0 E d qX4_readRule [vR 77, vI 2] τ (fun v τ23 => ∃ b24 : Bool, v = some (vB b24) ∧ ((b24 = false → Q (some (vB false)) τ23) ∧ (b24 = true → M0 E d qX4_readSign [vR 77, vI 59] τ23 (fun v τ25 => ∃ b26 : Bool, v = some (vB b26) ∧ ((b26 = false → Q (some (vB false)) τ25) ∧ (b26 = true → Q (some (vB true)) τ25))))))) ∧ ((τ 77 4) = 7 → M0 E d qX4_readDoor [vR 77] τ (fun v τ27 => ∃ b28 : Bool, v = some (vB b28) ∧ ((b28 = false → Q (some (vB false)) τ27) ∧ (b28 = true → M0 E d qX4_readSign [vR 77, vI 59] τ27 (fun v τ29 => ∃ b30 : Bool, v = some (vB b30) ∧ ((b30 = false → Q (some (vB false)) τ29) ∧ (b30 = true → Q (some (vB true)) τ29))))))) ∧ ((τ 77 4) = 8 → M0 E d qX4_fail [vR 77, vI 1] τ (fun v τ31 => ∃ b32 : Bool, v = some (vB b32) ∧ ((b32 = false → Q (some (vB false)) τ31) ∧ (b32 = true → M0 E d qX4_readSign [vR 77, vI 59] τ31 (fun v τ33 => ∃ b34 : Bool, v = some (vB b34) ∧ ((b34 = false → Q (some (vB false)) τ33) ∧ (b34 = true → Q (some (vB true)) τ33))))))) ∧ ((τ 77 4) = 9 → M0 E d qX4_fail [vR 77, vI 1] τ (fun v τ35 => ∃ b36 : Bool, v = some (vB b36) ∧ ((b36 = false → Q (some (vB false)) τ35) ∧ (b36 = true → M0 E d qX4_readSign [vR 77, vI 59] τ35 (fun v τ37 => ∃ b38 : Bool, v = some (vB b38) ∧ ((b38 = false → Q (some (vB false)) τ37) ∧ (b38 = true → Q (some (vB true)) τ37))))))) ∧ ((τ 77 4) = 10 → M0 E d qX4_fail [vR 77, vI 1] τ (fun v τ39 => ∃ b40 : Bool, v = some (vB b40) ∧ ((b40 = false → Q (some (vB false)) τ39) ∧ (b40 = true → M0 E d qX4_readSign [vR 77, vI 59] τ39 (fun v τ41 => ∃ b42 : Bool, v = some (vB b42) ∧ ((b42 = false → Q (some (vB false)) τ41) ∧ (b42 = true → Q (some (vB true)) τ41))))))) ∧ ((τ 77 4) = 11 → M0 E d qX4_fail [vR 77, vI 1] τ (fun v τ43 => ∃ b44 : Bool, v = some (vB b44) ∧ ((b44 = false → Q (some (vB false)) τ43) ∧ (b44 = true → M0 E d qX4_readSign [vR 77, vI 59] τ43 (fun v τ45 => ∃ b46 : Bool, v = some (vB b46) ∧ ((b46 = false → Q (some (vB false)) τ45) ∧ (b46 = true → Q (some (vB true)) τ45))))))) ∧ ((τ 77 4) = 12 → M0 E d qX4_fail [vR 77, vI 1] τ (fun v τ47 => ∃ b48 : Bool, v = some (vB b48) ∧ ((b48 = false → Q (some (vB false)) τ47) ∧ (b48 = true → M0 E d qX4_readSign [vR 77, vI 59] τ47 (fun v τ49 => ∃ b50 : Bool, v = some (vB b50) ∧ ((b50 = false → Q (some (vB false)) τ49) ∧ (b50 = true → Q (some (vB true)) τ49))))))) ∧ ((τ 77 4) = 13 → M0 E d qX4_readPerson [vR 77] τ (fun v τ51 => ∃ b52 : Bool, v = some (vB b52) ∧ ((b52 = false → Q (some (vB false)) τ51) ∧ (b52 = true → M0 E d qX4_readSign [vR 77, vI 59] τ51 (fun v τ53 => ∃ b54 : Bool, v = some (vB b54) ∧ ((b54 = false → Q (some (vB false)) τ53) ∧ (b54 = true → Q (some (vB true)) τ53))))))) ∧ ((τ 77 4) = 14 → M0 E d qX4_fail [vR 77, vI 1] τ (fun v τ55 => ∃ b56 : Bool, v = some (vB b56) ∧ ((b56 = false → Q (some (vB false)) τ55) ∧ (b56 = true → M0 E d qX4_readSign [vR 77, vI 59] τ55 (fun v τ57 => ∃ b58 : Bool, v = some (vB b58) ∧ ((b58 = false → Q (some (vB false)) τ57) ∧ (b58 = true → Q (some (vB true)) τ57))))))) ∧ ((τ 77 4) = 15 → M0 E d qX4_fail [vR 77, vI 1] τ (fun v τ59 => ∃ b60 : Bool, v = some (vB b60) ∧ ((b60 = false → Q (some (vB false)) τ59) ∧ (b60 = true → M0 E d qX4_readSign [vR 77, vI 59] τ59 (fun v τ61 => ∃ b62 : Bool, v = some (vB b62) ∧ ((b62 = false → Q (some (vB false)) τ61) ∧ (b62 = true → Q (some (vB true)) τ61))))))) ∧ ((τ 77 4) = 16 → M0 E d qX4_readWorth [vR 77] τ (fun v τ63 => ∃ b64 : Bool, v = some (vB b64) ∧ ((b64 = false → Q (some (vB false)) τ63) ∧ (b64 = true → M0 E d qX4_readSign [vR 77, vI 59] τ63 (fun v τ65 => ∃ b66 : Bool, v = some (vB b66) ∧ ((b66 = false → Q (some (vB false)) τ65) ∧ (b66 = true → Q (some (vB true)) τ65))))))))) ∧ (¬ (τ 77 3) = 4 → M0 E d qX4_fail [vR 77, vI 1] τ (fun v τ67 => ∃ b68 : Bool, v = some (vB b68) ∧ Q (some (vB b68)) τ67)))) : V0 E (d + 1) qX4_readStatement 0 [some (vR 77), none] [] τ Q := by
  refine u_aload_n (i := 0) (pc' := 1) dX4_readStatement_0 rfl rfl rfl ?_
  refine u_getI (z := (τ 77 3)) (pc' := 4) dX4_readStatement_1 rfl fl_TuneDoor_Reader_44 rfl (by decide) (by decide) kd_77 rfl (fun r1 => ?_)
  refine u_iconst (pc' := 5) dX4_readStatement_4 rfl ?_
  refine u_icmp_eq (tgt := 14) (pc' := 8) dX4_readStatement_5 rfl (by decide) r1 ⟨by decide, by decide⟩ (fun hb => ?_) (fun hb => ?_)
  · have h := h.1 hb
    refine u_aload_n (i := 0) (pc' := 15) dX4_readStatement_14 rfl rfl rfl ?_
    refine u_getI (z := (τ 77 4)) (pc' := 18) dX4_readStatement_15 rfl fl_TuneDoor_Reader_62 rfl (by decide) (by decide) kd_77 rfl (fun r2 => ?_)
    refine u_tableswitch (dt := 151) dX4_readStatement_18 r2 (by decide) (fun hb => ?_) (fun hb hb2 => ?_)
    · have h := h.1 hb
      refine u_aload_n (i := 0) (pc' := 152) dX4_readStatement_151 rfl rfl rfl ?_
      refine u_iconst (pc' := 153) dX4_readStatement_152 rfl ?_
      refine u_invV (q' := qX4_fail) (As := [vI 1]) (st := []) (pc' := 156) dX4_readStatement_153 rfl gX4_fail wm_585 rfl rfl (by decide) kd_77 wm_587 wp_10 rfl (Nat.le_of_ble_eq_true rfl) (M0.mono h (fun v τ3 h => ?_))
      obtain ⟨b4, rfl, h⟩ := h
      show V0 E (d + 1) qX4_readStatement 156 [some (vR 77), none] [vB b4] τ3 Q
      refine s_istore_n (i := 1) (ls' := [some (vR 77), some (vB b4)]) (pc' := 157) dX4_readStatement_156 rfl rfl (Nat.le_of_ble_eq_true rfl) rfl rfl ?_
      refine u_iload_n (i := 1) (pc' := 158) dX4_readStatement_157 rfl rfl rfl ?_
      refine u_if_eq (tgt := 174) (pc' := 161) dX4_readStatement_158 rfl (by decide) (bI_R _) (fun hb => ?_) (fun hb => ?_)
      · have h := h.1 (bI_0.mp hb)
        refine u_iconst (pc' := 175) dX4_readStatement_174 rfl ?_
        exact u_zret (b := false) dX4_readStatement_175 rfl rfl h
      · have h := h.2 (bI_n0.mp hb)
        refine u_aload_n (i := 0) (pc' := 162) dX4_readStatement_161 rfl rfl rfl ?_
        refine u_bipush (pc' := 164) dX4_readStatement_162 rfl (by decide) ?_
        refine u_invV (q' := qX4_readSign) (As := [vI 59]) (st := []) (pc' := 167) dX4_readStatement_164 rfl gX4_readSign wm_593 rfl rfl (by decide) kd_77 wm_595 wp_12 rfl (Nat.le_of_ble_eq_true rfl) (M0.mono h (fun v τ5 h => ?_))
        obtain ⟨b6, rfl, h⟩ := h
        show V0 E (d + 1) qX4_readStatement 167 [some (vR 77), some (vB b4)] [vB b6] τ5 Q
        refine u_if_eq (tgt := 174) (pc' := 170) dX4_readStatement_167 rfl (by decide) (bI_R _) (fun hb => ?_) (fun hb => ?_)
        · have h := h.1 (bI_0.mp hb)
          refine u_iconst (pc' := 175) dX4_readStatement_174 rfl ?_
          exact u_zret (b := false) dX4_readStatement_175 rfl rfl h
        · have h := h.2 (bI_n0.mp hb)
          refine u_iconst (pc' := 171) dX4_readStatement_170 rfl ?_
          refine u_goto (tgt := 175) dX4_readStatement_171 (by decide) ?_
          exact u_zret (b := true) dX4_readStatement_175 rfl rfl h
    · have hc : (τ 77 4) = 2 ∨ (τ 77 4) = 3 ∨ (τ 77 4) = 4 ∨ (τ 77 4) = 5 ∨ (τ 77 4) = 6 ∨ (τ 77 4) = 7 ∨ (τ 77 4) = 8 ∨ (τ 77 4) = 9 ∨ (τ 77 4) = 10 ∨ (τ 77 4) = 11 ∨ (τ 77 4) = 12 ∨ (τ 77 4) = 13 ∨ (τ 77 4) = 14 ∨ (τ 77 4) = 15 ∨ (τ 77 4) = 16 := by omega
      rcases hc with hc | hc | hc | hc | hc | hc | hc | hc | hc | hc | hc | hc | hc | hc | hc
      · have h := h.2.1 hc
        refine ⟨74, 92, by rw [hc]; rfl, by decide, ?_⟩
        refine u_aload_n (i := 0) (pc' := 93) dX4_readStatement_92 rfl rfl rfl ?_
        refine u_invV (q' := qX4_readTune) (As := []) (st := []) (pc' := 96) dX4_readStatement_93 rfl gX4_readTune wm_605 rfl rfl (by decide) kd_77 wm_607 wp_15 rfl (Nat.le_of_ble_eq_true rfl) (M0.mono h (fun v τ7 h => ?_))
        obtain ⟨b8, rfl, h⟩ := h
        show V0 E (d + 1) qX4_readStatement 96 [some (vR 77), none] [vB b8] τ7 Q
        refine s_istore_n (i := 1) (ls' := [some (vR 77), some (vB b8)]) (pc' := 97) dX4_readStatement_96 rfl rfl (Nat.le_of_ble_eq_true rfl) rfl rfl ?_
        refine u_goto (tgt := 157) dX4_readStatement_97 (by decide) ?_
        refine u_iload_n (i := 1) (pc' := 158) dX4_readStatement_157 rfl rfl rfl ?_
        refine u_if_eq (tgt := 174) (pc' := 161) dX4_readStatement_158 rfl (by decide) (bI_R _) (fun hb => ?_) (fun hb => ?_)
        · have h := h.1 (bI_0.mp hb)
          refine u_iconst (pc' := 175) dX4_readStatement_174 rfl ?_
          exact u_zret (b := false) dX4_readStatement_175 rfl rfl h
        · have h := h.2 (bI_n0.mp hb)
          refine u_aload_n (i := 0) (pc' := 162) dX4_readStatement_161 rfl rfl rfl ?_
          refine u_bipush (pc' := 164) dX4_readStatement_162 rfl (by decide) ?_
          refine u_invV (q' := qX4_readSign) (As := [vI 59]) (st := []) (pc' := 167) dX4_readStatement_164 rfl gX4_readSign wm_593 rfl rfl (by decide) kd_77 wm_595 wp_12 rfl (Nat.le_of_ble_eq_true rfl) (M0.mono h (fun v τ9 h => ?_))
          obtain ⟨b10, rfl, h⟩ := h
          show V0 E (d + 1) qX4_readStatement 167 [some (vR 77), some (vB b8)] [vB b10] τ9 Q
          refine u_if_eq (tgt := 174) (pc' := 170) dX4_readStatement_167 rfl (by decide) (bI_R _) (fun hb => ?_) (fun hb => ?_)
          · have h := h.1 (bI_0.mp hb)
            refine u_iconst (pc' := 175) dX4_readStatement_174 rfl ?_
            exact u_zret (b := false) dX4_readStatement_175 rfl rfl h
          · have h := h.2 (bI_n0.mp hb)
            refine u_iconst (pc' := 171) dX4_readStatement_170 rfl ?_
            refine u_goto (tgt := 175) dX4_readStatement_171 (by decide) ?_
            exact u_zret (b := true) dX4_readStatement_175 rfl rfl h
      · have h := h.2.2.1 hc
        refine ⟨133, 151, by rw [hc]; rfl, by decide, ?_⟩
        refine u_aload_n (i := 0) (pc' := 152) dX4_readStatement_151 rfl rfl rfl ?_
        refine u_iconst (pc' := 153) dX4_readStatement_152 rfl ?_
        refine u_invV (q' := qX4_fail) (As := [vI 1]) (st := []) (pc' := 156) dX4_readStatement_153 rfl gX4_fail wm_585 rfl rfl (by decide) kd_77 wm_587 wp_10 rfl (Nat.le_of_ble_eq_true rfl) (M0.mono h (fun v τ11 h => ?_))
        obtain ⟨b12, rfl, h⟩ := h
        show V0 E (d + 1) qX4_readStatement 156 [some (vR 77), none] [vB b12] τ11 Q
        refine s_istore_n (i := 1) (ls' := [some (vR 77), some (vB b12)]) (pc' := 157) dX4_readStatement_156 rfl rfl (Nat.le_of_ble_eq_true rfl) rfl rfl ?_
        refine u_iload_n (i := 1) (pc' := 158) dX4_readStatement_157 rfl rfl rfl ?_
        refine u_if_eq (tgt := 174) (pc' := 161) dX4_readStatement_158 rfl (by decide) (bI_R _) (fun hb => ?_) (fun hb => ?_)
        · have h := h.1 (bI_0.mp hb)
          refine u_iconst (pc' := 175) dX4_readStatement_174 rfl ?_
          exact u_zret (b := false) dX4_readStatement_175 rfl rfl h
        · have h := h.2 (bI_n0.mp hb)
          refine u_aload_n (i := 0) (pc' := 162) dX4_readStatement_161 rfl rfl rfl ?_
          refine u_bipush (pc' := 164) dX4_readStatement_162 rfl (by decide) ?_
          refine u_invV (q' := qX4_readSign) (As := [vI 59]) (st := []) (pc' := 167) dX4_readStatement_164 rfl gX4_readSign wm_593 rfl rfl (by decide) kd_77 wm_595 wp_12 rfl (Nat.le_of_ble_eq_true rfl) (M0.mono h (fun v τ13 h => ?_))
          obtain ⟨b14, rfl, h⟩ := h
          show V0 E (d + 1) qX4_readStatement 167 [some (vR 77), some (vB b12)] [vB b14] τ13 Q
          refine u_if_eq (tgt := 174) (pc' := 170) dX4_readStatement_167 rfl (by decide) (bI_R _) (fun hb => ?_) (fun hb => ?_)
          · have h := h.1 (bI_0.mp hb)
            refine u_iconst (pc' := 175) dX4_readStatement_174 rfl ?_
            exact u_zret (b := false) dX4_readStatement_175 rfl rfl h
          · have h := h.2 (bI_n0.mp hb)
            refine u_iconst (pc' := 171) dX4_readStatement_170 rfl ?_
            refine u_goto (tgt := 175) dX4_readStatement_171 (by decide) ?_
            exact u_zret (b := true) dX4_readStatement_175 rfl rfl h
      · have h := h.2.2.2.1 hc
        refine ⟨82, 100, by rw [hc]; rfl, by decide, ?_⟩
        refine u_aload_n (i := 0) (pc' := 101) dX4_readStatement_100 rfl rfl rfl ?_
        refine u_iconst (pc' := 102) dX4_readStatement_101 rfl ?_
        refine u_invV (q' := qX4_readRule) (As := [vI 0]) (st := []) (pc' := 105) dX4_readStatement_102 rfl gX4_readRule wm_632 rfl rfl (by decide) kd_77 wm_634 wp_17 rfl (Nat.le_of_ble_eq_true rfl) (M0.mono h (fun v τ15 h => ?_))
        obtain ⟨b16, rfl, h⟩ := h
        show V0 E (d + 1) qX4_readStatement 105 [some (vR 77), none] [vB b16] τ15 Q
        refine s_istore_n (i := 1) (ls' := [some (vR 77), some (vB b16)]) (pc' := 106) dX4_readStatement_105 rfl rfl (Nat.le_of_ble_eq_true rfl) rfl rfl ?_
        refine u_goto (tgt := 157) dX4_readStatement_106 (by decide) ?_
        refine u_iload_n (i := 1) (pc' := 158) dX4_readStatement_157 rfl rfl rfl ?_
        refine u_if_eq (tgt := 174) (pc' := 161) dX4_readStatement_158 rfl (by decide) (bI_R _) (fun hb => ?_) (fun hb => ?_)
        · have h := h.1 (bI_0.mp hb)
          refine u_iconst (pc' := 175) dX4_readStatement_174 rfl ?_
          exact u_zret (b := false) dX4_readStatement_175 rfl rfl h
        · have h := h.2 (bI_n0.mp hb)
          refine u_aload_n (i := 0) (pc' := 162) dX4_readStatement_161 rfl rfl rfl ?_
          refine u_bipush (pc' := 164) dX4_readStatement_162 rfl (by decide) ?_
          refine u_invV (q' := qX4_readSign) (As := [vI 59]) (st := []) (pc' := 167) dX4_readStatement_164 rfl gX4_readSign wm_593 rfl rfl (by decide) kd_77 wm_595 wp_12 rfl (Nat.le_of_ble_eq_true rfl) (M0.mono h (fun v τ17 h => ?_))
          obtain ⟨b18, rfl, h⟩ := h
          show V0 E (d + 1) qX4_readStatement 167 [some (vR 77), some (vB b16)] [vB b18] τ17 Q
          refine u_if_eq (tgt := 174) (pc' := 170) dX4_readStatement_167 rfl (by decide) (bI_R _) (fun hb => ?_) (fun hb => ?_)
          · have h := h.1 (bI_0.mp hb)
            refine u_iconst (pc' := 175) dX4_readStatement_174 rfl ?_
            exact u_zret (b := false) dX4_readStatement_175 rfl rfl h
          · have h := h.2 (bI_n0.mp hb)
            refine u_iconst (pc' := 171) dX4_readStatement_170 rfl ?_
            refine u_goto (tgt := 175) dX4_readStatement_171 (by decide) ?_
            exact u_zret (b := true) dX4_readStatement_175 rfl rfl h
      · have h := h.2.2.2.2.1 hc
        refine ⟨91, 109, by rw [hc]; rfl, by decide, ?_⟩
        refine u_aload_n (i := 0) (pc' := 110) dX4_readStatement_109 rfl rfl rfl ?_
        refine u_iconst (pc' := 111) dX4_readStatement_110 rfl ?_
        refine u_invV (q' := qX4_readRule) (As := [vI 1]) (st := []) (pc' := 114) dX4_readStatement_111 rfl gX4_readRule wm_632 rfl rfl (by decide) kd_77 wm_634 wp_17 rfl (Nat.le_of_ble_eq_true rfl) (M0.mono h (fun v τ19 h => ?_))
        obtain ⟨b20, rfl, h⟩ := h
        show V0 E (d + 1) qX4_readStatement 114 [some (vR 77), none] [vB b20] τ19 Q
        refine s_istore_n (i := 1) (ls' := [some (vR 77), some (vB b20)]) (pc' := 115) dX4_readStatement_114 rfl rfl (Nat.le_of_ble_eq_true rfl) rfl rfl ?_
        refine u_goto (tgt := 157) dX4_readStatement_115 (by decide) ?_
        refine u_iload_n (i := 1) (pc' := 158) dX4_readStatement_157 rfl rfl rfl ?_
        refine u_if_eq (tgt := 174) (pc' := 161) dX4_readStatement_158 rfl (by decide) (bI_R _) (fun hb => ?_) (fun hb => ?_)
        · have h := h.1 (bI_0.mp hb)
          refine u_iconst (pc' := 175) dX4_readStatement_174 rfl ?_
          exact u_zret (b := false) dX4_readStatement_175 rfl rfl h
        · have h := h.2 (bI_n0.mp hb)
          refine u_aload_n (i := 0) (pc' := 162) dX4_readStatement_161 rfl rfl rfl ?_
          refine u_bipush (pc' := 164) dX4_readStatement_162 rfl (by decide) ?_
          refine u_invV (q' := qX4_readSign) (As := [vI 59]) (st := []) (pc' := 167) dX4_readStatement_164 rfl gX4_readSign wm_593 rfl rfl (by decide) kd_77 wm_595 wp_12 rfl (Nat.le_of_ble_eq_true rfl) (M0.mono h (fun v τ21 h => ?_))
          obtain ⟨b22, rfl, h⟩ := h
          show V0 E (d + 1) qX4_readStatement 167 [some (vR 77), some (vB b20)] [vB b22] τ21 Q
          refine u_if_eq (tgt := 174) (pc' := 170) dX4_readStatement_167 rfl (by decide) (bI_R _) (fun hb => ?_) (fun hb => ?_)
          · have h := h.1 (bI_0.mp hb)
            refine u_iconst (pc' := 175) dX4_readStatement_174 rfl ?_
            exact u_zret (b := false) dX4_readStatement_175 rfl rfl h
          · have h := h.2 (bI_n0.mp hb)
            refine u_iconst (pc' := 171) dX4_readStatement_170 rfl ?_
            refine u_goto (tgt := 175) dX4_readStatement_171 (by decide) ?_
            exact u_zret (b := true) dX4_readStatement_175 rfl rfl h
      · have h := h.2.2.2.2.2.1 hc
        refine ⟨100, 118, by rw [hc]; rfl, by decide, ?_⟩
        refine u_aload_n (i := 0) (pc' := 119) dX4_readStatement_118 rfl rfl rfl ?_
        refine u_iconst (pc' := 120) dX4_readStatement_119 rfl ?_
        refine u_invV (q' := qX4_readRule) (As := [vI 2]) (st := []) (pc' := 123) dX4_readStatement_120 rfl gX4_readRule wm_632 rfl rfl (by decide) kd_77 wm_634 wp_17 rfl (Nat.le_of_ble_eq_true rfl) (M0.mono h (fun v τ23 h => ?_))
        obtain ⟨b24, rfl, h⟩ := h
        show V0 E (d + 1) qX4_readStatement 123 [some (vR 77), none] [vB b24] τ23 Q
        refine s_istore_n (i := 1) (ls' := [some (vR 77), some (vB b24)]) (pc' := 124) dX4_readStatement_123 rfl rfl (Nat.le_of_ble_eq_true rfl) rfl rfl ?_
        refine u_goto (tgt := 157) dX4_readStatement_124 (by decide) ?_
        refine u_iload_n (i := 1) (pc' := 158) dX4_readStatement_157 rfl rfl rfl ?_
        refine u_if_eq (tgt := 174) (pc' := 161) dX4_readStatement_158 rfl (by decide) (bI_R _) (fun hb => ?_) (fun hb => ?_)
        · have h := h.1 (bI_0.mp hb)
          refine u_iconst (pc' := 175) dX4_readStatement_174 rfl ?_
          exact u_zret (b := false) dX4_readStatement_175 rfl rfl h
        · have h := h.2 (bI_n0.mp hb)
          refine u_aload_n (i := 0) (pc' := 162) dX4_readStatement_161 rfl rfl rfl ?_
          refine u_bipush (pc' := 164) dX4_readStatement_162 rfl (by decide) ?_
          refine u_invV (q' := qX4_readSign) (As := [vI 59]) (st := []) (pc' := 167) dX4_readStatement_164 rfl gX4_readSign wm_593 rfl rfl (by decide) kd_77 wm_595 wp_12 rfl (Nat.le_of_ble_eq_true rfl) (M0.mono h (fun v τ25 h => ?_))
          obtain ⟨b26, rfl, h⟩ := h
          show V0 E (d + 1) qX4_readStatement 167 [some (vR 77), some (vB b24)] [vB b26] τ25 Q
          refine u_if_eq (tgt := 174) (pc' := 170) dX4_readStatement_167 rfl (by decide) (bI_R _) (fun hb => ?_) (fun hb => ?_)
          · have h := h.1 (bI_0.mp hb)
            refine u_iconst (pc' := 175) dX4_readStatement_174 rfl ?_
            exact u_zret (b := false) dX4_readStatement_175 rfl rfl h
          · have h := h.2 (bI_n0.mp hb)
            refine u_iconst (pc' := 171) dX4_readStatement_170 rfl ?_
            refine u_goto (tgt := 175) dX4_readStatement_171 (by decide) ?_
            exact u_zret (b := true) dX4_readStatement_175 rfl rfl h
      · have h := h.2.2.2.2.2.2.1 hc
        refine ⟨109, 127, by rw [hc]; rfl, by decide, ?_⟩
        refine u_aload_n (i := 0) (pc' := 128) dX4_readStatement_127 rfl rfl rfl ?_
        refine u_invV (q' := qX4_readDoor) (As := []) (st := []) (pc' := 131) dX4_readStatement_128 rfl gX4_readDoor wm_704 rfl rfl (by decide) kd_77 wm_706 wp_29 rfl (Nat.le_of_ble_eq_true rfl) (M0.mono h (fun v τ27 h => ?_))
        obtain ⟨b28, rfl, h⟩ := h
        show V0 E (d + 1) qX4_readStatement 131 [some (vR 77), none] [vB b28] τ27 Q
        refine s_istore_n (i := 1) (ls' := [some (vR 77), some (vB b28)]) (pc' := 132) dX4_readStatement_131 rfl rfl (Nat.le_of_ble_eq_true rfl) rfl rfl ?_
        refine u_goto (tgt := 157) dX4_readStatement_132 (by decide) ?_
        refine u_iload_n (i := 1) (pc' := 158) dX4_readStatement_157 rfl rfl rfl ?_
        refine u_if_eq (tgt := 174) (pc' := 161) dX4_readStatement_158 rfl (by decide) (bI_R _) (fun hb => ?_) (fun hb => ?_)
        · have h := h.1 (bI_0.mp hb)
          refine u_iconst (pc' := 175) dX4_readStatement_174 rfl ?_
          exact u_zret (b := false) dX4_readStatement_175 rfl rfl h
        · have h := h.2 (bI_n0.mp hb)
          refine u_aload_n (i := 0) (pc' := 162) dX4_readStatement_161 rfl rfl rfl ?_
          refine u_bipush (pc' := 164) dX4_readStatement_162 rfl (by decide) ?_
          refine u_invV (q' := qX4_readSign) (As := [vI 59]) (st := []) (pc' := 167) dX4_readStatement_164 rfl gX4_readSign wm_593 rfl rfl (by decide) kd_77 wm_595 wp_12 rfl (Nat.le_of_ble_eq_true rfl) (M0.mono h (fun v τ29 h => ?_))
          obtain ⟨b30, rfl, h⟩ := h
          show V0 E (d + 1) qX4_readStatement 167 [some (vR 77), some (vB b28)] [vB b30] τ29 Q
          refine u_if_eq (tgt := 174) (pc' := 170) dX4_readStatement_167 rfl (by decide) (bI_R _) (fun hb => ?_) (fun hb => ?_)
          · have h := h.1 (bI_0.mp hb)
            refine u_iconst (pc' := 175) dX4_readStatement_174 rfl ?_
            exact u_zret (b := false) dX4_readStatement_175 rfl rfl h
          · have h := h.2 (bI_n0.mp hb)
            refine u_iconst (pc' := 171) dX4_readStatement_170 rfl ?_
            refine u_goto (tgt := 175) dX4_readStatement_171 (by decide) ?_
            exact u_zret (b := true) dX4_readStatement_175 rfl rfl h
      · have h := h.2.2.2.2.2.2.2.1 hc
        refine ⟨133, 151, by rw [hc]; rfl, by decide, ?_⟩
        refine u_aload_n (i := 0) (pc' := 152) dX4_readStatement_151 rfl rfl rfl ?_
        refine u_iconst (pc' := 153) dX4_readStatement_152 rfl ?_
        refine u_invV (q' := qX4_fail) (As := [vI 1]) (st := []) (pc' := 156) dX4_readStatement_153 rfl gX4_fail wm_585 rfl rfl (by decide) kd_77 wm_587 wp_10 rfl (Nat.le_of_ble_eq_true rfl) (M0.mono h (fun v τ31 h => ?_))
        obtain ⟨b32, rfl, h⟩ := h
        show V0 E (d + 1) qX4_readStatement 156 [some (vR 77), none] [vB b32] τ31 Q
        refine s_istore_n (i := 1) (ls' := [some (vR 77), some (vB b32)]) (pc' := 157) dX4_readStatement_156 rfl rfl (Nat.le_of_ble_eq_true rfl) rfl rfl ?_
        refine u_iload_n (i := 1) (pc' := 158) dX4_readStatement_157 rfl rfl rfl ?_
        refine u_if_eq (tgt := 174) (pc' := 161) dX4_readStatement_158 rfl (by decide) (bI_R _) (fun hb => ?_) (fun hb => ?_)
        · have h := h.1 (bI_0.mp hb)
          refine u_iconst (pc' := 175) dX4_readStatement_174 rfl ?_
          exact u_zret (b := false) dX4_readStatement_175 rfl rfl h
        · have h := h.2 (bI_n0.mp hb)
          refine u_aload_n (i := 0) (pc' := 162) dX4_readStatement_161 rfl rfl rfl ?_
          refine u_bipush (pc' := 164) dX4_readStatement_162 rfl (by decide) ?_
          refine u_invV (q' := qX4_readSign) (As := [vI 59]) (st := []) (pc' := 167) dX4_readStatement_164 rfl gX4_readSign wm_593 rfl rfl (by decide) kd_77 wm_595 wp_12 rfl (Nat.le_of_ble_eq_true rfl) (M0.mono h (fun v τ33 h => ?_))
          obtain ⟨b34, rfl, h⟩ := h
          show V0 E (d + 1) qX4_readStatement 167 [some (vR 77), some (vB b32)] [vB b34] τ33 Q
          refine u_if_eq (tgt := 174) (pc' := 170) dX4_readStatement_167 rfl (by decide) (bI_R _) (fun hb => ?_) (fun hb => ?_)
          · have h := h.1 (bI_0.mp hb)
            refine u_iconst (pc' := 175) dX4_readStatement_174 rfl ?_
            exact u_zret (b := false) dX4_readStatement_175 rfl rfl h
          · have h := h.2 (bI_n0.mp hb)
            refine u_iconst (pc' := 171) dX4_readStatement_170 rfl ?_
            refine u_goto (tgt := 175) dX4_readStatement_171 (by decide) ?_
            exact u_zret (b := true) dX4_readStatement_175 rfl rfl h
      · have h := h.2.2.2.2.2.2.2.2.1 hc
        refine ⟨133, 151, by rw [hc]; rfl, by decide, ?_⟩
        refine u_aload_n (i := 0) (pc' := 152) dX4_readStatement_151 rfl rfl rfl ?_
        refine u_iconst (pc' := 153) dX4_readStatement_152 rfl ?_
        refine u_invV (q' := qX4_fail) (As := [vI 1]) (st := []) (pc' := 156) dX4_readStatement_153 rfl gX4_fail wm_585 rfl rfl (by decide) kd_77 wm_587 wp_10 rfl (Nat.le_of_ble_eq_true rfl) (M0.mono h (fun v τ35 h => ?_))
        obtain ⟨b36, rfl, h⟩ := h
        show V0 E (d + 1) qX4_readStatement 156 [some (vR 77), none] [vB b36] τ35 Q
        refine s_istore_n (i := 1) (ls' := [some (vR 77), some (vB b36)]) (pc' := 157) dX4_readStatement_156 rfl rfl (Nat.le_of_ble_eq_true rfl) rfl rfl ?_
        refine u_iload_n (i := 1) (pc' := 158) dX4_readStatement_157 rfl rfl rfl ?_
        refine u_if_eq (tgt := 174) (pc' := 161) dX4_readStatement_158 rfl (by decide) (bI_R _) (fun hb => ?_) (fun hb => ?_)
        · have h := h.1 (bI_0.mp hb)
          refine u_iconst (pc' := 175) dX4_readStatement_174 rfl ?_
          exact u_zret (b := false) dX4_readStatement_175 rfl rfl h
        · have h := h.2 (bI_n0.mp hb)
          refine u_aload_n (i := 0) (pc' := 162) dX4_readStatement_161 rfl rfl rfl ?_
          refine u_bipush (pc' := 164) dX4_readStatement_162 rfl (by decide) ?_
          refine u_invV (q' := qX4_readSign) (As := [vI 59]) (st := []) (pc' := 167) dX4_readStatement_164 rfl gX4_readSign wm_593 rfl rfl (by decide) kd_77 wm_595 wp_12 rfl (Nat.le_of_ble_eq_true rfl) (M0.mono h (fun v τ37 h => ?_))
          obtain ⟨b38, rfl, h⟩ := h
          show V0 E (d + 1) qX4_readStatement 167 [some (vR 77), some (vB b36)] [vB b38] τ37 Q
          refine u_if_eq (tgt := 174) (pc' := 170) dX4_readStatement_167 rfl (by decide) (bI_R _) (fun hb => ?_) (fun hb => ?_)
          · have h := h.1 (bI_0.mp hb)
            refine u_iconst (pc' := 175) dX4_readStatement_174 rfl ?_
            exact u_zret (b := false) dX4_readStatement_175 rfl rfl h
          · have h := h.2 (bI_n0.mp hb)
            refine u_iconst (pc' := 171) dX4_readStatement_170 rfl ?_
            refine u_goto (tgt := 175) dX4_readStatement_171 (by decide) ?_
            exact u_zret (b := true) dX4_readStatement_175 rfl rfl h
      · have h := h.2.2.2.2.2.2.2.2.2.1 hc
        refine ⟨133, 151, by rw [hc]; rfl, by decide, ?_⟩
        refine u_aload_n (i := 0) (pc' := 152) dX4_readStatement_151 rfl rfl rfl ?_
        refine u_iconst (pc' := 153) dX4_readStatement_152 rfl ?_
        refine u_invV (q' := qX4_fail) (As := [vI 1]) (st := []) (pc' := 156) dX4_readStatement_153 rfl gX4_fail wm_585 rfl rfl (by decide) kd_77 wm_587 wp_10 rfl (Nat.le_of_ble_eq_true rfl) (M0.mono h (fun v τ39 h => ?_))
        obtain ⟨b40, rfl, h⟩ := h
        show V0 E (d + 1) qX4_readStatement 156 [some (vR 77), none] [vB b40] τ39 Q
        refine s_istore_n (i := 1) (ls' := [some (vR 77), some (vB b40)]) (pc' := 157) dX4_readStatement_156 rfl rfl (Nat.le_of_ble_eq_true rfl) rfl rfl ?_
        refine u_iload_n (i := 1) (pc' := 158) dX4_readStatement_157 rfl rfl rfl ?_
        refine u_if_eq (tgt := 174) (pc' := 161) dX4_readStatement_158 rfl (by decide) (bI_R _) (fun hb => ?_) (fun hb => ?_)
        · have h := h.1 (bI_0.mp hb)
          refine u_iconst (pc' := 175) dX4_readStatement_174 rfl ?_
          exact u_zret (b := false) dX4_readStatement_175 rfl rfl h
        · have h := h.2 (bI_n0.mp hb)
          refine u_aload_n (i := 0) (pc' := 162) dX4_readStatement_161 rfl rfl rfl ?_
          refine u_bipush (pc' := 164) dX4_readStatement_162 rfl (by decide) ?_
          refine u_invV (q' := qX4_readSign) (As := [vI 59]) (st := []) (pc' := 167) dX4_readStatement_164 rfl gX4_readSign wm_593 rfl rfl (by decide) kd_77 wm_595 wp_12 rfl (Nat.le_of_ble_eq_true rfl) (M0.mono h (fun v τ41 h => ?_))
          obtain ⟨b42, rfl, h⟩ := h
          show V0 E (d + 1) qX4_readStatement 167 [some (vR 77), some (vB b40)] [vB b42] τ41 Q
          refine u_if_eq (tgt := 174) (pc' := 170) dX4_readStatement_167 rfl (by decide) (bI_R _) (fun hb => ?_) (fun hb => ?_)
          · have h := h.1 (bI_0.mp hb)
            refine u_iconst (pc' := 175) dX4_readStatement_174 rfl ?_
            exact u_zret (b := false) dX4_readStatement_175 rfl rfl h
          · have h := h.2 (bI_n0.mp hb)
            refine u_iconst (pc' := 171) dX4_readStatement_170 rfl ?_
            refine u_goto (tgt := 175) dX4_readStatement_171 (by decide) ?_
            exact u_zret (b := true) dX4_readStatement_175 rfl rfl h
      · have h := h.2.2.2.2.2.2.2.2.2.2.1 hc
        refine ⟨133, 151, by rw [hc]; rfl, by decide, ?_⟩
        refine u_aload_n (i := 0) (pc' := 152) dX4_readStatement_151 rfl rfl rfl ?_
        refine u_iconst (pc' := 153) dX4_readStatement_152 rfl ?_
        refine u_invV (q' := qX4_fail) (As := [vI 1]) (st := []) (pc' := 156) dX4_readStatement_153 rfl gX4_fail wm_585 rfl rfl (by decide) kd_77 wm_587 wp_10 rfl (Nat.le_of_ble_eq_true rfl) (M0.mono h (fun v τ43 h => ?_))
        obtain ⟨b44, rfl, h⟩ := h
        show V0 E (d + 1) qX4_readStatement 156 [some (vR 77), none] [vB b44] τ43 Q
        refine s_istore_n (i := 1) (ls' := [some (vR 77), some (vB b44)]) (pc' := 157) dX4_readStatement_156 rfl rfl (Nat.le_of_ble_eq_true rfl) rfl rfl ?_
        refine u_iload_n (i := 1) (pc' := 158) dX4_readStatement_157 rfl rfl rfl ?_
        refine u_if_eq (tgt := 174) (pc' := 161) dX4_readStatement_158 rfl (by decide) (bI_R _) (fun hb => ?_) (fun hb => ?_)
        · have h := h.1 (bI_0.mp hb)
          refine u_iconst (pc' := 175) dX4_readStatement_174 rfl ?_
          exact u_zret (b := false) dX4_readStatement_175 rfl rfl h
        · have h := h.2 (bI_n0.mp hb)
          refine u_aload_n (i := 0) (pc' := 162) dX4_readStatement_161 rfl rfl rfl ?_
          refine u_bipush (pc' := 164) dX4_readStatement_162 rfl (by decide) ?_
          refine u_invV (q' := qX4_readSign) (As := [vI 59]) (st := []) (pc' := 167) dX4_readStatement_164 rfl gX4_readSign wm_593 rfl rfl (by decide) kd_77 wm_595 wp_12 rfl (Nat.le_of_ble_eq_true rfl) (M0.mono h (fun v τ45 h => ?_))
          obtain ⟨b46, rfl, h⟩ := h
          show V0 E (d + 1) qX4_readStatement 167 [some (vR 77), some (vB b44)] [vB b46] τ45 Q
          refine u_if_eq (tgt := 174) (pc' := 170) dX4_readStatement_167 rfl (by decide) (bI_R _) (fun hb => ?_) (fun hb => ?_)
          · have h := h.1 (bI_0.mp hb)
            refine u_iconst (pc' := 175) dX4_readStatement_174 rfl ?_
            exact u_zret (b := false) dX4_readStatement_175 rfl rfl h
          · have h := h.2 (bI_n0.mp hb)
            refine u_iconst (pc' := 171) dX4_readStatement_170 rfl ?_
            refine u_goto (tgt := 175) dX4_readStatement_171 (by decide) ?_
            exact u_zret (b := true) dX4_readStatement_175 rfl rfl h
      · have h := h.2.2.2.2.2.2.2.2.2.2.2.1 hc
        refine ⟨133, 151, by rw [hc]; rfl, by decide, ?_⟩
        refine u_aload_n (i := 0) (pc' := 152) dX4_readStatement_151 rfl rfl rfl ?_
        refine u_iconst (pc' := 153) dX4_readStatement_152 rfl ?_
        refine u_invV (q' := qX4_fail) (As := [vI 1]) (st := []) (pc' := 156) dX4_readStatement_153 rfl gX4_fail wm_585 rfl rfl (by decide) kd_77 wm_587 wp_10 rfl (Nat.le_of_ble_eq_true rfl) (M0.mono h (fun v τ47 h => ?_))
        obtain ⟨b48, rfl, h⟩ := h
        show V0 E (d + 1) qX4_readStatement 156 [some (vR 77), none] [vB b48] τ47 Q
        refine s_istore_n (i := 1) (ls' := [some (vR 77), some (vB b48)]) (pc' := 157) dX4_readStatement_156 rfl rfl (Nat.le_of_ble_eq_true rfl) rfl rfl ?_
        refine u_iload_n (i := 1) (pc' := 158) dX4_readStatement_157 rfl rfl rfl ?_
        refine u_if_eq (tgt := 174) (pc' := 161) dX4_readStatement_158 rfl (by decide) (bI_R _) (fun hb => ?_) (fun hb => ?_)
        · have h := h.1 (bI_0.mp hb)
          refine u_iconst (pc' := 175) dX4_readStatement_174 rfl ?_
          exact u_zret (b := false) dX4_readStatement_175 rfl rfl h
        · have h := h.2 (bI_n0.mp hb)
          refine u_aload_n (i := 0) (pc' := 162) dX4_readStatement_161 rfl rfl rfl ?_
          refine u_bipush (pc' := 164) dX4_readStatement_162 rfl (by decide) ?_
          refine u_invV (q' := qX4_readSign) (As := [vI 59]) (st := []) (pc' := 167) dX4_readStatement_164 rfl gX4_readSign wm_593 rfl rfl (by decide) kd_77 wm_595 wp_12 rfl (Nat.le_of_ble_eq_true rfl) (M0.mono h (fun v τ49 h => ?_))
          obtain ⟨b50, rfl, h⟩ := h
          show V0 E (d + 1) qX4_readStatement 167 [some (vR 77), some (vB b48)] [vB b50] τ49 Q
          refine u_if_eq (tgt := 174) (pc' := 170) dX4_readStatement_167 rfl (by decide) (bI_R _) (fun hb => ?_) (fun hb => ?_)
          · have h := h.1 (bI_0.mp hb)
            refine u_iconst (pc' := 175) dX4_readStatement_174 rfl ?_
            exact u_zret (b := false) dX4_readStatement_175 rfl rfl h
          · have h := h.2 (bI_n0.mp hb)
            refine u_iconst (pc' := 171) dX4_readStatement_170 rfl ?_
            refine u_goto (tgt := 175) dX4_readStatement_171 (by decide) ?_
            exact u_zret (b := true) dX4_readStatement_175 rfl rfl h
      · have h := h.2.2.2.2.2.2.2.2.2.2.2.2.1 hc
        refine ⟨117, 135, by rw [hc]; rfl, by decide, ?_⟩
        refine u_aload_n (i := 0) (pc' := 136) dX4_readStatement_135 rfl rfl rfl ?_
        refine u_invV (q' := qX4_readPerson) (As := []) (st := []) (pc' := 139) dX4_readStatement_136 rfl gX4_readPerson wm_717 rfl rfl (by decide) kd_77 wm_719 wp_31 rfl (Nat.le_of_ble_eq_true rfl) (M0.mono h (fun v τ51 h => ?_))
        obtain ⟨b52, rfl, h⟩ := h
        show V0 E (d + 1) qX4_readStatement 139 [some (vR 77), none] [vB b52] τ51 Q
        refine s_istore_n (i := 1) (ls' := [some (vR 77), some (vB b52)]) (pc' := 140) dX4_readStatement_139 rfl rfl (Nat.le_of_ble_eq_true rfl) rfl rfl ?_
        refine u_goto (tgt := 157) dX4_readStatement_140 (by decide) ?_
        refine u_iload_n (i := 1) (pc' := 158) dX4_readStatement_157 rfl rfl rfl ?_
        refine u_if_eq (tgt := 174) (pc' := 161) dX4_readStatement_158 rfl (by decide) (bI_R _) (fun hb => ?_) (fun hb => ?_)
        · have h := h.1 (bI_0.mp hb)
          refine u_iconst (pc' := 175) dX4_readStatement_174 rfl ?_
          exact u_zret (b := false) dX4_readStatement_175 rfl rfl h
        · have h := h.2 (bI_n0.mp hb)
          refine u_aload_n (i := 0) (pc' := 162) dX4_readStatement_161 rfl rfl rfl ?_
          refine u_bipush (pc' := 164) dX4_readStatement_162 rfl (by decide) ?_
          refine u_invV (q' := qX4_readSign) (As := [vI 59]) (st := []) (pc' := 167) dX4_readStatement_164 rfl gX4_readSign wm_593 rfl rfl (by decide) kd_77 wm_595 wp_12 rfl (Nat.le_of_ble_eq_true rfl) (M0.mono h (fun v τ53 h => ?_))
          obtain ⟨b54, rfl, h⟩ := h
          show V0 E (d + 1) qX4_readStatement 167 [some (vR 77), some (vB b52)] [vB b54] τ53 Q
          refine u_if_eq (tgt := 174) (pc' := 170) dX4_readStatement_167 rfl (by decide) (bI_R _) (fun hb => ?_) (fun hb => ?_)
          · have h := h.1 (bI_0.mp hb)
            refine u_iconst (pc' := 175) dX4_readStatement_174 rfl ?_
            exact u_zret (b := false) dX4_readStatement_175 rfl rfl h
          · have h := h.2 (bI_n0.mp hb)
            refine u_iconst (pc' := 171) dX4_readStatement_170 rfl ?_
            refine u_goto (tgt := 175) dX4_readStatement_171 (by decide) ?_
            exact u_zret (b := true) dX4_readStatement_175 rfl rfl h
      · have h := h.2.2.2.2.2.2.2.2.2.2.2.2.2.1 hc
        refine ⟨133, 151, by rw [hc]; rfl, by decide, ?_⟩
        refine u_aload_n (i := 0) (pc' := 152) dX4_readStatement_151 rfl rfl rfl ?_
        refine u_iconst (pc' := 153) dX4_readStatement_152 rfl ?_
        refine u_invV (q' := qX4_fail) (As := [vI 1]) (st := []) (pc' := 156) dX4_readStatement_153 rfl gX4_fail wm_585 rfl rfl (by decide) kd_77 wm_587 wp_10 rfl (Nat.le_of_ble_eq_true rfl) (M0.mono h (fun v τ55 h => ?_))
        obtain ⟨b56, rfl, h⟩ := h
        show V0 E (d + 1) qX4_readStatement 156 [some (vR 77), none] [vB b56] τ55 Q
        refine s_istore_n (i := 1) (ls' := [some (vR 77), some (vB b56)]) (pc' := 157) dX4_readStatement_156 rfl rfl (Nat.le_of_ble_eq_true rfl) rfl rfl ?_
        refine u_iload_n (i := 1) (pc' := 158) dX4_readStatement_157 rfl rfl rfl ?_
        refine u_if_eq (tgt := 174) (pc' := 161) dX4_readStatement_158 rfl (by decide) (bI_R _) (fun hb => ?_) (fun hb => ?_)
        · have h := h.1 (bI_0.mp hb)
          refine u_iconst (pc' := 175) dX4_readStatement_174 rfl ?_
          exact u_zret (b := false) dX4_readStatement_175 rfl rfl h
        · have h := h.2 (bI_n0.mp hb)
          refine u_aload_n (i := 0) (pc' := 162) dX4_readStatement_161 rfl rfl rfl ?_
          refine u_bipush (pc' := 164) dX4_readStatement_162 rfl (by decide) ?_
          refine u_invV (q' := qX4_readSign) (As := [vI 59]) (st := []) (pc' := 167) dX4_readStatement_164 rfl gX4_readSign wm_593 rfl rfl (by decide) kd_77 wm_595 wp_12 rfl (Nat.le_of_ble_eq_true rfl) (M0.mono h (fun v τ57 h => ?_))
          obtain ⟨b58, rfl, h⟩ := h
          show V0 E (d + 1) qX4_readStatement 167 [some (vR 77), some (vB b56)] [vB b58] τ57 Q
          refine u_if_eq (tgt := 174) (pc' := 170) dX4_readStatement_167 rfl (by decide) (bI_R _) (fun hb => ?_) (fun hb => ?_)
          · have h := h.1 (bI_0.mp hb)
            refine u_iconst (pc' := 175) dX4_readStatement_174 rfl ?_
            exact u_zret (b := false) dX4_readStatement_175 rfl rfl h
          · have h := h.2 (bI_n0.mp hb)
            refine u_iconst (pc' := 171) dX4_readStatement_170 rfl ?_
            refine u_goto (tgt := 175) dX4_readStatement_171 (by decide) ?_
            exact u_zret (b := true) dX4_readStatement_175 rfl rfl h
      · have h := h.2.2.2.2.2.2.2.2.2.2.2.2.2.2.1 hc
        refine ⟨133, 151, by rw [hc]; rfl, by decide, ?_⟩
        refine u_aload_n (i := 0) (pc' := 152) dX4_readStatement_151 rfl rfl rfl ?_
        refine u_iconst (pc' := 153) dX4_readStatement_152 rfl ?_
        refine u_invV (q' := qX4_fail) (As := [vI 1]) (st := []) (pc' := 156) dX4_readStatement_153 rfl gX4_fail wm_585 rfl rfl (by decide) kd_77 wm_587 wp_10 rfl (Nat.le_of_ble_eq_true rfl) (M0.mono h (fun v τ59 h => ?_))
        obtain ⟨b60, rfl, h⟩ := h
        show V0 E (d + 1) qX4_readStatement 156 [some (vR 77), none] [vB b60] τ59 Q
        refine s_istore_n (i := 1) (ls' := [some (vR 77), some (vB b60)]) (pc' := 157) dX4_readStatement_156 rfl rfl (Nat.le_of_ble_eq_true rfl) rfl rfl ?_
        refine u_iload_n (i := 1) (pc' := 158) dX4_readStatement_157 rfl rfl rfl ?_
        refine u_if_eq (tgt := 174) (pc' := 161) dX4_readStatement_158 rfl (by decide) (bI_R _) (fun hb => ?_) (fun hb => ?_)
        · have h := h.1 (bI_0.mp hb)
          refine u_iconst (pc' := 175) dX4_readStatement_174 rfl ?_
          exact u_zret (b := false) dX4_readStatement_175 rfl rfl h
        · have h := h.2 (bI_n0.mp hb)
          refine u_aload_n (i := 0) (pc' := 162) dX4_readStatement_161 rfl rfl rfl ?_
          refine u_bipush (pc' := 164) dX4_readStatement_162 rfl (by decide) ?_
          refine u_invV (q' := qX4_readSign) (As := [vI 59]) (st := []) (pc' := 167) dX4_readStatement_164 rfl gX4_readSign wm_593 rfl rfl (by decide) kd_77 wm_595 wp_12 rfl (Nat.le_of_ble_eq_true rfl) (M0.mono h (fun v τ61 h => ?_))
          obtain ⟨b62, rfl, h⟩ := h
          show V0 E (d + 1) qX4_readStatement 167 [some (vR 77), some (vB b60)] [vB b62] τ61 Q
          refine u_if_eq (tgt := 174) (pc' := 170) dX4_readStatement_167 rfl (by decide) (bI_R _) (fun hb => ?_) (fun hb => ?_)
          · have h := h.1 (bI_0.mp hb)
            refine u_iconst (pc' := 175) dX4_readStatement_174 rfl ?_
            exact u_zret (b := false) dX4_readStatement_175 rfl rfl h
          · have h := h.2 (bI_n0.mp hb)
            refine u_iconst (pc' := 171) dX4_readStatement_170 rfl ?_
            refine u_goto (tgt := 175) dX4_readStatement_171 (by decide) ?_
            exact u_zret (b := true) dX4_readStatement_175 rfl rfl h
      · have h := h.2.2.2.2.2.2.2.2.2.2.2.2.2.2.2 hc
        refine ⟨125, 143, by rw [hc]; rfl, by decide, ?_⟩
        refine u_aload_n (i := 0) (pc' := 144) dX4_readStatement_143 rfl rfl rfl ?_
        refine u_invV (q' := qX4_readWorth) (As := []) (st := []) (pc' := 147) dX4_readStatement_144 rfl gX4_readWorth wm_731 rfl rfl (by decide) kd_77 wm_733 wp_33 rfl (Nat.le_of_ble_eq_true rfl) (M0.mono h (fun v τ63 h => ?_))
        obtain ⟨b64, rfl, h⟩ := h
        show V0 E (d + 1) qX4_readStatement 147 [some (vR 77), none] [vB b64] τ63 Q
        refine s_istore_n (i := 1) (ls' := [some (vR 77), some (vB b64)]) (pc' := 148) dX4_readStatement_147 rfl rfl (Nat.le_of_ble_eq_true rfl) rfl rfl ?_
        refine u_goto (tgt := 157) dX4_readStatement_148 (by decide) ?_
        refine u_iload_n (i := 1) (pc' := 158) dX4_readStatement_157 rfl rfl rfl ?_
        refine u_if_eq (tgt := 174) (pc' := 161) dX4_readStatement_158 rfl (by decide) (bI_R _) (fun hb => ?_) (fun hb => ?_)
        · have h := h.1 (bI_0.mp hb)
          refine u_iconst (pc' := 175) dX4_readStatement_174 rfl ?_
          exact u_zret (b := false) dX4_readStatement_175 rfl rfl h
        · have h := h.2 (bI_n0.mp hb)
          refine u_aload_n (i := 0) (pc' := 162) dX4_readStatement_161 rfl rfl rfl ?_
          refine u_bipush (pc' := 164) dX4_readStatement_162 rfl (by decide) ?_
          refine u_invV (q' := qX4_readSign) (As := [vI 59]) (st := []) (pc' := 167) dX4_readStatement_164 rfl gX4_readSign wm_593 rfl rfl (by decide) kd_77 wm_595 wp_12 rfl (Nat.le_of_ble_eq_true rfl) (M0.mono h (fun v τ65 h => ?_))
          obtain ⟨b66, rfl, h⟩ := h
          show V0 E (d + 1) qX4_readStatement 167 [some (vR 77), some (vB b64)] [vB b66] τ65 Q
          refine u_if_eq (tgt := 174) (pc' := 170) dX4_readStatement_167 rfl (by decide) (bI_R _) (fun hb => ?_) (fun hb => ?_)
          · have h := h.1 (bI_0.mp hb)
            refine u_iconst (pc' := 175) dX4_readStatement_174 rfl ?_
            exact u_zret (b := false) dX4_readStatement_175 rfl rfl h
          · have h := h.2 (bI_n0.mp hb)
            refine u_iconst (pc' := 171) dX4_readStatement_170 rfl ?_
            refine u_goto (tgt := 175) dX4_readStatement_171 (by decide) ?_
            exact u_zret (b := true) dX4_readStatement_175 rfl rfl h
  · have h := h.2 hb
    refine u_aload_n (i := 0) (pc' := 9) dX4_readStatement_8 rfl rfl rfl ?_
    refine u_iconst (pc' := 10) dX4_readStatement_9 rfl ?_
    refine u_invV (q' := qX4_fail) (As := [vI 1]) (st := []) (pc' := 13) dX4_readStatement_10 rfl gX4_fail wm_585 rfl rfl (by decide) kd_77 wm_587 wp_10 rfl (Nat.le_of_ble_eq_true rfl) (M0.mono h (fun v τ67 h => ?_))
    obtain ⟨b68, rfl, h⟩ := h
    show V0 E (d + 1) qX4_readStatement 13 [some (vR 77), none] [vB b68] τ67 Q
    exact u_zret (b := b68) dX4_readStatement_13 rfl rfl h
theorem mX4_readStatement {E : mm_Env} {d : Nat} {τ : mm_Mem} {Q : mm_Q0}  (h : (((τ 77 3) = 4 → (((τ 77 4) < 2 ∨ 16 < (τ 77 4) → M0 E d qX4_fail [vR 77, vI 1] τ (fun v τ3 => ∃ b4 : Bool, v = some (vB b4) ∧ ((b4 = false → Q (some (vB false)) τ3) ∧ (b4 = true → M0 E d qX4_readSign [vR 77, vI 59] τ3 (fun v τ5 => ∃ b6 : Bool, v = some (vB b6) ∧ ((b6 = false → Q (some (vB false)) τ5) ∧ (b6 = true → Q (some (vB true)) τ5))))))) ∧ ((τ 77 4) = 2 → M0 E d qX4_readTune [vR 77] τ (fun v τ7 => ∃ b8 : Bool, v = some (vB b8) ∧ ((b8 = false → Q (some (vB false)) τ7) ∧ (b8 = true → M0 E d qX4_readSign [vR 77, vI 59] τ7 (fun v τ9 => ∃ b10 : Bool, v = some (vB b10) ∧ ((b10 = false → Q (some (vB false)) τ9) ∧ (b10 = true → Q (some (vB true)) τ9))))))) ∧ ((τ 77 4) = 3 → M0 E d qX4_fail [vR 77, vI 1] τ (fun v τ11 => ∃ b12 : Bool, v = some (vB b12) ∧ ((b12 = false → Q (some (vB false)) τ11) ∧ (b12 = true → M0 E d qX4_readSign [vR 77, vI 59] τ11 (fun v τ13 => ∃ b14 : Bool, v = some (vB b14) ∧ ((b14 = false → Q (some (vB false)) τ13) ∧ (b14 = true → Q (some (vB true)) τ13))))))) ∧ ((τ 77 4) = 4 → M0 E d qX4_readRule [vR 77, vI 0] τ (fun v τ15 => ∃ b16 : Bool, v = some (vB b16) ∧ ((b16 = false → Q (some (vB false)) τ15) ∧ (b16 = true → M0 E d qX4_readSign [vR 77, vI 59] τ15 (fun v τ17 => ∃ b18 : Bool, v = some (vB b18) ∧ ((b18 = false → Q (some (vB false)) τ17) ∧ (b18 = true → Q (some (vB true)) τ17))))))) ∧ ((τ 77 4) = 5 → M0 E d qX4_readRule [vR 77, vI 1] τ (fun v τ19 => ∃ b20 : Bool, v = some (vB b20) ∧ ((b20 = false → Q (some (vB false)) τ19) ∧ (b20 = true → M0 E d qX4_readSign [vR 77, vI 59] τ19 (fun v τ21 => ∃ b22 : Bool, v = some (vB b22) ∧ ((b22 = false → Q (some (vB false)) τ21) ∧ (b22 = true → Q (some (vB true)) τ21))))))) ∧ ((τ 77 4) = 6 → M0 E d qX4_readRule [vR 77, vI 2] τ (fun v τ23 => ∃ b24 : Bool, v = some (vB b24) ∧ ((b24 = false → Q (some (vB false)) τ23) ∧ (b24 = true → M0 E d qX4_readSign [vR 77, vI 59] τ23 (fun v τ25 => ∃ b26 : Bool, v = some (vB b26) ∧ ((b26 = false → Q (some (vB false)) τ25) ∧ (b26 = true → Q (some (vB true)) τ25))))))) ∧ ((τ 77 4) = 7 → M0 E d qX4_readDoor [vR 77] τ (fun v τ27 => ∃ b28 : Bool, v = some (vB b28) ∧ ((b28 = false → Q (some (vB false)) τ27) ∧ (b28 = true → M0 E d qX4_readSign [vR 77, vI 59] τ27 (fun v τ29 => ∃ b30 : Bool, v = some (vB b30) ∧ ((b30 = false → Q (some (vB false)) τ29) ∧ (b30 = true → Q (some (vB true)) τ29))))))) ∧ ((τ 77 4) = 8 → M0 E d qX4_fail [vR 77, vI 1] τ (fun v τ31 => ∃ b32 : Bool, v = some (vB b32) ∧ ((b32 = false → Q (some (vB false)) τ31) ∧ (b32 = true → M0 E d qX4_readSign [vR 77, vI 59] τ31 (fun v τ33 => ∃ b34 : Bool, v = some (vB b34) ∧ ((b34 = false → Q (some (vB false)) τ33) ∧ (b34 = true → Q (some (vB true)) τ33))))))) ∧ ((τ 77 4) = 9 → M0 E d qX4_fail [vR 77, vI 1] τ (fun v τ35 => ∃ b36 : Bool, v = some (vB b36) ∧ ((b36 = false → Q (some (vB false)) τ35) ∧ (b36 = true → M0 E d qX4_readSign [vR 77, vI 59] τ35 (fun v τ37 => ∃ b38 : Bool, v = some (vB b38) ∧ ((b38 = false → Q (some (vB false)) τ37) ∧ (b38 = true → Q (some (vB true)) τ37))))))) ∧ ((τ 77 4) = 10 → M0 E d qX4_fail [vR 77, vI 1] τ (fun v τ39 => ∃ b40 : Bool, v = some (vB b40) ∧ ((b40 = false → Q (some (vB false)) τ39) ∧ (b40 = true → M0 E d qX4_readSign [vR 77, vI 59] τ39 (fun v τ41 => ∃ b42 : Bool, v = some (vB b42) ∧ ((b42 = false → Q (some (vB false)) τ41) ∧ (b42 = true → Q (some (vB true)) τ41))))))) ∧ ((τ 77 4) = 11 → M0 E d qX4_fail [vR 77, vI 1] τ (fun v τ43 => ∃ b44 : Bool, v = some (vB b44) ∧ ((b44 = false → Q (some (vB false)) τ43) ∧ (b44 = true → M0 E d qX4_readSign [vR 77, vI 59] τ43 (fun v τ45 => ∃ b46 : Bool, v = some (vB b46) ∧ ((b46 = false → Q (some (vB false)) τ45) ∧ (b46 = true → Q (some (vB true)) τ45))))))) ∧ ((τ 77 4) = 12 → M0 E d qX4_fail [vR 77, vI 1] τ (fun v τ47 => ∃ b48 : Bool, v = some (vB b48) ∧ ((b48 = false → Q (some (vB false)) τ47) ∧ (b48 = true → M0 E d qX4_readSign [vR 77, vI 59] τ47 (fun v τ49 => ∃ b50 : Bool, v = some (vB b50) ∧ ((b50 = false → Q (some (vB false)) τ49) ∧ (b50 = true → Q (some (vB true)) τ49))))))) ∧ ((τ 77 4) = 13 → M0 E d qX4_readPerson [vR 77] τ (fun v τ51 => ∃ b52 : Bool, v = some (vB b52) ∧ ((b52 = false → Q (some (vB false)) τ51) ∧ (b52 = true → M0 E d qX4_readSign [vR 77, vI 59] τ51 (fun v τ53 => ∃ b54 : Bool, v = some (vB b54) ∧ ((b54 = false → Q (some (vB false)) τ53) ∧ (b54 = true → Q (some (vB true)) τ53))))))) ∧ ((τ 77 4) = 14 → M0 E d qX4_fail [vR 77, vI 1] τ (fun v τ55 => ∃ b56 : Bool, v = some (vB b56) ∧ ((b56 = false → Q (some (vB false)) τ55) ∧ (b56 = true → M0 E d qX4_readSign [vR 77, vI 59] τ55 (fun v τ57 => ∃ b58 : Bool, v = some (vB b58) ∧ ((b58 = false → Q (some (vB false)) τ57) ∧ (b58 = true → Q (some (vB true)) τ57))))))) ∧ ((τ 77 4) = 15 → M0 E d qX4_fail [vR 77, vI 1] τ (fun v τ59 => ∃ b60 : Bool, v = some (vB b60) ∧ ((b60 = false → Q (some (vB false)) τ59) ∧ (b60 = true → M0 E d qX4_readSign [vR 77, vI 59] τ59 (fun v τ61 => ∃ b62 : Bool, v = some (vB b62) ∧ ((b62 = false → Q (some (vB false)) τ61) ∧ (b62 = true → Q (some (vB true)) τ61))))))) ∧ ((τ 77 4) = 16 → M0 E d qX4_readWorth [vR 77] τ (fun v τ63 => ∃ b64 : Bool, v = some (vB b64) ∧ ((b64 = false → Q (some (vB false)) τ63) ∧ (b64 = true → M0 E d qX4_readSign [vR 77, vI 59] τ63 (fun v τ65 => ∃ b66 : Bool, v = some (vB b66) ∧ ((b66 = false → Q (some (vB false)) τ65) ∧ (b66 = true → Q (some (vB true)) τ65))))))))) ∧ (¬ (τ 77 3) = 4 → M0 E d qX4_fail [vR 77, vI 1] τ (fun v τ67 => ∃ b68 : Bool, v = some (vB b68) ∧ Q (some (vB b68)) τ67)))) : M0 E (d + 1) qX4_readStatement [vR 77] τ Q := M0_of rfl (Nat.le_of_ble_eq_true rfl) [some (vR 77), none] rfl (bX4_readStatement_0  h)
set_option maxRecDepth 20000 in
theorem bX4_readTune_0 {E : mm_Env} {d : Nat} {τ : mm_Mem} {Q : mm_Q0}  (h : ∃ o1 : Nat, (τ 77 1) = (o1 : Int) ∧ KD o1 = some (.inr 2) ∧ (((τ o1 2) < 3 → M0 E d qX4_advance [vR 77] τ (fun v τ5 => v = none ∧ M0 E d qX4_readNewName [vR 77] τ5 (fun v τ6 => ∃ b7 : Bool, v = some (vB b7) ∧ ((b7 = true → ∃ o8 : Nat, (τ6 77 1) = (o8 : Int) ∧ KD o8 = some (.inr 2) ∧ 0 ≤ (τ o1 2) ∧ (τ o1 2) < 3 ∧ V0 E (d + 1) qX4_readTune 49 [some (vR 77), some (vI (τ o1 2)), some (vI 0), some (vI 0)] [] (wr τ6 (o8 + 1) (τ o1 2).toNat (τ6 77 6)) Q) ∧ (b7 = false → Q (some (vB false)) τ6))))) ∧ (¬ (τ o1 2) < 3 → M0 E d qX4_fail [vR 77, vI 5] τ (fun v τ14 => ∃ b15 : Bool, v = some (vB b15) ∧ Q (some (vB b15)) τ14)))) : V0 E (d + 1) qX4_readTune 0 [some (vR 77), none, none, none] [] τ Q := by
  refine u_aload_n (i := 0) (pc' := 1) dX4_readTune_0 rfl rfl rfl ?_
  obtain ⟨o1, z2, k3, h⟩ := h
  refine u_getD (a := o1) (pc' := 4) dX4_readTune_1 rfl fl_TuneDoor_Reader_19 rfl (by decide) kd_77 rfl (z2) ?_
  refine u_getI (z := (τ o1 2)) (pc' := 7) dX4_readTune_4 rfl fl_TuneDoor_Reader_124 rfl (by decide) (kHouse k3).1 k3 rfl (fun r4 => ?_)
  refine s_istore_n (i := 1) (ls' := [some (vR 77), some (vI (τ o1 2)), none, none]) (pc' := 8) dX4_readTune_7 rfl rfl (Nat.le_of_ble_eq_true rfl) rfl rfl ?_
  refine u_iload_n (i := 1) (pc' := 9) dX4_readTune_8 rfl rfl rfl ?_
  refine u_iconst (pc' := 10) dX4_readTune_9 rfl ?_
  refine u_icmp_lt (tgt := 19) (pc' := 13) dX4_readTune_10 rfl (by decide) r4 ⟨by decide, by decide⟩ (fun hb => ?_) (fun hb => ?_)
  · have h := h.1 hb
    refine u_aload_n (i := 0) (pc' := 20) dX4_readTune_19 rfl rfl rfl ?_
    refine u_invV (q' := qX4_advance) (As := []) (st := []) (pc' := 23) dX4_readTune_20 rfl gX4_advance wm_569 rfl rfl (by decide) kd_77 wm_571 wp_6 rfl (Nat.le_of_ble_eq_true rfl) (M0.mono h (fun v τ5 h => ?_))
    obtain ⟨rfl, h⟩ := h
    show V0 E (d + 1) qX4_readTune 23 [some (vR 77), some (vI (τ o1 2)), none, none] [] τ5 Q
    refine u_aload_n (i := 0) (pc' := 24) dX4_readTune_23 rfl rfl rfl ?_
    refine u_invV (q' := qX4_readNewName) (As := []) (st := []) (pc' := 27) dX4_readTune_24 rfl gX4_readNewName wm_609 rfl rfl (by decide) kd_77 wm_611 wp_16 rfl (Nat.le_of_ble_eq_true rfl) (M0.mono h (fun v τ6 h => ?_))
    obtain ⟨b7, rfl, h⟩ := h
    show V0 E (d + 1) qX4_readTune 27 [some (vR 77), some (vI (τ o1 2)), none, none] [vB b7] τ6 Q
    refine u_if_ne (tgt := 32) (pc' := 30) dX4_readTune_27 rfl (by decide) (bI_R _) (fun hb => ?_) (fun hb => ?_)
    · have h := h.1 (bI_n0.mp hb)
      refine u_aload_n (i := 0) (pc' := 33) dX4_readTune_32 rfl rfl rfl ?_
      obtain ⟨o8, z9, k10, h⟩ := h
      refine u_getD (a := o8) (pc' := 36) dX4_readTune_33 rfl fl_TuneDoor_Reader_19 rfl (by decide) kd_77 rfl (z9) ?_
      refine u_getR (a := (o8 + 1)) (pc' := 39) dX4_readTune_36 rfl fl_TuneDoor_Reader_130 rfl (kHouse k10).1 k10 (kHouse k10).2.1 ?_
      refine u_iload_n (i := 1) (pc' := 40) dX4_readTune_39 rfl rfl rfl ?_
      refine u_aload_n (i := 0) (pc' := 41) dX4_readTune_40 rfl rfl rfl ?_
      refine u_getI (z := (τ6 77 6)) (pc' := 44) dX4_readTune_41 rfl fl_TuneDoor_Reader_78 rfl (by decide) (by decide) kd_77 rfl (fun r11 => ?_)
      obtain ⟨c12, c13, h⟩ := h
      refine u_iastore (k := (τ o1 2).toNat) (pc' := 45) dX4_readTune_44 rfl (Nat.le_trans (kHouse k10).1 (Nat.le_add_right _ _)) (kHouse k10).2.2.2.2.2.2.2.1 c12 c13 (by decide) rfl r11 ?_
      refine u_iconst (pc' := 46) dX4_readTune_45 rfl ?_
      refine s_istore_n (i := 2) (ls' := [some (vR 77), some (vI (τ o1 2)), some (vI 0), none]) (pc' := 47) dX4_readTune_46 rfl rfl (Nat.le_of_ble_eq_true rfl) rfl rfl ?_
      refine u_iconst (pc' := 48) dX4_readTune_47 rfl ?_
      refine s_istore_n (i := 3) (ls' := [some (vR 77), some (vI (τ o1 2)), some (vI 0), some (vI 0)]) (pc' := 49) dX4_readTune_48 rfl rfl (Nat.le_of_ble_eq_true rfl) rfl rfl ?_
      exact u_less (ls' := [some (vR 77), some (vI (τ o1 2)), some (vI 0), some (vI 0)]) ⟨rfl, ⟨rfl, ⟨rfl, ⟨rfl, trivial⟩⟩⟩⟩ h
    · have h := h.2 (bI_0.mp hb)
      refine u_iconst (pc' := 31) dX4_readTune_30 rfl ?_
      exact u_zret (b := false) dX4_readTune_31 rfl rfl h
  · have h := h.2 hb
    refine u_aload_n (i := 0) (pc' := 14) dX4_readTune_13 rfl rfl rfl ?_
    refine u_iconst (pc' := 15) dX4_readTune_14 rfl ?_
    refine u_invV (q' := qX4_fail) (As := [vI 5]) (st := []) (pc' := 18) dX4_readTune_15 rfl gX4_fail wm_585 rfl rfl (by decide) kd_77 wm_587 wp_10 rfl (Nat.le_of_ble_eq_true rfl) (M0.mono h (fun v τ14 h => ?_))
    obtain ⟨b15, rfl, h⟩ := h
    show V0 E (d + 1) qX4_readTune 18 [some (vR 77), some (vI (τ o1 2)), none, none] [vB b15] τ14 Q
    exact u_zret (b := b15) dX4_readTune_18 rfl rfl h
theorem mX4_readTune {E : mm_Env} {d : Nat} {τ : mm_Mem} {Q : mm_Q0}  (h : ∃ o1 : Nat, (τ 77 1) = (o1 : Int) ∧ KD o1 = some (.inr 2) ∧ (((τ o1 2) < 3 → M0 E d qX4_advance [vR 77] τ (fun v τ5 => v = none ∧ M0 E d qX4_readNewName [vR 77] τ5 (fun v τ6 => ∃ b7 : Bool, v = some (vB b7) ∧ ((b7 = true → ∃ o8 : Nat, (τ6 77 1) = (o8 : Int) ∧ KD o8 = some (.inr 2) ∧ 0 ≤ (τ o1 2) ∧ (τ o1 2) < 3 ∧ V0 E (d + 1) qX4_readTune 49 [some (vR 77), some (vI (τ o1 2)), some (vI 0), some (vI 0)] [] (wr τ6 (o8 + 1) (τ o1 2).toNat (τ6 77 6)) Q) ∧ (b7 = false → Q (some (vB false)) τ6))))) ∧ (¬ (τ o1 2) < 3 → M0 E d qX4_fail [vR 77, vI 5] τ (fun v τ14 => ∃ b15 : Bool, v = some (vB b15) ∧ Q (some (vB b15)) τ14)))) : M0 E (d + 1) qX4_readTune [vR 77] τ Q := M0_of rfl (Nat.le_of_ble_eq_true rfl) [some (vR 77), none, none, none] rfl (bX4_readTune_0  h)
set_option maxRecDepth 20000 in
theorem bX4_readTune_49 {E : mm_Env} {d : Nat} {τ : mm_Mem} {Q : mm_Q0} {x1 : Int} {x2 : Int} {x3 : Int} (h : ∃ o1 : Nat, (τ 77 1) = (o1 : Int) ∧ KD o1 = some (.inr 2) ∧ inR x3 ∧ (((τ o1 1) ≤ x3 → M0 E d qX4_readWord [vR 77, vI 3] τ (fun v τ6 => ∃ b7 : Bool, v = some (vB b7) ∧ ((b7 = false → Q (some (vB false)) τ6) ∧ (b7 = true → M0 E d qX4_readNumber [vR 77, vI 0, vI 99] τ6 (fun v τ8 => ∃ b9 : Bool, v = some (vB b9) ∧ ((b9 = true → ∃ o10 : Nat, (τ8 77 1) = (o10 : Int) ∧ KD o10 = some (.inr 2) ∧ 0 ≤ x1 ∧ x1 < 3 ∧ inR x2 ∧ ∃ o16 : Nat, ((wr τ8 (o10 + 2) x1.toNat x2) 77 1) = (o16 : Int) ∧ KD o16 = some (.inr 2) ∧ 0 ≤ x1 ∧ x1 < 3 ∧ ∃ o22 : Nat, ((wr (wr τ8 (o10 + 2) x1.toNat x2) (o16 + 3) x1.toNat ((wr τ8 (o10 + 2) x1.toNat x2) 77 6)) 77 1) = (o22 : Int) ∧ KD o22 = some (.inr 2) ∧ inR (((wr (wr τ8 (o10 + 2) x1.toNat x2) (o16 + 3) x1.toNat ((wr τ8 (o10 + 2) x1.toNat x2) 77 6)) o22 2) + 1) ∧ Q (some (vB true)) (wr (wr (wr τ8 (o10 + 2) x1.toNat x2) (o16 + 3) x1.toNat ((wr τ8 (o10 + 2) x1.toNat x2) 77 6)) o22 2 (((wr (wr τ8 (o10 + 2) x1.toNat x2) (o16 + 3) x1.toNat ((wr τ8 (o10 + 2) x1.toNat x2) 77 6)) o22 2) + 1))) ∧ (b9 = false → Q (some (vB false)) τ8))))))) ∧ (¬ (τ o1 1) ≤ x3 → ∃ o27 : Nat, (τ 77 1) = (o27 : Int) ∧ KD o27 = some (.inr 2) ∧ M0 E d qX4_readNumber [vR 77, vI 0, vI ((τ o27 0) - 1)] τ (fun v τ31 => ∃ b32 : Bool, v = some (vB b32) ∧ ((b32 = true → M0 E d qX9_withNote [vI x2, vI x3, vI (τ31 77 6)] τ31 (fun v τ34 => ∃ r35 : Int, v = some (vI r35) ∧ V0 E (d + 1) qX4_readTune 49 [some (vR 77), some (vI x1), some (vI r35), some (vI (x3 + 1))] [] τ34 Q)) ∧ (b32 = false → Q (some (vB false)) τ31)))))) : V0 E (d + 1) qX4_readTune 49 [some (vR 77), some (vI x1), some (vI x2), some (vI x3)] [] τ Q := by
  refine u_iload_n (i := 3) (pc' := 50) dX4_readTune_49 rfl rfl rfl ?_
  refine u_aload_n (i := 0) (pc' := 51) dX4_readTune_50 rfl rfl rfl ?_
  obtain ⟨o1, z2, k3, h⟩ := h
  refine u_getD (a := o1) (pc' := 54) dX4_readTune_51 rfl fl_TuneDoor_Reader_19 rfl (by decide) kd_77 rfl (z2) ?_
  refine u_getI (z := (τ o1 1)) (pc' := 57) dX4_readTune_54 rfl fl_TuneDoor_Reader_101 rfl (by decide) (kHouse k3).1 k3 rfl (fun r4 => ?_)
  obtain ⟨c5, h⟩ := h
  refine u_icmp_ge (tgt := 95) (pc' := 60) dX4_readTune_57 rfl (by decide) c5 r4 (fun hb => ?_) (fun hb => ?_)
  · have h := h.1 hb
    refine u_aload_n (i := 0) (pc' := 96) dX4_readTune_95 rfl rfl rfl ?_
    refine u_iconst (pc' := 97) dX4_readTune_96 rfl ?_
    refine u_invV (q' := qX4_readWord) (As := [vI 3]) (st := []) (pc' := 100) dX4_readTune_97 rfl gX4_readWord wm_577 rfl rfl (by decide) kd_77 wm_579 wp_8 rfl (Nat.le_of_ble_eq_true rfl) (M0.mono h (fun v τ6 h => ?_))
    obtain ⟨b7, rfl, h⟩ := h
    show V0 E (d + 1) qX4_readTune 100 [some (vR 77), some (vI x1), some (vI x2), some (vI x3)] [vB b7] τ6 Q
    refine u_if_eq (tgt := 113) (pc' := 103) dX4_readTune_100 rfl (by decide) (bI_R _) (fun hb => ?_) (fun hb => ?_)
    · have h := h.1 (bI_0.mp hb)
      refine u_iconst (pc' := 114) dX4_readTune_113 rfl ?_
      exact u_zret (b := false) dX4_readTune_114 rfl rfl h
    · have h := h.2 (bI_n0.mp hb)
      refine u_aload_n (i := 0) (pc' := 104) dX4_readTune_103 rfl rfl rfl ?_
      refine u_iconst (pc' := 105) dX4_readTune_104 rfl ?_
      refine u_bipush (pc' := 107) dX4_readTune_105 rfl (by decide) ?_
      refine u_invV (q' := qX4_readNumber) (As := [vI 0, vI 99]) (st := []) (pc' := 110) dX4_readTune_107 rfl gX4_readNumber wm_589 rfl rfl (by decide) kd_77 wm_591 wp_11 rfl (Nat.le_of_ble_eq_true rfl) (M0.mono h (fun v τ8 h => ?_))
      obtain ⟨b9, rfl, h⟩ := h
      show V0 E (d + 1) qX4_readTune 110 [some (vR 77), some (vI x1), some (vI x2), some (vI x3)] [vB b9] τ8 Q
      refine u_if_ne (tgt := 115) (pc' := 113) dX4_readTune_110 rfl (by decide) (bI_R _) (fun hb => ?_) (fun hb => ?_)
      · have h := h.1 (bI_n0.mp hb)
        refine u_aload_n (i := 0) (pc' := 116) dX4_readTune_115 rfl rfl rfl ?_
        obtain ⟨o10, z11, k12, h⟩ := h
        refine u_getD (a := o10) (pc' := 119) dX4_readTune_116 rfl fl_TuneDoor_Reader_19 rfl (by decide) kd_77 rfl (z11) ?_
        refine u_getR (a := (o10 + 2)) (pc' := 122) dX4_readTune_119 rfl fl_TuneDoor_Reader_139 rfl (kHouse k12).1 k12 (kHouse k12).2.2.1 ?_
        refine u_iload_n (i := 1) (pc' := 123) dX4_readTune_122 rfl rfl rfl ?_
        refine u_iload_n (i := 2) (pc' := 124) dX4_readTune_123 rfl rfl rfl ?_
        obtain ⟨c13, c14, c15, h⟩ := h
        refine u_iastore (k := x1.toNat) (pc' := 125) dX4_readTune_124 rfl (Nat.le_trans (kHouse k12).1 (Nat.le_add_right _ _)) (kHouse k12).2.2.2.2.2.2.2.2.1 c13 c14 (by decide) rfl c15 ?_
        refine u_aload_n (i := 0) (pc' := 126) dX4_readTune_125 rfl rfl rfl ?_
        obtain ⟨o16, z17, k18, h⟩ := h
        refine u_getD (a := o16) (pc' := 129) dX4_readTune_126 rfl fl_TuneDoor_Reader_19 rfl (by decide) kd_77 rfl (z17) ?_
        refine u_getR (a := (o16 + 3)) (pc' := 132) dX4_readTune_129 rfl fl_TuneDoor_Reader_142 rfl (kHouse k18).1 k18 (kHouse k18).2.2.2.1 ?_
        refine u_iload_n (i := 1) (pc' := 133) dX4_readTune_132 rfl rfl rfl ?_
        refine u_aload_n (i := 0) (pc' := 134) dX4_readTune_133 rfl rfl rfl ?_
        refine u_getI (z := ((wr τ8 (o10 + 2) x1.toNat x2) 77 6)) (pc' := 137) dX4_readTune_134 rfl fl_TuneDoor_Reader_78 rfl (by decide) (by decide) kd_77 rfl (fun r19 => ?_)
        obtain ⟨c20, c21, h⟩ := h
        refine u_iastore (k := x1.toNat) (pc' := 138) dX4_readTune_137 rfl (Nat.le_trans (kHouse k18).1 (Nat.le_add_right _ _)) (kHouse k18).2.2.2.2.2.2.2.2.2.1 c20 c21 (by decide) rfl r19 ?_
        refine u_aload_n (i := 0) (pc' := 139) dX4_readTune_138 rfl rfl rfl ?_
        obtain ⟨o22, z23, k24, h⟩ := h
        refine u_getD (a := o22) (pc' := 142) dX4_readTune_139 rfl fl_TuneDoor_Reader_19 rfl (by decide) kd_77 rfl (z23) ?_
        refine u_dup (pc' := 143) dX4_readTune_142 rfl (fun _ hh => by cases hh) ?_
        refine u_getI (z := ((wr (wr τ8 (o10 + 2) x1.toNat x2) (o16 + 3) x1.toNat ((wr τ8 (o10 + 2) x1.toNat x2) 77 6)) o22 2)) (pc' := 146) dX4_readTune_143 rfl fl_TuneDoor_Reader_124 rfl (by decide) (kHouse k24).1 k24 rfl (fun r25 => ?_)
        refine u_iconst (pc' := 147) dX4_readTune_146 rfl ?_
        refine u_iadd (pc' := 148) dX4_readTune_147 rfl ?_
        obtain ⟨c26, h⟩ := h
        refine u_putI (pc' := 151) dX4_readTune_148 rfl fl_TuneDoor_Reader_124 rfl rfl (by decide) (kHouse k24).1 k24 c26 ?_
        refine u_iconst (pc' := 152) dX4_readTune_151 rfl ?_
        exact u_zret (b := true) dX4_readTune_152 rfl rfl h
      · have h := h.2 (bI_0.mp hb)
        refine u_iconst (pc' := 114) dX4_readTune_113 rfl ?_
        exact u_zret (b := false) dX4_readTune_114 rfl rfl h
  · have h := h.2 hb
    refine u_aload_n (i := 0) (pc' := 61) dX4_readTune_60 rfl rfl rfl ?_
    refine u_iconst (pc' := 62) dX4_readTune_61 rfl ?_
    refine u_aload_n (i := 0) (pc' := 63) dX4_readTune_62 rfl rfl rfl ?_
    obtain ⟨o27, z28, k29, h⟩ := h
    refine u_getD (a := o27) (pc' := 66) dX4_readTune_63 rfl fl_TuneDoor_Reader_19 rfl (by decide) kd_77 rfl (z28) ?_
    refine u_getI (z := (τ o27 0)) (pc' := 69) dX4_readTune_66 rfl fl_TuneDoor_Reader_98 rfl (by decide) (kHouse k29).1 k29 rfl (fun r30 => ?_)
    refine u_iconst (pc' := 70) dX4_readTune_69 rfl ?_
    refine u_isub (pc' := 71) dX4_readTune_70 rfl ?_
    refine u_invV (q' := qX4_readNumber) (As := [vI 0, vI ((τ o27 0) - 1)]) (st := []) (pc' := 74) dX4_readTune_71 rfl gX4_readNumber wm_589 rfl rfl (by decide) kd_77 wm_591 wp_11 rfl (Nat.le_of_ble_eq_true rfl) (M0.mono h (fun v τ31 h => ?_))
    obtain ⟨b32, rfl, h⟩ := h
    show V0 E (d + 1) qX4_readTune 74 [some (vR 77), some (vI x1), some (vI x2), some (vI x3)] [vB b32] τ31 Q
    refine u_if_ne (tgt := 79) (pc' := 77) dX4_readTune_74 rfl (by decide) (bI_R _) (fun hb => ?_) (fun hb => ?_)
    · have h := h.1 (bI_n0.mp hb)
      refine u_iload_n (i := 2) (pc' := 80) dX4_readTune_79 rfl rfl rfl ?_
      refine u_iload_n (i := 3) (pc' := 81) dX4_readTune_80 rfl rfl rfl ?_
      refine u_aload_n (i := 0) (pc' := 82) dX4_readTune_81 rfl rfl rfl ?_
      refine u_getI (z := (τ31 77 6)) (pc' := 85) dX4_readTune_82 rfl fl_TuneDoor_Reader_78 rfl (by decide) (by decide) kd_77 rfl (fun r33 => ?_)
      refine u_invS (q' := qX9_withNote) (As := [vI x2, vI x3, vI (τ31 77 6)]) (st := []) (pc' := 88) dX4_readTune_85 rfl gX9_withNote wm_629 wm_630 rfl (Nat.le_of_ble_eq_true rfl) (M0.mono h (fun v τ34 h => ?_))
      obtain ⟨r35, rfl, h⟩ := h
      show V0 E (d + 1) qX4_readTune 88 [some (vR 77), some (vI x1), some (vI x2), some (vI x3)] [vI r35] τ34 Q
      refine s_istore_n (i := 2) (ls' := [some (vR 77), some (vI x1), some (vI r35), some (vI x3)]) (pc' := 89) dX4_readTune_88 rfl rfl (Nat.le_of_ble_eq_true rfl) rfl rfl ?_
      refine s_iinc (i := 3) (ls' := [some (vR 77), some (vI x1), some (vI r35), some (vI (x3 + 1))]) (pc' := 92) dX4_readTune_89 rfl rfl (Nat.le_of_ble_eq_true rfl) rfl rfl ?_
      refine u_goto (tgt := 49) dX4_readTune_92 (by decide) ?_
      exact u_less (ls' := [some (vR 77), some (vI x1), some (vI r35), some (vI (x3 + 1))]) ⟨rfl, ⟨rfl, ⟨rfl, ⟨rfl, trivial⟩⟩⟩⟩ h
    · have h := h.2 (bI_0.mp hb)
      refine u_iconst (pc' := 78) dX4_readTune_77 rfl ?_
      exact u_zret (b := false) dX4_readTune_78 rfl rfl h
set_option maxRecDepth 20000 in
theorem bX4_readNewName_0 {E : mm_Env} {d : Nat} {τ : mm_Mem} {Q : mm_Q0}  (h : (((τ 77 3) = 5 → ∃ o3 : Nat, (τ 77 1) = (o3 : Int) ∧ KD o3 = some (.inr 2) ∧ M0 E d qX2_isTaken [vR o3, vI (τ 77 4)] (wr τ 77 6 (τ 77 4)) (fun v τ7 => ∃ b8 : Bool, v = some (vB b8) ∧ ((b8 = false → M0 E d qX4_advance [vR 77] τ7 (fun v τ9 => v = none ∧ Q (some (vB true)) τ9)) ∧ (b8 = true → M0 E d qX4_fail [vR 77, vI 2] τ7 (fun v τ10 => ∃ b11 : Bool, v = some (vB b11) ∧ Q (some (vB b11)) τ10))))) ∧ (¬ (τ 77 3) = 5 → M0 E d qX4_fail [vR 77, vI 1] τ (fun v τ12 => ∃ b13 : Bool, v = some (vB b13) ∧ Q (some (vB b13)) τ12)))) : V0 E (d + 1) qX4_readNewName 0 [some (vR 77)] [] τ Q := by
  refine u_aload_n (i := 0) (pc' := 1) dX4_readNewName_0 rfl rfl rfl ?_
  refine u_getI (z := (τ 77 3)) (pc' := 4) dX4_readNewName_1 rfl fl_TuneDoor_Reader_44 rfl (by decide) (by decide) kd_77 rfl (fun r1 => ?_)
  refine u_iconst (pc' := 5) dX4_readNewName_4 rfl ?_
  refine u_icmp_eq (tgt := 14) (pc' := 8) dX4_readNewName_5 rfl (by decide) r1 ⟨by decide, by decide⟩ (fun hb => ?_) (fun hb => ?_)
  · have h := h.1 hb
    refine u_aload_n (i := 0) (pc' := 15) dX4_readNewName_14 rfl rfl rfl ?_
    refine u_aload_n (i := 0) (pc' := 16) dX4_readNewName_15 rfl rfl rfl ?_
    refine u_getI (z := (τ 77 4)) (pc' := 19) dX4_readNewName_16 rfl fl_TuneDoor_Reader_62 rfl (by decide) (by decide) kd_77 rfl (fun r2 => ?_)
    refine u_putI (pc' := 22) dX4_readNewName_19 rfl fl_TuneDoor_Reader_78 rfl rfl (by decide) (by decide) kd_77 r2 ?_
    refine u_aload_n (i := 0) (pc' := 23) dX4_readNewName_22 rfl rfl rfl ?_
    obtain ⟨o3, z4, k5, h⟩ := h
    refine u_getD (a := o3) (pc' := 26) dX4_readNewName_23 rfl fl_TuneDoor_Reader_19 rfl (by decide) kd_77 rfl (z4) ?_
    refine u_aload_n (i := 0) (pc' := 27) dX4_readNewName_26 rfl rfl rfl ?_
    refine u_getI (z := (τ 77 4)) (pc' := 30) dX4_readNewName_27 rfl fl_TuneDoor_Reader_78 rfl (by decide) (by decide) kd_77 rfl (fun r6 => ?_)
    refine u_invV (q' := qX2_isTaken) (As := [vI (τ 77 4)]) (st := []) (pc' := 33) dX4_readNewName_30 rfl gX2_isTaken wm_613 rfl rfl (kHouse k5).1 k5 wm_614 wm_615 rfl (Nat.le_of_ble_eq_true rfl) (M0.mono h (fun v τ7 h => ?_))
    obtain ⟨b8, rfl, h⟩ := h
    show V0 E (d + 1) qX4_readNewName 33 [some (vR 77)] [vB b8] τ7 Q
    refine u_if_eq (tgt := 42) (pc' := 36) dX4_readNewName_33 rfl (by decide) (bI_R _) (fun hb => ?_) (fun hb => ?_)
    · have h := h.1 (bI_0.mp hb)
      refine u_aload_n (i := 0) (pc' := 43) dX4_readNewName_42 rfl rfl rfl ?_
      refine u_invV (q' := qX4_advance) (As := []) (st := []) (pc' := 46) dX4_readNewName_43 rfl gX4_advance wm_569 rfl rfl (by decide) kd_77 wm_571 wp_6 rfl (Nat.le_of_ble_eq_true rfl) (M0.mono h (fun v τ9 h => ?_))
      obtain ⟨rfl, h⟩ := h
      show V0 E (d + 1) qX4_readNewName 46 [some (vR 77)] [] τ9 Q
      refine u_iconst (pc' := 47) dX4_readNewName_46 rfl ?_
      exact u_zret (b := true) dX4_readNewName_47 rfl rfl h
    · have h := h.2 (bI_n0.mp hb)
      refine u_aload_n (i := 0) (pc' := 37) dX4_readNewName_36 rfl rfl rfl ?_
      refine u_iconst (pc' := 38) dX4_readNewName_37 rfl ?_
      refine u_invV (q' := qX4_fail) (As := [vI 2]) (st := []) (pc' := 41) dX4_readNewName_38 rfl gX4_fail wm_585 rfl rfl (by decide) kd_77 wm_587 wp_10 rfl (Nat.le_of_ble_eq_true rfl) (M0.mono h (fun v τ10 h => ?_))
      obtain ⟨b11, rfl, h⟩ := h
      show V0 E (d + 1) qX4_readNewName 41 [some (vR 77)] [vB b11] τ10 Q
      exact u_zret (b := b11) dX4_readNewName_41 rfl rfl h
  · have h := h.2 hb
    refine u_aload_n (i := 0) (pc' := 9) dX4_readNewName_8 rfl rfl rfl ?_
    refine u_iconst (pc' := 10) dX4_readNewName_9 rfl ?_
    refine u_invV (q' := qX4_fail) (As := [vI 1]) (st := []) (pc' := 13) dX4_readNewName_10 rfl gX4_fail wm_585 rfl rfl (by decide) kd_77 wm_587 wp_10 rfl (Nat.le_of_ble_eq_true rfl) (M0.mono h (fun v τ12 h => ?_))
    obtain ⟨b13, rfl, h⟩ := h
    show V0 E (d + 1) qX4_readNewName 13 [some (vR 77)] [vB b13] τ12 Q
    exact u_zret (b := b13) dX4_readNewName_13 rfl rfl h
theorem mX4_readNewName {E : mm_Env} {d : Nat} {τ : mm_Mem} {Q : mm_Q0}  (h : (((τ 77 3) = 5 → ∃ o3 : Nat, (τ 77 1) = (o3 : Int) ∧ KD o3 = some (.inr 2) ∧ M0 E d qX2_isTaken [vR o3, vI (τ 77 4)] (wr τ 77 6 (τ 77 4)) (fun v τ7 => ∃ b8 : Bool, v = some (vB b8) ∧ ((b8 = false → M0 E d qX4_advance [vR 77] τ7 (fun v τ9 => v = none ∧ Q (some (vB true)) τ9)) ∧ (b8 = true → M0 E d qX4_fail [vR 77, vI 2] τ7 (fun v τ10 => ∃ b11 : Bool, v = some (vB b11) ∧ Q (some (vB b11)) τ10))))) ∧ (¬ (τ 77 3) = 5 → M0 E d qX4_fail [vR 77, vI 1] τ (fun v τ12 => ∃ b13 : Bool, v = some (vB b13) ∧ Q (some (vB b13)) τ12)))) : M0 E (d + 1) qX4_readNewName [vR 77] τ Q := M0_of rfl (Nat.le_of_ble_eq_true rfl) [some (vR 77)] rfl (bX4_readNewName_0  h)
set_option maxRecDepth 20000 in
theorem bX4_readRule_0 {E : mm_Env} {d : Nat} {τ : mm_Mem} {Q : mm_Q0} {a0 : Int} (h : ∃ o1 : Nat, (τ 77 1) = (o1 : Int) ∧ KD o1 = some (.inr 2) ∧ M0 E d qX5_howMany [vR (o1 + 6), vI a0] τ (fun v τ4 => ∃ r5 : Int, v = some (vI r5) ∧ M0 E d qX5_roomFor [vI a0] τ4 (fun v τ6 => ∃ r7 : Int, v = some (vI r7) ∧ inR r5 ∧ inR r7 ∧ ((r5 < r7 → M0 E d qX4_advance [vR 77] τ6 (fun v τ10 => v = none ∧ ∃ o11 : Nat, (τ10 77 1) = (o11 : Int) ∧ KD o11 = some (.inr 2) ∧ M0 E d qX5_beginSum [vR (o11 + 6), vI a0] τ10 (fun v τ14 => v = none ∧ M0 E d qX4_readSum [vR 77] τ14 (fun v τ15 => ∃ b16 : Bool, v = some (vB b16) ∧ ((b16 = false → Q (some (vB false)) τ15) ∧ (b16 = true → M0 E d qX4_readWord [vR 77, vI 17] τ15 (fun v τ17 => ∃ b18 : Bool, v = some (vB b18) ∧ ((b18 = true → ∃ o19 : Nat, (τ17 77 1) = (o19 : Int) ∧ KD o19 = some (.inr 2) ∧ M0 E d qX5_beginTest [vR (o19 + 6), vI a0] τ17 (fun v τ22 => v = none ∧ M0 E d qX4_readTest [vR 77] τ22 (fun v τ23 => ∃ b24 : Bool, v = some (vB b24) ∧ ((b24 = true → ∃ o25 : Nat, (τ23 77 1) = (o25 : Int) ∧ KD o25 = some (.inr 2) ∧ M0 E d qX5_finish [vR (o25 + 6), vI a0] τ23 (fun v τ28 => v = none ∧ Q (some (vB true)) τ28)) ∧ (b24 = false → Q (some (vB false)) τ23))))) ∧ (b18 = false → Q (some (vB false)) τ17))))))))) ∧ (¬ r5 < r7 → M0 E d qX4_fail [vR 77, vI 5] τ6 (fun v τ29 => ∃ b30 : Bool, v = some (vB b30) ∧ Q (some (vB b30)) τ29)))))) : V0 E (d + 1) qX4_readRule 0 [some (vR 77), some (vI a0)] [] τ Q := by
  refine u_aload_n (i := 0) (pc' := 1) dX4_readRule_0 rfl rfl rfl ?_
  obtain ⟨o1, z2, k3, h⟩ := h
  refine u_getD (a := o1) (pc' := 4) dX4_readRule_1 rfl fl_TuneDoor_Reader_19 rfl (by decide) kd_77 rfl (z2) ?_
  refine u_getR (a := (o1 + 6)) (pc' := 7) dX4_readRule_4 rfl fl_TuneDoor_Reader_202 rfl (kHouse k3).1 k3 (kHouse k3).2.2.2.2.2.2.1 ?_
  refine u_iload_n (i := 1) (pc' := 8) dX4_readRule_7 rfl rfl rfl ?_
  refine u_invV (q' := qX5_howMany) (As := [vI a0]) (st := []) (pc' := 11) dX4_readRule_8 rfl gX5_howMany wm_636 rfl rfl (Nat.le_trans (kHouse k3).1 (Nat.le_add_right _ _)) (kHouse k3).2.2.2.2.2.2.2.2.2.2.2.2.1 wm_637 wm_638 rfl (Nat.le_of_ble_eq_true rfl) (M0.mono h (fun v τ4 h => ?_))
  obtain ⟨r5, rfl, h⟩ := h
  show V0 E (d + 1) qX4_readRule 11 [some (vR 77), some (vI a0)] [vI r5] τ4 Q
  refine u_iload_n (i := 1) (pc' := 12) dX4_readRule_11 rfl rfl rfl ?_
  refine u_invS (q' := qX5_roomFor) (As := [vI a0]) (st := [vI r5]) (pc' := 15) dX4_readRule_12 rfl gX5_roomFor wm_640 wm_641 rfl (Nat.le_of_ble_eq_true rfl) (M0.mono h (fun v τ6 h => ?_))
  obtain ⟨r7, rfl, h⟩ := h
  show V0 E (d + 1) qX4_readRule 15 [some (vR 77), some (vI a0)] [vI r7, vI r5] τ6 Q
  obtain ⟨c8, c9, h⟩ := h
  refine u_icmp_lt (tgt := 24) (pc' := 18) dX4_readRule_15 rfl (by decide) c8 c9 (fun hb => ?_) (fun hb => ?_)
  · have h := h.1 hb
    refine u_aload_n (i := 0) (pc' := 25) dX4_readRule_24 rfl rfl rfl ?_
    refine u_invV (q' := qX4_advance) (As := []) (st := []) (pc' := 28) dX4_readRule_25 rfl gX4_advance wm_569 rfl rfl (by decide) kd_77 wm_571 wp_6 rfl (Nat.le_of_ble_eq_true rfl) (M0.mono h (fun v τ10 h => ?_))
    obtain ⟨rfl, h⟩ := h
    show V0 E (d + 1) qX4_readRule 28 [some (vR 77), some (vI a0)] [] τ10 Q
    refine u_aload_n (i := 0) (pc' := 29) dX4_readRule_28 rfl rfl rfl ?_
    obtain ⟨o11, z12, k13, h⟩ := h
    refine u_getD (a := o11) (pc' := 32) dX4_readRule_29 rfl fl_TuneDoor_Reader_19 rfl (by decide) kd_77 rfl (z12) ?_
    refine u_getR (a := (o11 + 6)) (pc' := 35) dX4_readRule_32 rfl fl_TuneDoor_Reader_202 rfl (kHouse k13).1 k13 (kHouse k13).2.2.2.2.2.2.1 ?_
    refine u_iload_n (i := 1) (pc' := 36) dX4_readRule_35 rfl rfl rfl ?_
    refine u_invV (q' := qX5_beginSum) (As := [vI a0]) (st := []) (pc' := 39) dX4_readRule_36 rfl gX5_beginSum wm_643 rfl rfl (Nat.le_trans (kHouse k13).1 (Nat.le_add_right _ _)) (kHouse k13).2.2.2.2.2.2.2.2.2.2.2.2.1 wm_644 wm_645 rfl (Nat.le_of_ble_eq_true rfl) (M0.mono h (fun v τ14 h => ?_))
    obtain ⟨rfl, h⟩ := h
    show V0 E (d + 1) qX4_readRule 39 [some (vR 77), some (vI a0)] [] τ14 Q
    refine u_aload_n (i := 0) (pc' := 40) dX4_readRule_39 rfl rfl rfl ?_
    refine u_invV (q' := qX4_readSum) (As := []) (st := []) (pc' := 43) dX4_readRule_40 rfl gX4_readSum wm_652 rfl rfl (by decide) kd_77 wm_654 wp_19 rfl (Nat.le_of_ble_eq_true rfl) (M0.mono h (fun v τ15 h => ?_))
    obtain ⟨b16, rfl, h⟩ := h
    show V0 E (d + 1) qX4_readRule 43 [some (vR 77), some (vI a0)] [vB b16] τ15 Q
    refine u_if_eq (tgt := 55) (pc' := 46) dX4_readRule_43 rfl (by decide) (bI_R _) (fun hb => ?_) (fun hb => ?_)
    · have h := h.1 (bI_0.mp hb)
      refine u_iconst (pc' := 56) dX4_readRule_55 rfl ?_
      exact u_zret (b := false) dX4_readRule_56 rfl rfl h
    · have h := h.2 (bI_n0.mp hb)
      refine u_aload_n (i := 0) (pc' := 47) dX4_readRule_46 rfl rfl rfl ?_
      refine u_bipush (pc' := 49) dX4_readRule_47 rfl (by decide) ?_
      refine u_invV (q' := qX4_readWord) (As := [vI 17]) (st := []) (pc' := 52) dX4_readRule_49 rfl gX4_readWord wm_577 rfl rfl (by decide) kd_77 wm_579 wp_8 rfl (Nat.le_of_ble_eq_true rfl) (M0.mono h (fun v τ17 h => ?_))
      obtain ⟨b18, rfl, h⟩ := h
      show V0 E (d + 1) qX4_readRule 52 [some (vR 77), some (vI a0)] [vB b18] τ17 Q
      refine u_if_ne (tgt := 57) (pc' := 55) dX4_readRule_52 rfl (by decide) (bI_R _) (fun hb => ?_) (fun hb => ?_)
      · have h := h.1 (bI_n0.mp hb)
        refine u_aload_n (i := 0) (pc' := 58) dX4_readRule_57 rfl rfl rfl ?_
        obtain ⟨o19, z20, k21, h⟩ := h
        refine u_getD (a := o19) (pc' := 61) dX4_readRule_58 rfl fl_TuneDoor_Reader_19 rfl (by decide) kd_77 rfl (z20) ?_
        refine u_getR (a := (o19 + 6)) (pc' := 64) dX4_readRule_61 rfl fl_TuneDoor_Reader_202 rfl (kHouse k21).1 k21 (kHouse k21).2.2.2.2.2.2.1 ?_
        refine u_iload_n (i := 1) (pc' := 65) dX4_readRule_64 rfl rfl rfl ?_
        refine u_invV (q' := qX5_beginTest) (As := [vI a0]) (st := []) (pc' := 68) dX4_readRule_65 rfl gX5_beginTest wm_680 rfl rfl (Nat.le_trans (kHouse k21).1 (Nat.le_add_right _ _)) (kHouse k21).2.2.2.2.2.2.2.2.2.2.2.2.1 wm_681 wm_682 rfl (Nat.le_of_ble_eq_true rfl) (M0.mono h (fun v τ22 h => ?_))
        obtain ⟨rfl, h⟩ := h
        show V0 E (d + 1) qX4_readRule 68 [some (vR 77), some (vI a0)] [] τ22 Q
        refine u_aload_n (i := 0) (pc' := 69) dX4_readRule_68 rfl rfl rfl ?_
        refine u_invV (q' := qX4_readTest) (As := []) (st := []) (pc' := 72) dX4_readRule_69 rfl gX4_readTest wm_684 rfl rfl (by decide) kd_77 wm_686 wp_25 rfl (Nat.le_of_ble_eq_true rfl) (M0.mono h (fun v τ23 h => ?_))
        obtain ⟨b24, rfl, h⟩ := h
        show V0 E (d + 1) qX4_readRule 72 [some (vR 77), some (vI a0)] [vB b24] τ23 Q
        refine u_if_ne (tgt := 77) (pc' := 75) dX4_readRule_72 rfl (by decide) (bI_R _) (fun hb => ?_) (fun hb => ?_)
        · have h := h.1 (bI_n0.mp hb)
          refine u_aload_n (i := 0) (pc' := 78) dX4_readRule_77 rfl rfl rfl ?_
          obtain ⟨o25, z26, k27, h⟩ := h
          refine u_getD (a := o25) (pc' := 81) dX4_readRule_78 rfl fl_TuneDoor_Reader_19 rfl (by decide) kd_77 rfl (z26) ?_
          refine u_getR (a := (o25 + 6)) (pc' := 84) dX4_readRule_81 rfl fl_TuneDoor_Reader_202 rfl (kHouse k27).1 k27 (kHouse k27).2.2.2.2.2.2.1 ?_
          refine u_iload_n (i := 1) (pc' := 85) dX4_readRule_84 rfl rfl rfl ?_
          refine u_invV (q' := qX5_finish) (As := [vI a0]) (st := []) (pc' := 88) dX4_readRule_85 rfl gX5_finish wm_700 rfl rfl (Nat.le_trans (kHouse k27).1 (Nat.le_add_right _ _)) (kHouse k27).2.2.2.2.2.2.2.2.2.2.2.2.1 wm_701 wm_702 rfl (Nat.le_of_ble_eq_true rfl) (M0.mono h (fun v τ28 h => ?_))
          obtain ⟨rfl, h⟩ := h
          show V0 E (d + 1) qX4_readRule 88 [some (vR 77), some (vI a0)] [] τ28 Q
          refine u_iconst (pc' := 89) dX4_readRule_88 rfl ?_
          exact u_zret (b := true) dX4_readRule_89 rfl rfl h
        · have h := h.2 (bI_0.mp hb)
          refine u_iconst (pc' := 76) dX4_readRule_75 rfl ?_
          exact u_zret (b := false) dX4_readRule_76 rfl rfl h
      · have h := h.2 (bI_0.mp hb)
        refine u_iconst (pc' := 56) dX4_readRule_55 rfl ?_
        exact u_zret (b := false) dX4_readRule_56 rfl rfl h
  · have h := h.2 hb
    refine u_aload_n (i := 0) (pc' := 19) dX4_readRule_18 rfl rfl rfl ?_
    refine u_iconst (pc' := 20) dX4_readRule_19 rfl ?_
    refine u_invV (q' := qX4_fail) (As := [vI 5]) (st := []) (pc' := 23) dX4_readRule_20 rfl gX4_fail wm_585 rfl rfl (by decide) kd_77 wm_587 wp_10 rfl (Nat.le_of_ble_eq_true rfl) (M0.mono h (fun v τ29 h => ?_))
    obtain ⟨b30, rfl, h⟩ := h
    show V0 E (d + 1) qX4_readRule 23 [some (vR 77), some (vI a0)] [vB b30] τ29 Q
    exact u_zret (b := b30) dX4_readRule_23 rfl rfl h
theorem mX4_readRule {E : mm_Env} {d : Nat} {τ : mm_Mem} {Q : mm_Q0} {a0 : Int} (h : ∃ o1 : Nat, (τ 77 1) = (o1 : Int) ∧ KD o1 = some (.inr 2) ∧ M0 E d qX5_howMany [vR (o1 + 6), vI a0] τ (fun v τ4 => ∃ r5 : Int, v = some (vI r5) ∧ M0 E d qX5_roomFor [vI a0] τ4 (fun v τ6 => ∃ r7 : Int, v = some (vI r7) ∧ inR r5 ∧ inR r7 ∧ ((r5 < r7 → M0 E d qX4_advance [vR 77] τ6 (fun v τ10 => v = none ∧ ∃ o11 : Nat, (τ10 77 1) = (o11 : Int) ∧ KD o11 = some (.inr 2) ∧ M0 E d qX5_beginSum [vR (o11 + 6), vI a0] τ10 (fun v τ14 => v = none ∧ M0 E d qX4_readSum [vR 77] τ14 (fun v τ15 => ∃ b16 : Bool, v = some (vB b16) ∧ ((b16 = false → Q (some (vB false)) τ15) ∧ (b16 = true → M0 E d qX4_readWord [vR 77, vI 17] τ15 (fun v τ17 => ∃ b18 : Bool, v = some (vB b18) ∧ ((b18 = true → ∃ o19 : Nat, (τ17 77 1) = (o19 : Int) ∧ KD o19 = some (.inr 2) ∧ M0 E d qX5_beginTest [vR (o19 + 6), vI a0] τ17 (fun v τ22 => v = none ∧ M0 E d qX4_readTest [vR 77] τ22 (fun v τ23 => ∃ b24 : Bool, v = some (vB b24) ∧ ((b24 = true → ∃ o25 : Nat, (τ23 77 1) = (o25 : Int) ∧ KD o25 = some (.inr 2) ∧ M0 E d qX5_finish [vR (o25 + 6), vI a0] τ23 (fun v τ28 => v = none ∧ Q (some (vB true)) τ28)) ∧ (b24 = false → Q (some (vB false)) τ23))))) ∧ (b18 = false → Q (some (vB false)) τ17))))))))) ∧ (¬ r5 < r7 → M0 E d qX4_fail [vR 77, vI 5] τ6 (fun v τ29 => ∃ b30 : Bool, v = some (vB b30) ∧ Q (some (vB b30)) τ29)))))) : M0 E (d + 1) qX4_readRule [vR 77, vI a0] τ Q := M0_of rfl (Nat.le_of_ble_eq_true rfl) [some (vR 77), some (vI a0)] rfl (bX4_readRule_0  h)
set_option maxRecDepth 20000 in
theorem bX4_readSum_0 {E : mm_Env} {d : Nat} {τ : mm_Mem} {Q : mm_Q0}  (h : M0 E d qX4_readProduct [vR 77] τ (fun v τ1 => ∃ b2 : Bool, v = some (vB b2) ∧ V0 E (d + 1) qX4_readSum 7 [some (vR 77), some (vB b2), some (vI 0), none] [] τ1 Q)) : V0 E (d + 1) qX4_readSum 0 [some (vR 77), none, none, none] [] τ Q := by
  refine u_aload_n (i := 0) (pc' := 1) dX4_readSum_0 rfl rfl rfl ?_
  refine u_invV (q' := qX4_readProduct) (As := []) (st := []) (pc' := 4) dX4_readSum_1 rfl gX4_readProduct wm_656 rfl rfl (by decide) kd_77 wm_658 wp_20 rfl (Nat.le_of_ble_eq_true rfl) (M0.mono h (fun v τ1 h => ?_))
  obtain ⟨b2, rfl, h⟩ := h
  show V0 E (d + 1) qX4_readSum 4 [some (vR 77), none, none, none] [vB b2] τ1 Q
  refine s_istore_n (i := 1) (ls' := [some (vR 77), some (vB b2), none, none]) (pc' := 5) dX4_readSum_4 rfl rfl (Nat.le_of_ble_eq_true rfl) rfl rfl ?_
  refine u_iconst (pc' := 6) dX4_readSum_5 rfl ?_
  refine s_istore_n (i := 2) (ls' := [some (vR 77), some (vB b2), some (vI 0), none]) (pc' := 7) dX4_readSum_6 rfl rfl (Nat.le_of_ble_eq_true rfl) rfl rfl ?_
  exact u_less (ls' := [some (vR 77), some (vB b2), some (vI 0), none]) ⟨rfl, ⟨rfl, ⟨rfl, trivial⟩⟩⟩ h
theorem mX4_readSum {E : mm_Env} {d : Nat} {τ : mm_Mem} {Q : mm_Q0}  (h : M0 E d qX4_readProduct [vR 77] τ (fun v τ1 => ∃ b2 : Bool, v = some (vB b2) ∧ V0 E (d + 1) qX4_readSum 7 [some (vR 77), some (vB b2), some (vI 0), none] [] τ1 Q)) : M0 E (d + 1) qX4_readSum [vR 77] τ Q := M0_of rfl (Nat.le_of_ble_eq_true rfl) [some (vR 77), none, none, none] rfl (bX4_readSum_0  h)
set_option maxRecDepth 20000 in
theorem bX4_readSum_7 {E : mm_Env} {d : Nat} {τ : mm_Mem} {Q : mm_Q0} {x1 : Bool} {x2 : Int} (h : inR x2 ∧ ((1600 ≤ x2 → Q (some (vB x1)) τ) ∧ (¬ 1600 ≤ x2 → ((x1 = false → Q (some (vB x1)) τ) ∧ (x1 = true → M0 E d qX4_seesSign [vR 77, vI 43] τ (fun v τ2 => ∃ b3 : Bool, v = some (vB b3) ∧ ((b3 = true → V0 E (d + 1) qX4_readSum 36 [some (vR 77), none, some (vI x2), none] [] τ2 Q) ∧ (b3 = false → M0 E d qX4_seesSign [vR 77, vI 45] τ2 (fun v τ4 => ∃ b5 : Bool, v = some (vB b5) ∧ ((b5 = false → Q (some (vB x1)) τ4) ∧ (b5 = true → V0 E (d + 1) qX4_readSum 36 [some (vR 77), none, some (vI x2), none] [] τ4 Q))))))))))) : V0 E (d + 1) qX4_readSum 7 [some (vR 77), some (vB x1), some (vI x2), none] [] τ Q := by
  refine u_iload_n (i := 2) (pc' := 8) dX4_readSum_7 rfl rfl rfl ?_
  refine u_sipush (pc' := 11) dX4_readSum_8 rfl (by decide) ?_
  obtain ⟨c1, h⟩ := h
  refine u_icmp_ge (tgt := 79) (pc' := 14) dX4_readSum_11 rfl (by decide) c1 ⟨by decide, by decide⟩ (fun hb => ?_) (fun hb => ?_)
  · have h := h.1 hb
    refine u_iload_n (i := 1) (pc' := 80) dX4_readSum_79 rfl rfl rfl ?_
    exact u_zret (b := x1) dX4_readSum_80 rfl rfl h
  · have h := h.2 hb
    refine u_iload_n (i := 1) (pc' := 15) dX4_readSum_14 rfl rfl rfl ?_
    refine u_if_eq (tgt := 79) (pc' := 18) dX4_readSum_15 rfl (by decide) (bI_R _) (fun hb => ?_) (fun hb => ?_)
    · have h := h.1 (bI_0.mp hb)
      refine u_iload_n (i := 1) (pc' := 80) dX4_readSum_79 rfl rfl rfl ?_
      exact u_zret (b := x1) dX4_readSum_80 rfl rfl h
    · have h := h.2 (bI_n0.mp hb)
      refine u_aload_n (i := 0) (pc' := 19) dX4_readSum_18 rfl rfl rfl ?_
      refine u_bipush (pc' := 21) dX4_readSum_19 rfl (by decide) ?_
      refine u_invV (q' := qX4_seesSign) (As := [vI 43]) (st := []) (pc' := 24) dX4_readSum_21 rfl gX4_seesSign wm_597 rfl rfl (by decide) kd_77 wm_599 wp_13 rfl (Nat.le_of_ble_eq_true rfl) (M0.mono h (fun v τ2 h => ?_))
      obtain ⟨b3, rfl, h⟩ := h
      show V0 E (d + 1) qX4_readSum 24 [some (vR 77), some (vB x1), some (vI x2), none] [vB b3] τ2 Q
      refine u_if_ne (tgt := 36) (pc' := 27) dX4_readSum_24 rfl (by decide) (bI_R _) (fun hb => ?_) (fun hb => ?_)
      · have h := h.1 (bI_n0.mp hb)
        exact u_less (ls' := [some (vR 77), none, some (vI x2), none]) ⟨rfl, ⟨rfl, trivial⟩⟩ h
      · have h := h.2 (bI_0.mp hb)
        refine u_aload_n (i := 0) (pc' := 28) dX4_readSum_27 rfl rfl rfl ?_
        refine u_bipush (pc' := 30) dX4_readSum_28 rfl (by decide) ?_
        refine u_invV (q' := qX4_seesSign) (As := [vI 45]) (st := []) (pc' := 33) dX4_readSum_30 rfl gX4_seesSign wm_597 rfl rfl (by decide) kd_77 wm_599 wp_13 rfl (Nat.le_of_ble_eq_true rfl) (M0.mono h (fun v τ4 h => ?_))
        obtain ⟨b5, rfl, h⟩ := h
        show V0 E (d + 1) qX4_readSum 33 [some (vR 77), some (vB x1), some (vI x2), none] [vB b5] τ4 Q
        refine u_if_eq (tgt := 79) (pc' := 36) dX4_readSum_33 rfl (by decide) (bI_R _) (fun hb => ?_) (fun hb => ?_)
        · have h := h.1 (bI_0.mp hb)
          refine u_iload_n (i := 1) (pc' := 80) dX4_readSum_79 rfl rfl rfl ?_
          exact u_zret (b := x1) dX4_readSum_80 rfl rfl h
        · have h := h.2 (bI_n0.mp hb)
          exact u_less (ls' := [some (vR 77), none, some (vI x2), none]) ⟨rfl, ⟨rfl, trivial⟩⟩ h
set_option maxRecDepth 20000 in
theorem bX4_readSum_36 {E : mm_Env} {d : Nat} {τ : mm_Mem} {Q : mm_Q0} {x2 : Int} (h : M0 E d qX4_seesSign [vR 77, vI 43] τ (fun v τ1 => ∃ b2 : Bool, v = some (vB b2) ∧ ((b2 = false → M0 E d qX4_advance [vR 77] τ1 (fun v τ3 => v = none ∧ M0 E d qX4_readProduct [vR 77] τ3 (fun v τ4 => ∃ b5 : Bool, v = some (vB b5) ∧ ∃ o6 : Nat, (τ4 77 1) = (o6 : Int) ∧ KD o6 = some (.inr 2) ∧ M0 E d qX5_emit [vR (o6 + 6), vI (-9)] τ4 (fun v τ9 => v = none ∧ V0 E (d + 1) qX4_readSum 7 [some (vR 77), some (vB b5), some (vI (x2 + 1)), none] [] τ9 Q)))) ∧ (b2 = true → M0 E d qX4_advance [vR 77] τ1 (fun v τ10 => v = none ∧ M0 E d qX4_readProduct [vR 77] τ10 (fun v τ11 => ∃ b12 : Bool, v = some (vB b12) ∧ ∃ o13 : Nat, (τ11 77 1) = (o13 : Int) ∧ KD o13 = some (.inr 2) ∧ M0 E d qX5_emit [vR (o13 + 6), vI (-8)] τ11 (fun v τ16 => v = none ∧ V0 E (d + 1) qX4_readSum 7 [some (vR 77), some (vB b12), some (vI (x2 + 1)), none] [] τ16 Q))))))) : V0 E (d + 1) qX4_readSum 36 [some (vR 77), none, some (vI x2), none] [] τ Q := by
  refine u_aload_n (i := 0) (pc' := 37) dX4_readSum_36 rfl rfl rfl ?_
  refine u_bipush (pc' := 39) dX4_readSum_37 rfl (by decide) ?_
  refine u_invV (q' := qX4_seesSign) (As := [vI 43]) (st := []) (pc' := 42) dX4_readSum_39 rfl gX4_seesSign wm_597 rfl rfl (by decide) kd_77 wm_599 wp_13 rfl (Nat.le_of_ble_eq_true rfl) (M0.mono h (fun v τ1 h => ?_))
  obtain ⟨b2, rfl, h⟩ := h
  show V0 E (d + 1) qX4_readSum 42 [some (vR 77), none, some (vI x2), none] [vB b2] τ1 Q
  refine u_if_eq (tgt := 50) (pc' := 45) dX4_readSum_42 rfl (by decide) (bI_R _) (fun hb => ?_) (fun hb => ?_)
  · have h := h.1 (bI_0.mp hb)
    refine u_bipush (pc' := 52) dX4_readSum_50 rfl (by decide) ?_
    refine s_istore_n (i := 3) (ls' := [some (vR 77), none, some (vI x2), some (vI (-9))]) (pc' := 53) dX4_readSum_52 rfl rfl (Nat.le_of_ble_eq_true rfl) rfl rfl ?_
    refine u_aload_n (i := 0) (pc' := 54) dX4_readSum_53 rfl rfl rfl ?_
    refine u_invV (q' := qX4_advance) (As := []) (st := []) (pc' := 57) dX4_readSum_54 rfl gX4_advance wm_569 rfl rfl (by decide) kd_77 wm_571 wp_6 rfl (Nat.le_of_ble_eq_true rfl) (M0.mono h (fun v τ3 h => ?_))
    obtain ⟨rfl, h⟩ := h
    show V0 E (d + 1) qX4_readSum 57 [some (vR 77), none, some (vI x2), some (vI (-9))] [] τ3 Q
    refine u_aload_n (i := 0) (pc' := 58) dX4_readSum_57 rfl rfl rfl ?_
    refine u_invV (q' := qX4_readProduct) (As := []) (st := []) (pc' := 61) dX4_readSum_58 rfl gX4_readProduct wm_656 rfl rfl (by decide) kd_77 wm_658 wp_20 rfl (Nat.le_of_ble_eq_true rfl) (M0.mono h (fun v τ4 h => ?_))
    obtain ⟨b5, rfl, h⟩ := h
    show V0 E (d + 1) qX4_readSum 61 [some (vR 77), none, some (vI x2), some (vI (-9))] [vB b5] τ4 Q
    refine s_istore_n (i := 1) (ls' := [some (vR 77), some (vB b5), some (vI x2), some (vI (-9))]) (pc' := 62) dX4_readSum_61 rfl rfl (Nat.le_of_ble_eq_true rfl) rfl rfl ?_
    refine u_aload_n (i := 0) (pc' := 63) dX4_readSum_62 rfl rfl rfl ?_
    obtain ⟨o6, z7, k8, h⟩ := h
    refine u_getD (a := o6) (pc' := 66) dX4_readSum_63 rfl fl_TuneDoor_Reader_19 rfl (by decide) kd_77 rfl (z7) ?_
    refine u_getR (a := (o6 + 6)) (pc' := 69) dX4_readSum_66 rfl fl_TuneDoor_Reader_202 rfl (kHouse k8).1 k8 (kHouse k8).2.2.2.2.2.2.1 ?_
    refine u_iload_n (i := 3) (pc' := 70) dX4_readSum_69 rfl rfl rfl ?_
    refine u_invV (q' := qX5_emit) (As := [vI (-9)]) (st := []) (pc' := 73) dX4_readSum_70 rfl gX5_emit wm_672 rfl rfl (Nat.le_trans (kHouse k8).1 (Nat.le_add_right _ _)) (kHouse k8).2.2.2.2.2.2.2.2.2.2.2.2.1 wm_673 wm_674 rfl (Nat.le_of_ble_eq_true rfl) (M0.mono h (fun v τ9 h => ?_))
    obtain ⟨rfl, h⟩ := h
    show V0 E (d + 1) qX4_readSum 73 [some (vR 77), some (vB b5), some (vI x2), some (vI (-9))] [] τ9 Q
    refine s_iinc (i := 2) (ls' := [some (vR 77), some (vB b5), some (vI (x2 + 1)), some (vI (-9))]) (pc' := 76) dX4_readSum_73 rfl rfl (Nat.le_of_ble_eq_true rfl) rfl rfl ?_
    refine u_goto (tgt := 7) dX4_readSum_76 (by decide) ?_
    exact u_less (ls' := [some (vR 77), some (vB b5), some (vI (x2 + 1)), none]) ⟨rfl, ⟨rfl, ⟨rfl, trivial⟩⟩⟩ h
  · have h := h.2 (bI_n0.mp hb)
    refine u_bipush (pc' := 47) dX4_readSum_45 rfl (by decide) ?_
    refine u_goto (tgt := 52) dX4_readSum_47 (by decide) ?_
    refine s_istore_n (i := 3) (ls' := [some (vR 77), none, some (vI x2), some (vI (-8))]) (pc' := 53) dX4_readSum_52 rfl rfl (Nat.le_of_ble_eq_true rfl) rfl rfl ?_
    refine u_aload_n (i := 0) (pc' := 54) dX4_readSum_53 rfl rfl rfl ?_
    refine u_invV (q' := qX4_advance) (As := []) (st := []) (pc' := 57) dX4_readSum_54 rfl gX4_advance wm_569 rfl rfl (by decide) kd_77 wm_571 wp_6 rfl (Nat.le_of_ble_eq_true rfl) (M0.mono h (fun v τ10 h => ?_))
    obtain ⟨rfl, h⟩ := h
    show V0 E (d + 1) qX4_readSum 57 [some (vR 77), none, some (vI x2), some (vI (-8))] [] τ10 Q
    refine u_aload_n (i := 0) (pc' := 58) dX4_readSum_57 rfl rfl rfl ?_
    refine u_invV (q' := qX4_readProduct) (As := []) (st := []) (pc' := 61) dX4_readSum_58 rfl gX4_readProduct wm_656 rfl rfl (by decide) kd_77 wm_658 wp_20 rfl (Nat.le_of_ble_eq_true rfl) (M0.mono h (fun v τ11 h => ?_))
    obtain ⟨b12, rfl, h⟩ := h
    show V0 E (d + 1) qX4_readSum 61 [some (vR 77), none, some (vI x2), some (vI (-8))] [vB b12] τ11 Q
    refine s_istore_n (i := 1) (ls' := [some (vR 77), some (vB b12), some (vI x2), some (vI (-8))]) (pc' := 62) dX4_readSum_61 rfl rfl (Nat.le_of_ble_eq_true rfl) rfl rfl ?_
    refine u_aload_n (i := 0) (pc' := 63) dX4_readSum_62 rfl rfl rfl ?_
    obtain ⟨o13, z14, k15, h⟩ := h
    refine u_getD (a := o13) (pc' := 66) dX4_readSum_63 rfl fl_TuneDoor_Reader_19 rfl (by decide) kd_77 rfl (z14) ?_
    refine u_getR (a := (o13 + 6)) (pc' := 69) dX4_readSum_66 rfl fl_TuneDoor_Reader_202 rfl (kHouse k15).1 k15 (kHouse k15).2.2.2.2.2.2.1 ?_
    refine u_iload_n (i := 3) (pc' := 70) dX4_readSum_69 rfl rfl rfl ?_
    refine u_invV (q' := qX5_emit) (As := [vI (-8)]) (st := []) (pc' := 73) dX4_readSum_70 rfl gX5_emit wm_672 rfl rfl (Nat.le_trans (kHouse k15).1 (Nat.le_add_right _ _)) (kHouse k15).2.2.2.2.2.2.2.2.2.2.2.2.1 wm_673 wm_674 rfl (Nat.le_of_ble_eq_true rfl) (M0.mono h (fun v τ16 h => ?_))
    obtain ⟨rfl, h⟩ := h
    show V0 E (d + 1) qX4_readSum 73 [some (vR 77), some (vB b12), some (vI x2), some (vI (-8))] [] τ16 Q
    refine s_iinc (i := 2) (ls' := [some (vR 77), some (vB b12), some (vI (x2 + 1)), some (vI (-8))]) (pc' := 76) dX4_readSum_73 rfl rfl (Nat.le_of_ble_eq_true rfl) rfl rfl ?_
    refine u_goto (tgt := 7) dX4_readSum_76 (by decide) ?_
    exact u_less (ls' := [some (vR 77), some (vB b12), some (vI (x2 + 1)), none]) ⟨rfl, ⟨rfl, ⟨rfl, trivial⟩⟩⟩ h
set_option maxRecDepth 20000 in
theorem bX4_readProduct_0 {E : mm_Env} {d : Nat} {τ : mm_Mem} {Q : mm_Q0}  (h : M0 E d qX4_readPart [vR 77] τ (fun v τ1 => ∃ b2 : Bool, v = some (vB b2) ∧ V0 E (d + 1) qX4_readProduct 7 [some (vR 77), some (vB b2), some (vI 0), none] [] τ1 Q)) : V0 E (d + 1) qX4_readProduct 0 [some (vR 77), none, none, none] [] τ Q := by
  refine u_aload_n (i := 0) (pc' := 1) dX4_readProduct_0 rfl rfl rfl ?_
  refine u_invV (q' := qX4_readPart) (As := []) (st := []) (pc' := 4) dX4_readProduct_1 rfl gX4_readPart wm_660 rfl rfl (by decide) kd_77 wm_662 wp_21 rfl (Nat.le_of_ble_eq_true rfl) (M0.mono h (fun v τ1 h => ?_))
  obtain ⟨b2, rfl, h⟩ := h
  show V0 E (d + 1) qX4_readProduct 4 [some (vR 77), none, none, none] [vB b2] τ1 Q
  refine s_istore_n (i := 1) (ls' := [some (vR 77), some (vB b2), none, none]) (pc' := 5) dX4_readProduct_4 rfl rfl (Nat.le_of_ble_eq_true rfl) rfl rfl ?_
  refine u_iconst (pc' := 6) dX4_readProduct_5 rfl ?_
  refine s_istore_n (i := 2) (ls' := [some (vR 77), some (vB b2), some (vI 0), none]) (pc' := 7) dX4_readProduct_6 rfl rfl (Nat.le_of_ble_eq_true rfl) rfl rfl ?_
  exact u_less (ls' := [some (vR 77), some (vB b2), some (vI 0), none]) ⟨rfl, ⟨rfl, ⟨rfl, trivial⟩⟩⟩ h
theorem mX4_readProduct {E : mm_Env} {d : Nat} {τ : mm_Mem} {Q : mm_Q0}  (h : M0 E d qX4_readPart [vR 77] τ (fun v τ1 => ∃ b2 : Bool, v = some (vB b2) ∧ V0 E (d + 1) qX4_readProduct 7 [some (vR 77), some (vB b2), some (vI 0), none] [] τ1 Q)) : M0 E (d + 1) qX4_readProduct [vR 77] τ Q := M0_of rfl (Nat.le_of_ble_eq_true rfl) [some (vR 77), none, none, none] rfl (bX4_readProduct_0  h)
set_option maxRecDepth 20000 in
theorem bX4_readProduct_7 {E : mm_Env} {d : Nat} {τ : mm_Mem} {Q : mm_Q0} {x1 : Bool} {x2 : Int} (h : inR x2 ∧ ((1600 ≤ x2 → Q (some (vB x1)) τ) ∧ (¬ 1600 ≤ x2 → ((x1 = false → Q (some (vB x1)) τ) ∧ (x1 = true → M0 E d qX4_seesSign [vR 77, vI 42] τ (fun v τ2 => ∃ b3 : Bool, v = some (vB b3) ∧ ((b3 = true → V0 E (d + 1) qX4_readProduct 45 [some (vR 77), none, some (vI x2), none] [] τ2 Q) ∧ (b3 = false → M0 E d qX4_seesSign [vR 77, vI 47] τ2 (fun v τ4 => ∃ b5 : Bool, v = some (vB b5) ∧ ((b5 = true → V0 E (d + 1) qX4_readProduct 45 [some (vR 77), none, some (vI x2), none] [] τ4 Q) ∧ (b5 = false → M0 E d qX4_seesSign [vR 77, vI 37] τ4 (fun v τ6 => ∃ b7 : Bool, v = some (vB b7) ∧ ((b7 = false → Q (some (vB x1)) τ6) ∧ (b7 = true → V0 E (d + 1) qX4_readProduct 45 [some (vR 77), none, some (vI x2), none] [] τ6 Q)))))))))))))) : V0 E (d + 1) qX4_readProduct 7 [some (vR 77), some (vB x1), some (vI x2), none] [] τ Q := by
  refine u_iload_n (i := 2) (pc' := 8) dX4_readProduct_7 rfl rfl rfl ?_
  refine u_sipush (pc' := 11) dX4_readProduct_8 rfl (by decide) ?_
  obtain ⟨c1, h⟩ := h
  refine u_icmp_ge (tgt := 102) (pc' := 14) dX4_readProduct_11 rfl (by decide) c1 ⟨by decide, by decide⟩ (fun hb => ?_) (fun hb => ?_)
  · have h := h.1 hb
    refine u_iload_n (i := 1) (pc' := 103) dX4_readProduct_102 rfl rfl rfl ?_
    exact u_zret (b := x1) dX4_readProduct_103 rfl rfl h
  · have h := h.2 hb
    refine u_iload_n (i := 1) (pc' := 15) dX4_readProduct_14 rfl rfl rfl ?_
    refine u_if_eq (tgt := 102) (pc' := 18) dX4_readProduct_15 rfl (by decide) (bI_R _) (fun hb => ?_) (fun hb => ?_)
    · have h := h.1 (bI_0.mp hb)
      refine u_iload_n (i := 1) (pc' := 103) dX4_readProduct_102 rfl rfl rfl ?_
      exact u_zret (b := x1) dX4_readProduct_103 rfl rfl h
    · have h := h.2 (bI_n0.mp hb)
      refine u_aload_n (i := 0) (pc' := 19) dX4_readProduct_18 rfl rfl rfl ?_
      refine u_bipush (pc' := 21) dX4_readProduct_19 rfl (by decide) ?_
      refine u_invV (q' := qX4_seesSign) (As := [vI 42]) (st := []) (pc' := 24) dX4_readProduct_21 rfl gX4_seesSign wm_597 rfl rfl (by decide) kd_77 wm_599 wp_13 rfl (Nat.le_of_ble_eq_true rfl) (M0.mono h (fun v τ2 h => ?_))
      obtain ⟨b3, rfl, h⟩ := h
      show V0 E (d + 1) qX4_readProduct 24 [some (vR 77), some (vB x1), some (vI x2), none] [vB b3] τ2 Q
      refine u_if_ne (tgt := 45) (pc' := 27) dX4_readProduct_24 rfl (by decide) (bI_R _) (fun hb => ?_) (fun hb => ?_)
      · have h := h.1 (bI_n0.mp hb)
        exact u_less (ls' := [some (vR 77), none, some (vI x2), none]) ⟨rfl, ⟨rfl, trivial⟩⟩ h
      · have h := h.2 (bI_0.mp hb)
        refine u_aload_n (i := 0) (pc' := 28) dX4_readProduct_27 rfl rfl rfl ?_
        refine u_bipush (pc' := 30) dX4_readProduct_28 rfl (by decide) ?_
        refine u_invV (q' := qX4_seesSign) (As := [vI 47]) (st := []) (pc' := 33) dX4_readProduct_30 rfl gX4_seesSign wm_597 rfl rfl (by decide) kd_77 wm_599 wp_13 rfl (Nat.le_of_ble_eq_true rfl) (M0.mono h (fun v τ4 h => ?_))
        obtain ⟨b5, rfl, h⟩ := h
        show V0 E (d + 1) qX4_readProduct 33 [some (vR 77), some (vB x1), some (vI x2), none] [vB b5] τ4 Q
        refine u_if_ne (tgt := 45) (pc' := 36) dX4_readProduct_33 rfl (by decide) (bI_R _) (fun hb => ?_) (fun hb => ?_)
        · have h := h.1 (bI_n0.mp hb)
          exact u_less (ls' := [some (vR 77), none, some (vI x2), none]) ⟨rfl, ⟨rfl, trivial⟩⟩ h
        · have h := h.2 (bI_0.mp hb)
          refine u_aload_n (i := 0) (pc' := 37) dX4_readProduct_36 rfl rfl rfl ?_
          refine u_bipush (pc' := 39) dX4_readProduct_37 rfl (by decide) ?_
          refine u_invV (q' := qX4_seesSign) (As := [vI 37]) (st := []) (pc' := 42) dX4_readProduct_39 rfl gX4_seesSign wm_597 rfl rfl (by decide) kd_77 wm_599 wp_13 rfl (Nat.le_of_ble_eq_true rfl) (M0.mono h (fun v τ6 h => ?_))
          obtain ⟨b7, rfl, h⟩ := h
          show V0 E (d + 1) qX4_readProduct 42 [some (vR 77), some (vB x1), some (vI x2), none] [vB b7] τ6 Q
          refine u_if_eq (tgt := 102) (pc' := 45) dX4_readProduct_42 rfl (by decide) (bI_R _) (fun hb => ?_) (fun hb => ?_)
          · have h := h.1 (bI_0.mp hb)
            refine u_iload_n (i := 1) (pc' := 103) dX4_readProduct_102 rfl rfl rfl ?_
            exact u_zret (b := x1) dX4_readProduct_103 rfl rfl h
          · have h := h.2 (bI_n0.mp hb)
            exact u_less (ls' := [some (vR 77), none, some (vI x2), none]) ⟨rfl, ⟨rfl, trivial⟩⟩ h
set_option maxRecDepth 20000 in
theorem bX4_readProduct_45 {E : mm_Env} {d : Nat} {τ : mm_Mem} {Q : mm_Q0} {x2 : Int} (h : M0 E d qX4_seesSign [vR 77, vI 42] τ (fun v τ1 => ∃ b2 : Bool, v = some (vB b2) ∧ ((b2 = false → M0 E d qX4_seesSign [vR 77, vI 47] τ1 (fun v τ3 => ∃ b4 : Bool, v = some (vB b4) ∧ ((b4 = false → M0 E d qX4_advance [vR 77] τ3 (fun v τ5 => v = none ∧ M0 E d qX4_readPart [vR 77] τ5 (fun v τ6 => ∃ b7 : Bool, v = some (vB b7) ∧ ∃ o8 : Nat, (τ6 77 1) = (o8 : Int) ∧ KD o8 = some (.inr 2) ∧ M0 E d qX5_emit [vR (o8 + 6), vI (-12)] τ6 (fun v τ11 => v = none ∧ V0 E (d + 1) qX4_readProduct 7 [some (vR 77), some (vB b7), some (vI (x2 + 1)), none] [] τ11 Q)))) ∧ (b4 = true → M0 E d qX4_advance [vR 77] τ3 (fun v τ12 => v = none ∧ M0 E d qX4_readPart [vR 77] τ12 (fun v τ13 => ∃ b14 : Bool, v = some (vB b14) ∧ ∃ o15 : Nat, (τ13 77 1) = (o15 : Int) ∧ KD o15 = some (.inr 2) ∧ M0 E d qX5_emit [vR (o15 + 6), vI (-11)] τ13 (fun v τ18 => v = none ∧ V0 E (d + 1) qX4_readProduct 7 [some (vR 77), some (vB b14), some (vI (x2 + 1)), none] [] τ18 Q))))))) ∧ (b2 = true → M0 E d qX4_advance [vR 77] τ1 (fun v τ19 => v = none ∧ M0 E d qX4_readPart [vR 77] τ19 (fun v τ20 => ∃ b21 : Bool, v = some (vB b21) ∧ ∃ o22 : Nat, (τ20 77 1) = (o22 : Int) ∧ KD o22 = some (.inr 2) ∧ M0 E d qX5_emit [vR (o22 + 6), vI (-10)] τ20 (fun v τ25 => v = none ∧ V0 E (d + 1) qX4_readProduct 7 [some (vR 77), some (vB b21), some (vI (x2 + 1)), none] [] τ25 Q))))))) : V0 E (d + 1) qX4_readProduct 45 [some (vR 77), none, some (vI x2), none] [] τ Q := by
  refine u_aload_n (i := 0) (pc' := 46) dX4_readProduct_45 rfl rfl rfl ?_
  refine u_bipush (pc' := 48) dX4_readProduct_46 rfl (by decide) ?_
  refine u_invV (q' := qX4_seesSign) (As := [vI 42]) (st := []) (pc' := 51) dX4_readProduct_48 rfl gX4_seesSign wm_597 rfl rfl (by decide) kd_77 wm_599 wp_13 rfl (Nat.le_of_ble_eq_true rfl) (M0.mono h (fun v τ1 h => ?_))
  obtain ⟨b2, rfl, h⟩ := h
  show V0 E (d + 1) qX4_readProduct 51 [some (vR 77), none, some (vI x2), none] [vB b2] τ1 Q
  refine u_if_eq (tgt := 59) (pc' := 54) dX4_readProduct_51 rfl (by decide) (bI_R _) (fun hb => ?_) (fun hb => ?_)
  · have h := h.1 (bI_0.mp hb)
    refine u_aload_n (i := 0) (pc' := 60) dX4_readProduct_59 rfl rfl rfl ?_
    refine u_bipush (pc' := 62) dX4_readProduct_60 rfl (by decide) ?_
    refine u_invV (q' := qX4_seesSign) (As := [vI 47]) (st := []) (pc' := 65) dX4_readProduct_62 rfl gX4_seesSign wm_597 rfl rfl (by decide) kd_77 wm_599 wp_13 rfl (Nat.le_of_ble_eq_true rfl) (M0.mono h (fun v τ3 h => ?_))
    obtain ⟨b4, rfl, h⟩ := h
    show V0 E (d + 1) qX4_readProduct 65 [some (vR 77), none, some (vI x2), none] [vB b4] τ3 Q
    refine u_if_eq (tgt := 73) (pc' := 68) dX4_readProduct_65 rfl (by decide) (bI_R _) (fun hb => ?_) (fun hb => ?_)
    · have h := h.1 (bI_0.mp hb)
      refine u_bipush (pc' := 75) dX4_readProduct_73 rfl (by decide) ?_
      refine s_istore_n (i := 3) (ls' := [some (vR 77), none, some (vI x2), some (vI (-12))]) (pc' := 76) dX4_readProduct_75 rfl rfl (Nat.le_of_ble_eq_true rfl) rfl rfl ?_
      refine u_aload_n (i := 0) (pc' := 77) dX4_readProduct_76 rfl rfl rfl ?_
      refine u_invV (q' := qX4_advance) (As := []) (st := []) (pc' := 80) dX4_readProduct_77 rfl gX4_advance wm_569 rfl rfl (by decide) kd_77 wm_571 wp_6 rfl (Nat.le_of_ble_eq_true rfl) (M0.mono h (fun v τ5 h => ?_))
      obtain ⟨rfl, h⟩ := h
      show V0 E (d + 1) qX4_readProduct 80 [some (vR 77), none, some (vI x2), some (vI (-12))] [] τ5 Q
      refine u_aload_n (i := 0) (pc' := 81) dX4_readProduct_80 rfl rfl rfl ?_
      refine u_invV (q' := qX4_readPart) (As := []) (st := []) (pc' := 84) dX4_readProduct_81 rfl gX4_readPart wm_660 rfl rfl (by decide) kd_77 wm_662 wp_21 rfl (Nat.le_of_ble_eq_true rfl) (M0.mono h (fun v τ6 h => ?_))
      obtain ⟨b7, rfl, h⟩ := h
      show V0 E (d + 1) qX4_readProduct 84 [some (vR 77), none, some (vI x2), some (vI (-12))] [vB b7] τ6 Q
      refine s_istore_n (i := 1) (ls' := [some (vR 77), some (vB b7), some (vI x2), some (vI (-12))]) (pc' := 85) dX4_readProduct_84 rfl rfl (Nat.le_of_ble_eq_true rfl) rfl rfl ?_
      refine u_aload_n (i := 0) (pc' := 86) dX4_readProduct_85 rfl rfl rfl ?_
      obtain ⟨o8, z9, k10, h⟩ := h
      refine u_getD (a := o8) (pc' := 89) dX4_readProduct_86 rfl fl_TuneDoor_Reader_19 rfl (by decide) kd_77 rfl (z9) ?_
      refine u_getR (a := (o8 + 6)) (pc' := 92) dX4_readProduct_89 rfl fl_TuneDoor_Reader_202 rfl (kHouse k10).1 k10 (kHouse k10).2.2.2.2.2.2.1 ?_
      refine u_iload_n (i := 3) (pc' := 93) dX4_readProduct_92 rfl rfl rfl ?_
      refine u_invV (q' := qX5_emit) (As := [vI (-12)]) (st := []) (pc' := 96) dX4_readProduct_93 rfl gX5_emit wm_672 rfl rfl (Nat.le_trans (kHouse k10).1 (Nat.le_add_right _ _)) (kHouse k10).2.2.2.2.2.2.2.2.2.2.2.2.1 wm_673 wm_674 rfl (Nat.le_of_ble_eq_true rfl) (M0.mono h (fun v τ11 h => ?_))
      obtain ⟨rfl, h⟩ := h
      show V0 E (d + 1) qX4_readProduct 96 [some (vR 77), some (vB b7), some (vI x2), some (vI (-12))] [] τ11 Q
      refine s_iinc (i := 2) (ls' := [some (vR 77), some (vB b7), some (vI (x2 + 1)), some (vI (-12))]) (pc' := 99) dX4_readProduct_96 rfl rfl (Nat.le_of_ble_eq_true rfl) rfl rfl ?_
      refine u_goto (tgt := 7) dX4_readProduct_99 (by decide) ?_
      exact u_less (ls' := [some (vR 77), some (vB b7), some (vI (x2 + 1)), none]) ⟨rfl, ⟨rfl, ⟨rfl, trivial⟩⟩⟩ h
    · have h := h.2 (bI_n0.mp hb)
      refine u_bipush (pc' := 70) dX4_readProduct_68 rfl (by decide) ?_
      refine u_goto (tgt := 75) dX4_readProduct_70 (by decide) ?_
      refine s_istore_n (i := 3) (ls' := [some (vR 77), none, some (vI x2), some (vI (-11))]) (pc' := 76) dX4_readProduct_75 rfl rfl (Nat.le_of_ble_eq_true rfl) rfl rfl ?_
      refine u_aload_n (i := 0) (pc' := 77) dX4_readProduct_76 rfl rfl rfl ?_
      refine u_invV (q' := qX4_advance) (As := []) (st := []) (pc' := 80) dX4_readProduct_77 rfl gX4_advance wm_569 rfl rfl (by decide) kd_77 wm_571 wp_6 rfl (Nat.le_of_ble_eq_true rfl) (M0.mono h (fun v τ12 h => ?_))
      obtain ⟨rfl, h⟩ := h
      show V0 E (d + 1) qX4_readProduct 80 [some (vR 77), none, some (vI x2), some (vI (-11))] [] τ12 Q
      refine u_aload_n (i := 0) (pc' := 81) dX4_readProduct_80 rfl rfl rfl ?_
      refine u_invV (q' := qX4_readPart) (As := []) (st := []) (pc' := 84) dX4_readProduct_81 rfl gX4_readPart wm_660 rfl rfl (by decide) kd_77 wm_662 wp_21 rfl (Nat.le_of_ble_eq_true rfl) (M0.mono h (fun v τ13 h => ?_))
      obtain ⟨b14, rfl, h⟩ := h
      show V0 E (d + 1) qX4_readProduct 84 [some (vR 77), none, some (vI x2), some (vI (-11))] [vB b14] τ13 Q
      refine s_istore_n (i := 1) (ls' := [some (vR 77), some (vB b14), some (vI x2), some (vI (-11))]) (pc' := 85) dX4_readProduct_84 rfl rfl (Nat.le_of_ble_eq_true rfl) rfl rfl ?_
      refine u_aload_n (i := 0) (pc' := 86) dX4_readProduct_85 rfl rfl rfl ?_
      obtain ⟨o15, z16, k17, h⟩ := h
      refine u_getD (a := o15) (pc' := 89) dX4_readProduct_86 rfl fl_TuneDoor_Reader_19 rfl (by decide) kd_77 rfl (z16) ?_
      refine u_getR (a := (o15 + 6)) (pc' := 92) dX4_readProduct_89 rfl fl_TuneDoor_Reader_202 rfl (kHouse k17).1 k17 (kHouse k17).2.2.2.2.2.2.1 ?_
      refine u_iload_n (i := 3) (pc' := 93) dX4_readProduct_92 rfl rfl rfl ?_
      refine u_invV (q' := qX5_emit) (As := [vI (-11)]) (st := []) (pc' := 96) dX4_readProduct_93 rfl gX5_emit wm_672 rfl rfl (Nat.le_trans (kHouse k17).1 (Nat.le_add_right _ _)) (kHouse k17).2.2.2.2.2.2.2.2.2.2.2.2.1 wm_673 wm_674 rfl (Nat.le_of_ble_eq_true rfl) (M0.mono h (fun v τ18 h => ?_))
      obtain ⟨rfl, h⟩ := h
      show V0 E (d + 1) qX4_readProduct 96 [some (vR 77), some (vB b14), some (vI x2), some (vI (-11))] [] τ18 Q
      refine s_iinc (i := 2) (ls' := [some (vR 77), some (vB b14), some (vI (x2 + 1)), some (vI (-11))]) (pc' := 99) dX4_readProduct_96 rfl rfl (Nat.le_of_ble_eq_true rfl) rfl rfl ?_
      refine u_goto (tgt := 7) dX4_readProduct_99 (by decide) ?_
      exact u_less (ls' := [some (vR 77), some (vB b14), some (vI (x2 + 1)), none]) ⟨rfl, ⟨rfl, ⟨rfl, trivial⟩⟩⟩ h
  · have h := h.2 (bI_n0.mp hb)
    refine u_bipush (pc' := 56) dX4_readProduct_54 rfl (by decide) ?_
    refine u_goto (tgt := 75) dX4_readProduct_56 (by decide) ?_
    refine s_istore_n (i := 3) (ls' := [some (vR 77), none, some (vI x2), some (vI (-10))]) (pc' := 76) dX4_readProduct_75 rfl rfl (Nat.le_of_ble_eq_true rfl) rfl rfl ?_
    refine u_aload_n (i := 0) (pc' := 77) dX4_readProduct_76 rfl rfl rfl ?_
    refine u_invV (q' := qX4_advance) (As := []) (st := []) (pc' := 80) dX4_readProduct_77 rfl gX4_advance wm_569 rfl rfl (by decide) kd_77 wm_571 wp_6 rfl (Nat.le_of_ble_eq_true rfl) (M0.mono h (fun v τ19 h => ?_))
    obtain ⟨rfl, h⟩ := h
    show V0 E (d + 1) qX4_readProduct 80 [some (vR 77), none, some (vI x2), some (vI (-10))] [] τ19 Q
    refine u_aload_n (i := 0) (pc' := 81) dX4_readProduct_80 rfl rfl rfl ?_
    refine u_invV (q' := qX4_readPart) (As := []) (st := []) (pc' := 84) dX4_readProduct_81 rfl gX4_readPart wm_660 rfl rfl (by decide) kd_77 wm_662 wp_21 rfl (Nat.le_of_ble_eq_true rfl) (M0.mono h (fun v τ20 h => ?_))
    obtain ⟨b21, rfl, h⟩ := h
    show V0 E (d + 1) qX4_readProduct 84 [some (vR 77), none, some (vI x2), some (vI (-10))] [vB b21] τ20 Q
    refine s_istore_n (i := 1) (ls' := [some (vR 77), some (vB b21), some (vI x2), some (vI (-10))]) (pc' := 85) dX4_readProduct_84 rfl rfl (Nat.le_of_ble_eq_true rfl) rfl rfl ?_
    refine u_aload_n (i := 0) (pc' := 86) dX4_readProduct_85 rfl rfl rfl ?_
    obtain ⟨o22, z23, k24, h⟩ := h
    refine u_getD (a := o22) (pc' := 89) dX4_readProduct_86 rfl fl_TuneDoor_Reader_19 rfl (by decide) kd_77 rfl (z23) ?_
    refine u_getR (a := (o22 + 6)) (pc' := 92) dX4_readProduct_89 rfl fl_TuneDoor_Reader_202 rfl (kHouse k24).1 k24 (kHouse k24).2.2.2.2.2.2.1 ?_
    refine u_iload_n (i := 3) (pc' := 93) dX4_readProduct_92 rfl rfl rfl ?_
    refine u_invV (q' := qX5_emit) (As := [vI (-10)]) (st := []) (pc' := 96) dX4_readProduct_93 rfl gX5_emit wm_672 rfl rfl (Nat.le_trans (kHouse k24).1 (Nat.le_add_right _ _)) (kHouse k24).2.2.2.2.2.2.2.2.2.2.2.2.1 wm_673 wm_674 rfl (Nat.le_of_ble_eq_true rfl) (M0.mono h (fun v τ25 h => ?_))
    obtain ⟨rfl, h⟩ := h
    show V0 E (d + 1) qX4_readProduct 96 [some (vR 77), some (vB b21), some (vI x2), some (vI (-10))] [] τ25 Q
    refine s_iinc (i := 2) (ls' := [some (vR 77), some (vB b21), some (vI (x2 + 1)), some (vI (-10))]) (pc' := 99) dX4_readProduct_96 rfl rfl (Nat.le_of_ble_eq_true rfl) rfl rfl ?_
    refine u_goto (tgt := 7) dX4_readProduct_99 (by decide) ?_
    exact u_less (ls' := [some (vR 77), some (vB b21), some (vI (x2 + 1)), none]) ⟨rfl, ⟨rfl, ⟨rfl, trivial⟩⟩⟩ h
set_option maxRecDepth 20000 in
theorem bX4_readPart_0 {E : mm_Env} {d : Nat} {τ : mm_Mem} {Q : mm_Q0}  (h : (((τ 77 3) ≠ 2 → (((τ 77 3) ≠ 3 → (((τ 77 3) ≠ 4 → V0 E (d + 1) qX4_readPart 112 [some (vR 77), none] [] τ Q) ∧ ((τ 77 3) = 4 → (((τ 77 4) < 22 → V0 E (d + 1) qX4_readPart 112 [some (vR 77), none] [] τ Q) ∧ (¬ (τ 77 4) < 22 → ((26 < (τ 77 4) → V0 E (d + 1) qX4_readPart 112 [some (vR 77), none] [] τ Q) ∧ (¬ 26 < (τ 77 4) → ∃ o6 : Nat, (τ 77 1) = (o6 : Int) ∧ KD o6 = some (.inr 2) ∧ M0 E d qX5_emit [vR (o6 + 6), vI ((-1) - ((τ 77 4) - 22))] τ (fun v τ10 => v = none ∧ M0 E d qX4_advance [vR 77] τ10 (fun v τ11 => v = none ∧ Q (some (vB true)) τ11))))))))) ∧ ((τ 77 3) = 3 → ∃ o12 : Nat, (τ 77 1) = (o12 : Int) ∧ KD o12 = some (.inr 2) ∧ M0 E d qX5_emit [vR (o12 + 6), vI (τ 77 4)] τ (fun v τ16 => v = none ∧ M0 E d qX4_advance [vR 77] τ16 (fun v τ17 => v = none ∧ Q (some (vB true)) τ17))))) ∧ ((τ 77 3) = 2 → M0 E d qX4_openBracket [vR 77, vI 40] τ (fun v τ18 => ∃ b19 : Bool, v = some (vB b19) ∧ ((b19 = false → Q (some (vB false)) τ18) ∧ (b19 = true → M0 E d qX4_readSum [vR 77] τ18 (fun v τ20 => ∃ b21 : Bool, v = some (vB b21) ∧ ((b21 = false → Q (some (vB false)) τ20) ∧ (b21 = true → M0 E d qX4_closeBracket [vR 77, vI 41] τ20 (fun v τ22 => ∃ b23 : Bool, v = some (vB b23) ∧ ((b23 = false → Q (some (vB false)) τ22) ∧ (b23 = true → Q (some (vB true)) τ22)))))))))))) : V0 E (d + 1) qX4_readPart 0 [some (vR 77), none] [] τ Q := by
  refine u_aload_n (i := 0) (pc' := 1) dX4_readPart_0 rfl rfl rfl ?_
  refine u_getI (z := (τ 77 3)) (pc' := 4) dX4_readPart_1 rfl fl_TuneDoor_Reader_44 rfl (by decide) (by decide) kd_77 rfl (fun r1 => ?_)
  refine u_iconst (pc' := 5) dX4_readPart_4 rfl ?_
  refine u_icmp_ne (tgt := 39) (pc' := 8) dX4_readPart_5 rfl (by decide) r1 ⟨by decide, by decide⟩ (fun hb => ?_) (fun hb => ?_)
  · have h := h.1 hb
    refine u_aload_n (i := 0) (pc' := 40) dX4_readPart_39 rfl rfl rfl ?_
    refine u_getI (z := (τ 77 3)) (pc' := 43) dX4_readPart_40 rfl fl_TuneDoor_Reader_44 rfl (by decide) (by decide) kd_77 rfl (fun r2 => ?_)
    refine u_iconst (pc' := 44) dX4_readPart_43 rfl ?_
    refine u_icmp_ne (tgt := 64) (pc' := 47) dX4_readPart_44 rfl (by decide) r2 ⟨by decide, by decide⟩ (fun hb => ?_) (fun hb => ?_)
    · have h := h.1 hb
      refine u_aload_n (i := 0) (pc' := 65) dX4_readPart_64 rfl rfl rfl ?_
      refine u_getI (z := (τ 77 3)) (pc' := 68) dX4_readPart_65 rfl fl_TuneDoor_Reader_44 rfl (by decide) (by decide) kd_77 rfl (fun r3 => ?_)
      refine u_iconst (pc' := 69) dX4_readPart_68 rfl ?_
      refine u_icmp_ne (tgt := 112) (pc' := 72) dX4_readPart_69 rfl (by decide) r3 ⟨by decide, by decide⟩ (fun hb => ?_) (fun hb => ?_)
      · have h := h.1 hb
        exact u_less (ls' := [some (vR 77), none]) ⟨rfl, trivial⟩ h
      · have h := h.2 hb
        refine u_aload_n (i := 0) (pc' := 73) dX4_readPart_72 rfl rfl rfl ?_
        refine u_getI (z := (τ 77 4)) (pc' := 76) dX4_readPart_73 rfl fl_TuneDoor_Reader_62 rfl (by decide) (by decide) kd_77 rfl (fun r4 => ?_)
        refine u_bipush (pc' := 78) dX4_readPart_76 rfl (by decide) ?_
        refine u_icmp_lt (tgt := 112) (pc' := 81) dX4_readPart_78 rfl (by decide) r4 ⟨by decide, by decide⟩ (fun hb => ?_) (fun hb => ?_)
        · have h := h.1 hb
          exact u_less (ls' := [some (vR 77), none]) ⟨rfl, trivial⟩ h
        · have h := h.2 hb
          refine u_aload_n (i := 0) (pc' := 82) dX4_readPart_81 rfl rfl rfl ?_
          refine u_getI (z := (τ 77 4)) (pc' := 85) dX4_readPart_82 rfl fl_TuneDoor_Reader_62 rfl (by decide) (by decide) kd_77 rfl (fun r5 => ?_)
          refine u_bipush (pc' := 87) dX4_readPart_85 rfl (by decide) ?_
          refine u_icmp_gt (tgt := 112) (pc' := 90) dX4_readPart_87 rfl (by decide) r5 ⟨by decide, by decide⟩ (fun hb => ?_) (fun hb => ?_)
          · have h := h.1 hb
            exact u_less (ls' := [some (vR 77), none]) ⟨rfl, trivial⟩ h
          · have h := h.2 hb
            refine u_aload_n (i := 0) (pc' := 91) dX4_readPart_90 rfl rfl rfl ?_
            obtain ⟨o6, z7, k8, h⟩ := h
            refine u_getD (a := o6) (pc' := 94) dX4_readPart_91 rfl fl_TuneDoor_Reader_19 rfl (by decide) kd_77 rfl (z7) ?_
            refine u_getR (a := (o6 + 6)) (pc' := 97) dX4_readPart_94 rfl fl_TuneDoor_Reader_202 rfl (kHouse k8).1 k8 (kHouse k8).2.2.2.2.2.2.1 ?_
            refine u_iconst (pc' := 98) dX4_readPart_97 rfl ?_
            refine u_aload_n (i := 0) (pc' := 99) dX4_readPart_98 rfl rfl rfl ?_
            refine u_getI (z := (τ 77 4)) (pc' := 102) dX4_readPart_99 rfl fl_TuneDoor_Reader_62 rfl (by decide) (by decide) kd_77 rfl (fun r9 => ?_)
            refine u_bipush (pc' := 104) dX4_readPart_102 rfl (by decide) ?_
            refine u_isub (pc' := 105) dX4_readPart_104 rfl ?_
            refine u_isub (pc' := 106) dX4_readPart_105 rfl ?_
            refine u_invV (q' := qX5_emit) (As := [vI ((-1) - ((τ 77 4) - 22))]) (st := []) (pc' := 109) dX4_readPart_106 rfl gX5_emit wm_672 rfl rfl (Nat.le_trans (kHouse k8).1 (Nat.le_add_right _ _)) (kHouse k8).2.2.2.2.2.2.2.2.2.2.2.2.1 wm_673 wm_674 rfl (Nat.le_of_ble_eq_true rfl) (M0.mono h (fun v τ10 h => ?_))
            obtain ⟨rfl, h⟩ := h
            show V0 E (d + 1) qX4_readPart 109 [some (vR 77), none] [] τ10 Q
            refine u_goto (tgt := 187) dX4_readPart_109 (by decide) ?_
            refine u_aload_n (i := 0) (pc' := 188) dX4_readPart_187 rfl rfl rfl ?_
            refine u_invV (q' := qX4_advance) (As := []) (st := []) (pc' := 191) dX4_readPart_188 rfl gX4_advance wm_569 rfl rfl (by decide) kd_77 wm_571 wp_6 rfl (Nat.le_of_ble_eq_true rfl) (M0.mono h (fun v τ11 h => ?_))
            obtain ⟨rfl, h⟩ := h
            show V0 E (d + 1) qX4_readPart 191 [some (vR 77), none] [] τ11 Q
            refine u_iconst (pc' := 192) dX4_readPart_191 rfl ?_
            exact u_zret (b := true) dX4_readPart_192 rfl rfl h
    · have h := h.2 hb
      refine u_aload_n (i := 0) (pc' := 48) dX4_readPart_47 rfl rfl rfl ?_
      obtain ⟨o12, z13, k14, h⟩ := h
      refine u_getD (a := o12) (pc' := 51) dX4_readPart_48 rfl fl_TuneDoor_Reader_19 rfl (by decide) kd_77 rfl (z13) ?_
      refine u_getR (a := (o12 + 6)) (pc' := 54) dX4_readPart_51 rfl fl_TuneDoor_Reader_202 rfl (kHouse k14).1 k14 (kHouse k14).2.2.2.2.2.2.1 ?_
      refine u_aload_n (i := 0) (pc' := 55) dX4_readPart_54 rfl rfl rfl ?_
      refine u_getI (z := (τ 77 4)) (pc' := 58) dX4_readPart_55 rfl fl_TuneDoor_Reader_62 rfl (by decide) (by decide) kd_77 rfl (fun r15 => ?_)
      refine u_invV (q' := qX5_emit) (As := [vI (τ 77 4)]) (st := []) (pc' := 61) dX4_readPart_58 rfl gX5_emit wm_672 rfl rfl (Nat.le_trans (kHouse k14).1 (Nat.le_add_right _ _)) (kHouse k14).2.2.2.2.2.2.2.2.2.2.2.2.1 wm_673 wm_674 rfl (Nat.le_of_ble_eq_true rfl) (M0.mono h (fun v τ16 h => ?_))
      obtain ⟨rfl, h⟩ := h
      show V0 E (d + 1) qX4_readPart 61 [some (vR 77), none] [] τ16 Q
      refine u_goto (tgt := 187) dX4_readPart_61 (by decide) ?_
      refine u_aload_n (i := 0) (pc' := 188) dX4_readPart_187 rfl rfl rfl ?_
      refine u_invV (q' := qX4_advance) (As := []) (st := []) (pc' := 191) dX4_readPart_188 rfl gX4_advance wm_569 rfl rfl (by decide) kd_77 wm_571 wp_6 rfl (Nat.le_of_ble_eq_true rfl) (M0.mono h (fun v τ17 h => ?_))
      obtain ⟨rfl, h⟩ := h
      show V0 E (d + 1) qX4_readPart 191 [some (vR 77), none] [] τ17 Q
      refine u_iconst (pc' := 192) dX4_readPart_191 rfl ?_
      exact u_zret (b := true) dX4_readPart_192 rfl rfl h
  · have h := h.2 hb
    refine u_aload_n (i := 0) (pc' := 9) dX4_readPart_8 rfl rfl rfl ?_
    refine u_bipush (pc' := 11) dX4_readPart_9 rfl (by decide) ?_
    refine u_invV (q' := qX4_openBracket) (As := [vI 40]) (st := []) (pc' := 14) dX4_readPart_11 rfl gX4_openBracket wm_664 rfl rfl (by decide) kd_77 wm_666 wp_22 rfl (Nat.le_of_ble_eq_true rfl) (M0.mono h (fun v τ18 h => ?_))
    obtain ⟨b19, rfl, h⟩ := h
    show V0 E (d + 1) qX4_readPart 14 [some (vR 77), none] [vB b19] τ18 Q
    refine u_if_eq (tgt := 37) (pc' := 17) dX4_readPart_14 rfl (by decide) (bI_R _) (fun hb => ?_) (fun hb => ?_)
    · have h := h.1 (bI_0.mp hb)
      refine u_iconst (pc' := 38) dX4_readPart_37 rfl ?_
      exact u_zret (b := false) dX4_readPart_38 rfl rfl h
    · have h := h.2 (bI_n0.mp hb)
      refine u_aload_n (i := 0) (pc' := 18) dX4_readPart_17 rfl rfl rfl ?_
      refine u_invV (q' := qX4_readSum) (As := []) (st := []) (pc' := 21) dX4_readPart_18 rfl gX4_readSum wm_652 rfl rfl (by decide) kd_77 wm_654 wp_19 rfl (Nat.le_of_ble_eq_true rfl) (M0.mono h (fun v τ20 h => ?_))
      obtain ⟨b21, rfl, h⟩ := h
      show V0 E (d + 1) qX4_readPart 21 [some (vR 77), none] [vB b21] τ20 Q
      refine u_if_eq (tgt := 37) (pc' := 24) dX4_readPart_21 rfl (by decide) (bI_R _) (fun hb => ?_) (fun hb => ?_)
      · have h := h.1 (bI_0.mp hb)
        refine u_iconst (pc' := 38) dX4_readPart_37 rfl ?_
        exact u_zret (b := false) dX4_readPart_38 rfl rfl h
      · have h := h.2 (bI_n0.mp hb)
        refine u_aload_n (i := 0) (pc' := 25) dX4_readPart_24 rfl rfl rfl ?_
        refine u_bipush (pc' := 27) dX4_readPart_25 rfl (by decide) ?_
        refine u_invV (q' := qX4_closeBracket) (As := [vI 41]) (st := []) (pc' := 30) dX4_readPart_27 rfl gX4_closeBracket wm_668 rfl rfl (by decide) kd_77 wm_670 wp_23 rfl (Nat.le_of_ble_eq_true rfl) (M0.mono h (fun v τ22 h => ?_))
        obtain ⟨b23, rfl, h⟩ := h
        show V0 E (d + 1) qX4_readPart 30 [some (vR 77), none] [vB b23] τ22 Q
        refine u_if_eq (tgt := 37) (pc' := 33) dX4_readPart_30 rfl (by decide) (bI_R _) (fun hb => ?_) (fun hb => ?_)
        · have h := h.1 (bI_0.mp hb)
          refine u_iconst (pc' := 38) dX4_readPart_37 rfl ?_
          exact u_zret (b := false) dX4_readPart_38 rfl rfl h
        · have h := h.2 (bI_n0.mp hb)
          refine u_iconst (pc' := 34) dX4_readPart_33 rfl ?_
          refine u_goto (tgt := 38) dX4_readPart_34 (by decide) ?_
          exact u_zret (b := true) dX4_readPart_38 rfl rfl h
theorem mX4_readPart {E : mm_Env} {d : Nat} {τ : mm_Mem} {Q : mm_Q0}  (h : (((τ 77 3) ≠ 2 → (((τ 77 3) ≠ 3 → (((τ 77 3) ≠ 4 → V0 E (d + 1) qX4_readPart 112 [some (vR 77), none] [] τ Q) ∧ ((τ 77 3) = 4 → (((τ 77 4) < 22 → V0 E (d + 1) qX4_readPart 112 [some (vR 77), none] [] τ Q) ∧ (¬ (τ 77 4) < 22 → ((26 < (τ 77 4) → V0 E (d + 1) qX4_readPart 112 [some (vR 77), none] [] τ Q) ∧ (¬ 26 < (τ 77 4) → ∃ o6 : Nat, (τ 77 1) = (o6 : Int) ∧ KD o6 = some (.inr 2) ∧ M0 E d qX5_emit [vR (o6 + 6), vI ((-1) - ((τ 77 4) - 22))] τ (fun v τ10 => v = none ∧ M0 E d qX4_advance [vR 77] τ10 (fun v τ11 => v = none ∧ Q (some (vB true)) τ11))))))))) ∧ ((τ 77 3) = 3 → ∃ o12 : Nat, (τ 77 1) = (o12 : Int) ∧ KD o12 = some (.inr 2) ∧ M0 E d qX5_emit [vR (o12 + 6), vI (τ 77 4)] τ (fun v τ16 => v = none ∧ M0 E d qX4_advance [vR 77] τ16 (fun v τ17 => v = none ∧ Q (some (vB true)) τ17))))) ∧ ((τ 77 3) = 2 → M0 E d qX4_openBracket [vR 77, vI 40] τ (fun v τ18 => ∃ b19 : Bool, v = some (vB b19) ∧ ((b19 = false → Q (some (vB false)) τ18) ∧ (b19 = true → M0 E d qX4_readSum [vR 77] τ18 (fun v τ20 => ∃ b21 : Bool, v = some (vB b21) ∧ ((b21 = false → Q (some (vB false)) τ20) ∧ (b21 = true → M0 E d qX4_closeBracket [vR 77, vI 41] τ20 (fun v τ22 => ∃ b23 : Bool, v = some (vB b23) ∧ ((b23 = false → Q (some (vB false)) τ22) ∧ (b23 = true → Q (some (vB true)) τ22)))))))))))) : M0 E (d + 1) qX4_readPart [vR 77] τ Q := M0_of rfl (Nat.le_of_ble_eq_true rfl) [some (vR 77), none] rfl (bX4_readPart_0  h)
set_option maxRecDepth 20000 in
theorem bX4_readPart_112 {E : mm_Env} {d : Nat} {τ : mm_Mem} {Q : mm_Q0}  (h : M0 E d qX4_seesWord [vR 77, vI 6] τ (fun v τ1 => ∃ b2 : Bool, v = some (vB b2) ∧ ((b2 = false → M0 E d qX4_seesWord [vR 77, vI 27] τ1 (fun v τ3 => ∃ b4 : Bool, v = some (vB b4) ∧ ((b4 = true → M0 E d qX4_seesWord [vR 77, vI 27] τ3 (fun v τ5 => ∃ b6 : Bool, v = some (vB b6) ∧ ((b6 = false → M0 E d qX4_advance [vR 77] τ5 (fun v τ7 => v = none ∧ M0 E d qX4_readPairOfSums [vR 77, vI (-14)] τ7 (fun v τ8 => ∃ b9 : Bool, v = some (vB b9) ∧ Q (some (vB b9)) τ8))) ∧ (b6 = true → M0 E d qX4_advance [vR 77] τ5 (fun v τ10 => v = none ∧ M0 E d qX4_readPairOfSums [vR 77, vI (-13)] τ10 (fun v τ11 => ∃ b12 : Bool, v = some (vB b12) ∧ Q (some (vB b12)) τ11)))))) ∧ (b4 = false → M0 E d qX4_seesWord [vR 77, vI 28] τ3 (fun v τ13 => ∃ b14 : Bool, v = some (vB b14) ∧ ((b14 = false → M0 E d qX4_fail [vR 77, vI 1] τ13 (fun v τ15 => ∃ b16 : Bool, v = some (vB b16) ∧ Q (some (vB b16)) τ15)) ∧ (b14 = true → M0 E d qX4_seesWord [vR 77, vI 27] τ13 (fun v τ17 => ∃ b18 : Bool, v = some (vB b18) ∧ ((b18 = false → M0 E d qX4_advance [vR 77] τ17 (fun v τ19 => v = none ∧ M0 E d qX4_readPairOfSums [vR 77, vI (-14)] τ19 (fun v τ20 => ∃ b21 : Bool, v = some (vB b21) ∧ Q (some (vB b21)) τ20))) ∧ (b18 = true → M0 E d qX4_advance [vR 77] τ17 (fun v τ22 => v = none ∧ M0 E d qX4_readPairOfSums [vR 77, vI (-13)] τ22 (fun v τ23 => ∃ b24 : Bool, v = some (vB b24) ∧ Q (some (vB b24)) τ23)))))))))))) ∧ (b2 = true → ∃ o25 : Nat, (τ1 77 1) = (o25 : Int) ∧ KD o25 = some (.inr 2) ∧ M0 E d qX5_emit [vR (o25 + 6), vI (-6)] τ1 (fun v τ28 => v = none ∧ M0 E d qX4_advance [vR 77] τ28 (fun v τ29 => v = none ∧ Q (some (vB true)) τ29)))))) : V0 E (d + 1) qX4_readPart 112 [some (vR 77), none] [] τ Q := by
  refine u_aload_n (i := 0) (pc' := 113) dX4_readPart_112 rfl rfl rfl ?_
  refine u_bipush (pc' := 115) dX4_readPart_113 rfl (by decide) ?_
  refine u_invV (q' := qX4_seesWord) (As := [vI 6]) (st := []) (pc' := 118) dX4_readPart_115 rfl gX4_seesWord wm_581 rfl rfl (by decide) kd_77 wm_583 wp_9 rfl (Nat.le_of_ble_eq_true rfl) (M0.mono h (fun v τ1 h => ?_))
  obtain ⟨b2, rfl, h⟩ := h
  show V0 E (d + 1) qX4_readPart 118 [some (vR 77), none] [vB b2] τ1 Q
  refine u_if_eq (tgt := 136) (pc' := 121) dX4_readPart_118 rfl (by decide) (bI_R _) (fun hb => ?_) (fun hb => ?_)
  · have h := h.1 (bI_0.mp hb)
    refine u_aload_n (i := 0) (pc' := 137) dX4_readPart_136 rfl rfl rfl ?_
    refine u_bipush (pc' := 139) dX4_readPart_137 rfl (by decide) ?_
    refine u_invV (q' := qX4_seesWord) (As := [vI 27]) (st := []) (pc' := 142) dX4_readPart_139 rfl gX4_seesWord wm_581 rfl rfl (by decide) kd_77 wm_583 wp_9 rfl (Nat.le_of_ble_eq_true rfl) (M0.mono h (fun v τ3 h => ?_))
    obtain ⟨b4, rfl, h⟩ := h
    show V0 E (d + 1) qX4_readPart 142 [some (vR 77), none] [vB b4] τ3 Q
    refine u_if_ne (tgt := 154) (pc' := 145) dX4_readPart_142 rfl (by decide) (bI_R _) (fun hb => ?_) (fun hb => ?_)
    · have h := h.1 (bI_n0.mp hb)
      refine u_aload_n (i := 0) (pc' := 155) dX4_readPart_154 rfl rfl rfl ?_
      refine u_bipush (pc' := 157) dX4_readPart_155 rfl (by decide) ?_
      refine u_invV (q' := qX4_seesWord) (As := [vI 27]) (st := []) (pc' := 160) dX4_readPart_157 rfl gX4_seesWord wm_581 rfl rfl (by decide) kd_77 wm_583 wp_9 rfl (Nat.le_of_ble_eq_true rfl) (M0.mono h (fun v τ5 h => ?_))
      obtain ⟨b6, rfl, h⟩ := h
      show V0 E (d + 1) qX4_readPart 160 [some (vR 77), none] [vB b6] τ5 Q
      refine u_if_eq (tgt := 168) (pc' := 163) dX4_readPart_160 rfl (by decide) (bI_R _) (fun hb => ?_) (fun hb => ?_)
      · have h := h.1 (bI_0.mp hb)
        refine u_bipush (pc' := 170) dX4_readPart_168 rfl (by decide) ?_
        refine s_istore_n (i := 1) (ls' := [some (vR 77), some (vI (-14))]) (pc' := 171) dX4_readPart_170 rfl rfl (Nat.le_of_ble_eq_true rfl) rfl rfl ?_
        refine u_aload_n (i := 0) (pc' := 172) dX4_readPart_171 rfl rfl rfl ?_
        refine u_invV (q' := qX4_advance) (As := []) (st := []) (pc' := 175) dX4_readPart_172 rfl gX4_advance wm_569 rfl rfl (by decide) kd_77 wm_571 wp_6 rfl (Nat.le_of_ble_eq_true rfl) (M0.mono h (fun v τ7 h => ?_))
        obtain ⟨rfl, h⟩ := h
        show V0 E (d + 1) qX4_readPart 175 [some (vR 77), some (vI (-14))] [] τ7 Q
        refine u_aload_n (i := 0) (pc' := 176) dX4_readPart_175 rfl rfl rfl ?_
        refine u_iload_n (i := 1) (pc' := 177) dX4_readPart_176 rfl rfl rfl ?_
        refine u_invV (q' := qX4_readPairOfSums) (As := [vI (-14)]) (st := []) (pc' := 180) dX4_readPart_177 rfl gX4_readPairOfSums wm_676 rfl rfl (by decide) kd_77 wm_678 wp_24 rfl (Nat.le_of_ble_eq_true rfl) (M0.mono h (fun v τ8 h => ?_))
        obtain ⟨b9, rfl, h⟩ := h
        show V0 E (d + 1) qX4_readPart 180 [some (vR 77), some (vI (-14))] [vB b9] τ8 Q
        exact u_zret (b := b9) dX4_readPart_180 rfl rfl h
      · have h := h.2 (bI_n0.mp hb)
        refine u_bipush (pc' := 165) dX4_readPart_163 rfl (by decide) ?_
        refine u_goto (tgt := 170) dX4_readPart_165 (by decide) ?_
        refine s_istore_n (i := 1) (ls' := [some (vR 77), some (vI (-13))]) (pc' := 171) dX4_readPart_170 rfl rfl (Nat.le_of_ble_eq_true rfl) rfl rfl ?_
        refine u_aload_n (i := 0) (pc' := 172) dX4_readPart_171 rfl rfl rfl ?_
        refine u_invV (q' := qX4_advance) (As := []) (st := []) (pc' := 175) dX4_readPart_172 rfl gX4_advance wm_569 rfl rfl (by decide) kd_77 wm_571 wp_6 rfl (Nat.le_of_ble_eq_true rfl) (M0.mono h (fun v τ10 h => ?_))
        obtain ⟨rfl, h⟩ := h
        show V0 E (d + 1) qX4_readPart 175 [some (vR 77), some (vI (-13))] [] τ10 Q
        refine u_aload_n (i := 0) (pc' := 176) dX4_readPart_175 rfl rfl rfl ?_
        refine u_iload_n (i := 1) (pc' := 177) dX4_readPart_176 rfl rfl rfl ?_
        refine u_invV (q' := qX4_readPairOfSums) (As := [vI (-13)]) (st := []) (pc' := 180) dX4_readPart_177 rfl gX4_readPairOfSums wm_676 rfl rfl (by decide) kd_77 wm_678 wp_24 rfl (Nat.le_of_ble_eq_true rfl) (M0.mono h (fun v τ11 h => ?_))
        obtain ⟨b12, rfl, h⟩ := h
        show V0 E (d + 1) qX4_readPart 180 [some (vR 77), some (vI (-13))] [vB b12] τ11 Q
        exact u_zret (b := b12) dX4_readPart_180 rfl rfl h
    · have h := h.2 (bI_0.mp hb)
      refine u_aload_n (i := 0) (pc' := 146) dX4_readPart_145 rfl rfl rfl ?_
      refine u_bipush (pc' := 148) dX4_readPart_146 rfl (by decide) ?_
      refine u_invV (q' := qX4_seesWord) (As := [vI 28]) (st := []) (pc' := 151) dX4_readPart_148 rfl gX4_seesWord wm_581 rfl rfl (by decide) kd_77 wm_583 wp_9 rfl (Nat.le_of_ble_eq_true rfl) (M0.mono h (fun v τ13 h => ?_))
      obtain ⟨b14, rfl, h⟩ := h
      show V0 E (d + 1) qX4_readPart 151 [some (vR 77), none] [vB b14] τ13 Q
      refine u_if_eq (tgt := 181) (pc' := 154) dX4_readPart_151 rfl (by decide) (bI_R _) (fun hb => ?_) (fun hb => ?_)
      · have h := h.1 (bI_0.mp hb)
        refine u_aload_n (i := 0) (pc' := 182) dX4_readPart_181 rfl rfl rfl ?_
        refine u_iconst (pc' := 183) dX4_readPart_182 rfl ?_
        refine u_invV (q' := qX4_fail) (As := [vI 1]) (st := []) (pc' := 186) dX4_readPart_183 rfl gX4_fail wm_585 rfl rfl (by decide) kd_77 wm_587 wp_10 rfl (Nat.le_of_ble_eq_true rfl) (M0.mono h (fun v τ15 h => ?_))
        obtain ⟨b16, rfl, h⟩ := h
        show V0 E (d + 1) qX4_readPart 186 [some (vR 77), none] [vB b16] τ15 Q
        exact u_zret (b := b16) dX4_readPart_186 rfl rfl h
      · have h := h.2 (bI_n0.mp hb)
        refine u_aload_n (i := 0) (pc' := 155) dX4_readPart_154 rfl rfl rfl ?_
        refine u_bipush (pc' := 157) dX4_readPart_155 rfl (by decide) ?_
        refine u_invV (q' := qX4_seesWord) (As := [vI 27]) (st := []) (pc' := 160) dX4_readPart_157 rfl gX4_seesWord wm_581 rfl rfl (by decide) kd_77 wm_583 wp_9 rfl (Nat.le_of_ble_eq_true rfl) (M0.mono h (fun v τ17 h => ?_))
        obtain ⟨b18, rfl, h⟩ := h
        show V0 E (d + 1) qX4_readPart 160 [some (vR 77), none] [vB b18] τ17 Q
        refine u_if_eq (tgt := 168) (pc' := 163) dX4_readPart_160 rfl (by decide) (bI_R _) (fun hb => ?_) (fun hb => ?_)
        · have h := h.1 (bI_0.mp hb)
          refine u_bipush (pc' := 170) dX4_readPart_168 rfl (by decide) ?_
          refine s_istore_n (i := 1) (ls' := [some (vR 77), some (vI (-14))]) (pc' := 171) dX4_readPart_170 rfl rfl (Nat.le_of_ble_eq_true rfl) rfl rfl ?_
          refine u_aload_n (i := 0) (pc' := 172) dX4_readPart_171 rfl rfl rfl ?_
          refine u_invV (q' := qX4_advance) (As := []) (st := []) (pc' := 175) dX4_readPart_172 rfl gX4_advance wm_569 rfl rfl (by decide) kd_77 wm_571 wp_6 rfl (Nat.le_of_ble_eq_true rfl) (M0.mono h (fun v τ19 h => ?_))
          obtain ⟨rfl, h⟩ := h
          show V0 E (d + 1) qX4_readPart 175 [some (vR 77), some (vI (-14))] [] τ19 Q
          refine u_aload_n (i := 0) (pc' := 176) dX4_readPart_175 rfl rfl rfl ?_
          refine u_iload_n (i := 1) (pc' := 177) dX4_readPart_176 rfl rfl rfl ?_
          refine u_invV (q' := qX4_readPairOfSums) (As := [vI (-14)]) (st := []) (pc' := 180) dX4_readPart_177 rfl gX4_readPairOfSums wm_676 rfl rfl (by decide) kd_77 wm_678 wp_24 rfl (Nat.le_of_ble_eq_true rfl) (M0.mono h (fun v τ20 h => ?_))
          obtain ⟨b21, rfl, h⟩ := h
          show V0 E (d + 1) qX4_readPart 180 [some (vR 77), some (vI (-14))] [vB b21] τ20 Q
          exact u_zret (b := b21) dX4_readPart_180 rfl rfl h
        · have h := h.2 (bI_n0.mp hb)
          refine u_bipush (pc' := 165) dX4_readPart_163 rfl (by decide) ?_
          refine u_goto (tgt := 170) dX4_readPart_165 (by decide) ?_
          refine s_istore_n (i := 1) (ls' := [some (vR 77), some (vI (-13))]) (pc' := 171) dX4_readPart_170 rfl rfl (Nat.le_of_ble_eq_true rfl) rfl rfl ?_
          refine u_aload_n (i := 0) (pc' := 172) dX4_readPart_171 rfl rfl rfl ?_
          refine u_invV (q' := qX4_advance) (As := []) (st := []) (pc' := 175) dX4_readPart_172 rfl gX4_advance wm_569 rfl rfl (by decide) kd_77 wm_571 wp_6 rfl (Nat.le_of_ble_eq_true rfl) (M0.mono h (fun v τ22 h => ?_))
          obtain ⟨rfl, h⟩ := h
          show V0 E (d + 1) qX4_readPart 175 [some (vR 77), some (vI (-13))] [] τ22 Q
          refine u_aload_n (i := 0) (pc' := 176) dX4_readPart_175 rfl rfl rfl ?_
          refine u_iload_n (i := 1) (pc' := 177) dX4_readPart_176 rfl rfl rfl ?_
          refine u_invV (q' := qX4_readPairOfSums) (As := [vI (-13)]) (st := []) (pc' := 180) dX4_readPart_177 rfl gX4_readPairOfSums wm_676 rfl rfl (by decide) kd_77 wm_678 wp_24 rfl (Nat.le_of_ble_eq_true rfl) (M0.mono h (fun v τ23 h => ?_))
          obtain ⟨b24, rfl, h⟩ := h
          show V0 E (d + 1) qX4_readPart 180 [some (vR 77), some (vI (-13))] [vB b24] τ23 Q
          exact u_zret (b := b24) dX4_readPart_180 rfl rfl h
  · have h := h.2 (bI_n0.mp hb)
    refine u_aload_n (i := 0) (pc' := 122) dX4_readPart_121 rfl rfl rfl ?_
    obtain ⟨o25, z26, k27, h⟩ := h
    refine u_getD (a := o25) (pc' := 125) dX4_readPart_122 rfl fl_TuneDoor_Reader_19 rfl (by decide) kd_77 rfl (z26) ?_
    refine u_getR (a := (o25 + 6)) (pc' := 128) dX4_readPart_125 rfl fl_TuneDoor_Reader_202 rfl (kHouse k27).1 k27 (kHouse k27).2.2.2.2.2.2.1 ?_
    refine u_bipush (pc' := 130) dX4_readPart_128 rfl (by decide) ?_
    refine u_invV (q' := qX5_emit) (As := [vI (-6)]) (st := []) (pc' := 133) dX4_readPart_130 rfl gX5_emit wm_672 rfl rfl (Nat.le_trans (kHouse k27).1 (Nat.le_add_right _ _)) (kHouse k27).2.2.2.2.2.2.2.2.2.2.2.2.1 wm_673 wm_674 rfl (Nat.le_of_ble_eq_true rfl) (M0.mono h (fun v τ28 h => ?_))
    obtain ⟨rfl, h⟩ := h
    show V0 E (d + 1) qX4_readPart 133 [some (vR 77), none] [] τ28 Q
    refine u_goto (tgt := 187) dX4_readPart_133 (by decide) ?_
    refine u_aload_n (i := 0) (pc' := 188) dX4_readPart_187 rfl rfl rfl ?_
    refine u_invV (q' := qX4_advance) (As := []) (st := []) (pc' := 191) dX4_readPart_188 rfl gX4_advance wm_569 rfl rfl (by decide) kd_77 wm_571 wp_6 rfl (Nat.le_of_ble_eq_true rfl) (M0.mono h (fun v τ29 h => ?_))
    obtain ⟨rfl, h⟩ := h
    show V0 E (d + 1) qX4_readPart 191 [some (vR 77), none] [] τ29 Q
    refine u_iconst (pc' := 192) dX4_readPart_191 rfl ?_
    exact u_zret (b := true) dX4_readPart_192 rfl rfl h
set_option maxRecDepth 20000 in
theorem bX4_openBracket_0 {E : mm_Env} {d : Nat} {τ : mm_Mem} {Q : mm_Q0} {a0 : Int} (h : M0 E d qX4_seesSign [vR 77, vI a0] τ (fun v τ1 => ∃ b2 : Bool, v = some (vB b2) ∧ ((b2 = true → (((τ1 77 5) < 8 → inR ((τ1 77 5) + 1) ∧ M0 E d qX4_advance [vR 77] (wr τ1 77 5 ((τ1 77 5) + 1)) (fun v τ6 => v = none ∧ Q (some (vB true)) τ6)) ∧ (¬ (τ1 77 5) < 8 → M0 E d qX4_fail [vR 77, vI 5] τ1 (fun v τ7 => ∃ b8 : Bool, v = some (vB b8) ∧ Q (some (vB b8)) τ7)))) ∧ (b2 = false → M0 E d qX4_fail [vR 77, vI 1] τ1 (fun v τ9 => ∃ b10 : Bool, v = some (vB b10) ∧ Q (some (vB b10)) τ9))))) : V0 E (d + 1) qX4_openBracket 0 [some (vR 77), some (vI a0)] [] τ Q := by
  refine u_aload_n (i := 0) (pc' := 1) dX4_openBracket_0 rfl rfl rfl ?_
  refine u_iload_n (i := 1) (pc' := 2) dX4_openBracket_1 rfl rfl rfl ?_
  refine u_invV (q' := qX4_seesSign) (As := [vI a0]) (st := []) (pc' := 5) dX4_openBracket_2 rfl gX4_seesSign wm_597 rfl rfl (by decide) kd_77 wm_599 wp_13 rfl (Nat.le_of_ble_eq_true rfl) (M0.mono h (fun v τ1 h => ?_))
  obtain ⟨b2, rfl, h⟩ := h
  show V0 E (d + 1) qX4_openBracket 5 [some (vR 77), some (vI a0)] [vB b2] τ1 Q
  refine u_if_ne (tgt := 14) (pc' := 8) dX4_openBracket_5 rfl (by decide) (bI_R _) (fun hb => ?_) (fun hb => ?_)
  · have h := h.1 (bI_n0.mp hb)
    refine u_aload_n (i := 0) (pc' := 15) dX4_openBracket_14 rfl rfl rfl ?_
    refine u_getI (z := (τ1 77 5)) (pc' := 18) dX4_openBracket_15 rfl fl_TuneDoor_Reader_34 rfl (by decide) (by decide) kd_77 rfl (fun r3 => ?_)
    refine u_bipush (pc' := 20) dX4_openBracket_18 rfl (by decide) ?_
    refine u_icmp_lt (tgt := 29) (pc' := 23) dX4_openBracket_20 rfl (by decide) r3 ⟨by decide, by decide⟩ (fun hb => ?_) (fun hb => ?_)
    · have h := h.1 hb
      refine u_aload_n (i := 0) (pc' := 30) dX4_openBracket_29 rfl rfl rfl ?_
      refine u_dup (pc' := 31) dX4_openBracket_30 rfl (fun _ hh => by cases hh) ?_
      refine u_getI (z := (τ1 77 5)) (pc' := 34) dX4_openBracket_31 rfl fl_TuneDoor_Reader_34 rfl (by decide) (by decide) kd_77 rfl (fun r4 => ?_)
      refine u_iconst (pc' := 35) dX4_openBracket_34 rfl ?_
      refine u_iadd (pc' := 36) dX4_openBracket_35 rfl ?_
      obtain ⟨c5, h⟩ := h
      refine u_putI (pc' := 39) dX4_openBracket_36 rfl fl_TuneDoor_Reader_34 rfl rfl (by decide) (by decide) kd_77 c5 ?_
      refine u_aload_n (i := 0) (pc' := 40) dX4_openBracket_39 rfl rfl rfl ?_
      refine u_invV (q' := qX4_advance) (As := []) (st := []) (pc' := 43) dX4_openBracket_40 rfl gX4_advance wm_569 rfl rfl (by decide) kd_77 wm_571 wp_6 rfl (Nat.le_of_ble_eq_true rfl) (M0.mono h (fun v τ6 h => ?_))
      obtain ⟨rfl, h⟩ := h
      show V0 E (d + 1) qX4_openBracket 43 [some (vR 77), some (vI a0)] [] τ6 Q
      refine u_iconst (pc' := 44) dX4_openBracket_43 rfl ?_
      exact u_zret (b := true) dX4_openBracket_44 rfl rfl h
    · have h := h.2 hb
      refine u_aload_n (i := 0) (pc' := 24) dX4_openBracket_23 rfl rfl rfl ?_
      refine u_iconst (pc' := 25) dX4_openBracket_24 rfl ?_
      refine u_invV (q' := qX4_fail) (As := [vI 5]) (st := []) (pc' := 28) dX4_openBracket_25 rfl gX4_fail wm_585 rfl rfl (by decide) kd_77 wm_587 wp_10 rfl (Nat.le_of_ble_eq_true rfl) (M0.mono h (fun v τ7 h => ?_))
      obtain ⟨b8, rfl, h⟩ := h
      show V0 E (d + 1) qX4_openBracket 28 [some (vR 77), some (vI a0)] [vB b8] τ7 Q
      exact u_zret (b := b8) dX4_openBracket_28 rfl rfl h
  · have h := h.2 (bI_0.mp hb)
    refine u_aload_n (i := 0) (pc' := 9) dX4_openBracket_8 rfl rfl rfl ?_
    refine u_iconst (pc' := 10) dX4_openBracket_9 rfl ?_
    refine u_invV (q' := qX4_fail) (As := [vI 1]) (st := []) (pc' := 13) dX4_openBracket_10 rfl gX4_fail wm_585 rfl rfl (by decide) kd_77 wm_587 wp_10 rfl (Nat.le_of_ble_eq_true rfl) (M0.mono h (fun v τ9 h => ?_))
    obtain ⟨b10, rfl, h⟩ := h
    show V0 E (d + 1) qX4_openBracket 13 [some (vR 77), some (vI a0)] [vB b10] τ9 Q
    exact u_zret (b := b10) dX4_openBracket_13 rfl rfl h
theorem mX4_openBracket {E : mm_Env} {d : Nat} {τ : mm_Mem} {Q : mm_Q0} {a0 : Int} (h : M0 E d qX4_seesSign [vR 77, vI a0] τ (fun v τ1 => ∃ b2 : Bool, v = some (vB b2) ∧ ((b2 = true → (((τ1 77 5) < 8 → inR ((τ1 77 5) + 1) ∧ M0 E d qX4_advance [vR 77] (wr τ1 77 5 ((τ1 77 5) + 1)) (fun v τ6 => v = none ∧ Q (some (vB true)) τ6)) ∧ (¬ (τ1 77 5) < 8 → M0 E d qX4_fail [vR 77, vI 5] τ1 (fun v τ7 => ∃ b8 : Bool, v = some (vB b8) ∧ Q (some (vB b8)) τ7)))) ∧ (b2 = false → M0 E d qX4_fail [vR 77, vI 1] τ1 (fun v τ9 => ∃ b10 : Bool, v = some (vB b10) ∧ Q (some (vB b10)) τ9))))) : M0 E (d + 1) qX4_openBracket [vR 77, vI a0] τ Q := M0_of rfl (Nat.le_of_ble_eq_true rfl) [some (vR 77), some (vI a0)] rfl (bX4_openBracket_0  h)
set_option maxRecDepth 20000 in
theorem bX4_closeBracket_0 {E : mm_Env} {d : Nat} {τ : mm_Mem} {Q : mm_Q0} {a0 : Int} (h : M0 E d qX4_seesSign [vR 77, vI a0] τ (fun v τ1 => ∃ b2 : Bool, v = some (vB b2) ∧ ((b2 = true → inR ((τ1 77 5) - 1) ∧ M0 E d qX4_advance [vR 77] (wr τ1 77 5 ((τ1 77 5) - 1)) (fun v τ5 => v = none ∧ Q (some (vB true)) τ5)) ∧ (b2 = false → M0 E d qX4_fail [vR 77, vI 1] τ1 (fun v τ6 => ∃ b7 : Bool, v = some (vB b7) ∧ Q (some (vB b7)) τ6))))) : V0 E (d + 1) qX4_closeBracket 0 [some (vR 77), some (vI a0)] [] τ Q := by
  refine u_aload_n (i := 0) (pc' := 1) dX4_closeBracket_0 rfl rfl rfl ?_
  refine u_iload_n (i := 1) (pc' := 2) dX4_closeBracket_1 rfl rfl rfl ?_
  refine u_invV (q' := qX4_seesSign) (As := [vI a0]) (st := []) (pc' := 5) dX4_closeBracket_2 rfl gX4_seesSign wm_597 rfl rfl (by decide) kd_77 wm_599 wp_13 rfl (Nat.le_of_ble_eq_true rfl) (M0.mono h (fun v τ1 h => ?_))
  obtain ⟨b2, rfl, h⟩ := h
  show V0 E (d + 1) qX4_closeBracket 5 [some (vR 77), some (vI a0)] [vB b2] τ1 Q
  refine u_if_ne (tgt := 14) (pc' := 8) dX4_closeBracket_5 rfl (by decide) (bI_R _) (fun hb => ?_) (fun hb => ?_)
  · have h := h.1 (bI_n0.mp hb)
    refine u_aload_n (i := 0) (pc' := 15) dX4_closeBracket_14 rfl rfl rfl ?_
    refine u_dup (pc' := 16) dX4_closeBracket_15 rfl (fun _ hh => by cases hh) ?_
    refine u_getI (z := (τ1 77 5)) (pc' := 19) dX4_closeBracket_16 rfl fl_TuneDoor_Reader_34 rfl (by decide) (by decide) kd_77 rfl (fun r3 => ?_)
    refine u_iconst (pc' := 20) dX4_closeBracket_19 rfl ?_
    refine u_isub (pc' := 21) dX4_closeBracket_20 rfl ?_
    obtain ⟨c4, h⟩ := h
    refine u_putI (pc' := 24) dX4_closeBracket_21 rfl fl_TuneDoor_Reader_34 rfl rfl (by decide) (by decide) kd_77 c4 ?_
    refine u_aload_n (i := 0) (pc' := 25) dX4_closeBracket_24 rfl rfl rfl ?_
    refine u_invV (q' := qX4_advance) (As := []) (st := []) (pc' := 28) dX4_closeBracket_25 rfl gX4_advance wm_569 rfl rfl (by decide) kd_77 wm_571 wp_6 rfl (Nat.le_of_ble_eq_true rfl) (M0.mono h (fun v τ5 h => ?_))
    obtain ⟨rfl, h⟩ := h
    show V0 E (d + 1) qX4_closeBracket 28 [some (vR 77), some (vI a0)] [] τ5 Q
    refine u_iconst (pc' := 29) dX4_closeBracket_28 rfl ?_
    exact u_zret (b := true) dX4_closeBracket_29 rfl rfl h
  · have h := h.2 (bI_0.mp hb)
    refine u_aload_n (i := 0) (pc' := 9) dX4_closeBracket_8 rfl rfl rfl ?_
    refine u_iconst (pc' := 10) dX4_closeBracket_9 rfl ?_
    refine u_invV (q' := qX4_fail) (As := [vI 1]) (st := []) (pc' := 13) dX4_closeBracket_10 rfl gX4_fail wm_585 rfl rfl (by decide) kd_77 wm_587 wp_10 rfl (Nat.le_of_ble_eq_true rfl) (M0.mono h (fun v τ6 h => ?_))
    obtain ⟨b7, rfl, h⟩ := h
    show V0 E (d + 1) qX4_closeBracket 13 [some (vR 77), some (vI a0)] [vB b7] τ6 Q
    exact u_zret (b := b7) dX4_closeBracket_13 rfl rfl h
theorem mX4_closeBracket {E : mm_Env} {d : Nat} {τ : mm_Mem} {Q : mm_Q0} {a0 : Int} (h : M0 E d qX4_seesSign [vR 77, vI a0] τ (fun v τ1 => ∃ b2 : Bool, v = some (vB b2) ∧ ((b2 = true → inR ((τ1 77 5) - 1) ∧ M0 E d qX4_advance [vR 77] (wr τ1 77 5 ((τ1 77 5) - 1)) (fun v τ5 => v = none ∧ Q (some (vB true)) τ5)) ∧ (b2 = false → M0 E d qX4_fail [vR 77, vI 1] τ1 (fun v τ6 => ∃ b7 : Bool, v = some (vB b7) ∧ Q (some (vB b7)) τ6))))) : M0 E (d + 1) qX4_closeBracket [vR 77, vI a0] τ Q := M0_of rfl (Nat.le_of_ble_eq_true rfl) [some (vR 77), some (vI a0)] rfl (bX4_closeBracket_0  h)
set_option maxRecDepth 20000 in
theorem bX4_readPairOfSums_0 {E : mm_Env} {d : Nat} {τ : mm_Mem} {Q : mm_Q0} {a0 : Int} (h : M0 E d qX4_openBracket [vR 77, vI 40] τ (fun v τ1 => ∃ b2 : Bool, v = some (vB b2) ∧ ((b2 = false → ∃ o3 : Nat, (τ1 77 1) = (o3 : Int) ∧ KD o3 = some (.inr 2) ∧ M0 E d qX5_emit [vR (o3 + 6), vI a0] τ1 (fun v τ6 => v = none ∧ Q (some (vB false)) τ6)) ∧ (b2 = true → M0 E d qX4_readSum [vR 77] τ1 (fun v τ7 => ∃ b8 : Bool, v = some (vB b8) ∧ ((b8 = false → ∃ o9 : Nat, (τ7 77 1) = (o9 : Int) ∧ KD o9 = some (.inr 2) ∧ M0 E d qX5_emit [vR (o9 + 6), vI a0] τ7 (fun v τ12 => v = none ∧ Q (some (vB false)) τ12)) ∧ (b8 = true → M0 E d qX4_readSign [vR 77, vI 44] τ7 (fun v τ13 => ∃ b14 : Bool, v = some (vB b14) ∧ ((b14 = false → ∃ o15 : Nat, (τ13 77 1) = (o15 : Int) ∧ KD o15 = some (.inr 2) ∧ M0 E d qX5_emit [vR (o15 + 6), vI a0] τ13 (fun v τ18 => v = none ∧ Q (some (vB false)) τ18)) ∧ (b14 = true → M0 E d qX4_readSum [vR 77] τ13 (fun v τ19 => ∃ b20 : Bool, v = some (vB b20) ∧ ((b20 = false → ∃ o21 : Nat, (τ19 77 1) = (o21 : Int) ∧ KD o21 = some (.inr 2) ∧ M0 E d qX5_emit [vR (o21 + 6), vI a0] τ19 (fun v τ24 => v = none ∧ Q (some (vB false)) τ24)) ∧ (b20 = true → M0 E d qX4_closeBracket [vR 77, vI 41] τ19 (fun v τ25 => ∃ b26 : Bool, v = some (vB b26) ∧ ((b26 = false → ∃ o27 : Nat, (τ25 77 1) = (o27 : Int) ∧ KD o27 = some (.inr 2) ∧ M0 E d qX5_emit [vR (o27 + 6), vI a0] τ25 (fun v τ30 => v = none ∧ Q (some (vB false)) τ30)) ∧ (b26 = true → ∃ o31 : Nat, (τ25 77 1) = (o31 : Int) ∧ KD o31 = some (.inr 2) ∧ M0 E d qX5_emit [vR (o31 + 6), vI a0] τ25 (fun v τ34 => v = none ∧ Q (some (vB true)) τ34))))))))))))))))) : V0 E (d + 1) qX4_readPairOfSums 0 [some (vR 77), some (vI a0), none] [] τ Q := by
  refine u_aload_n (i := 0) (pc' := 1) dX4_readPairOfSums_0 rfl rfl rfl ?_
  refine u_bipush (pc' := 3) dX4_readPairOfSums_1 rfl (by decide) ?_
  refine u_invV (q' := qX4_openBracket) (As := [vI 40]) (st := []) (pc' := 6) dX4_readPairOfSums_3 rfl gX4_openBracket wm_664 rfl rfl (by decide) kd_77 wm_666 wp_22 rfl (Nat.le_of_ble_eq_true rfl) (M0.mono h (fun v τ1 h => ?_))
  obtain ⟨b2, rfl, h⟩ := h
  show V0 E (d + 1) qX4_readPairOfSums 6 [some (vR 77), some (vI a0), none] [vB b2] τ1 Q
  refine u_if_eq (tgt := 45) (pc' := 9) dX4_readPairOfSums_6 rfl (by decide) (bI_R _) (fun hb => ?_) (fun hb => ?_)
  · have h := h.1 (bI_0.mp hb)
    refine u_iconst (pc' := 46) dX4_readPairOfSums_45 rfl ?_
    refine s_istore_n (i := 2) (ls' := [some (vR 77), some (vI a0), some (vI 0)]) (pc' := 47) dX4_readPairOfSums_46 rfl rfl (Nat.le_of_ble_eq_true rfl) rfl rfl ?_
    refine u_aload_n (i := 0) (pc' := 48) dX4_readPairOfSums_47 rfl rfl rfl ?_
    obtain ⟨o3, z4, k5, h⟩ := h
    refine u_getD (a := o3) (pc' := 51) dX4_readPairOfSums_48 rfl fl_TuneDoor_Reader_19 rfl (by decide) kd_77 rfl (z4) ?_
    refine u_getR (a := (o3 + 6)) (pc' := 54) dX4_readPairOfSums_51 rfl fl_TuneDoor_Reader_202 rfl (kHouse k5).1 k5 (kHouse k5).2.2.2.2.2.2.1 ?_
    refine u_iload_n (i := 1) (pc' := 55) dX4_readPairOfSums_54 rfl rfl rfl ?_
    refine u_invV (q' := qX5_emit) (As := [vI a0]) (st := []) (pc' := 58) dX4_readPairOfSums_55 rfl gX5_emit wm_672 rfl rfl (Nat.le_trans (kHouse k5).1 (Nat.le_add_right _ _)) (kHouse k5).2.2.2.2.2.2.2.2.2.2.2.2.1 wm_673 wm_674 rfl (Nat.le_of_ble_eq_true rfl) (M0.mono h (fun v τ6 h => ?_))
    obtain ⟨rfl, h⟩ := h
    show V0 E (d + 1) qX4_readPairOfSums 58 [some (vR 77), some (vI a0), some (vI 0)] [] τ6 Q
    refine u_iload_n (i := 2) (pc' := 59) dX4_readPairOfSums_58 rfl rfl rfl ?_
    exact u_zret (b := false) dX4_readPairOfSums_59 rfl rfl h
  · have h := h.2 (bI_n0.mp hb)
    refine u_aload_n (i := 0) (pc' := 10) dX4_readPairOfSums_9 rfl rfl rfl ?_
    refine u_invV (q' := qX4_readSum) (As := []) (st := []) (pc' := 13) dX4_readPairOfSums_10 rfl gX4_readSum wm_652 rfl rfl (by decide) kd_77 wm_654 wp_19 rfl (Nat.le_of_ble_eq_true rfl) (M0.mono h (fun v τ7 h => ?_))
    obtain ⟨b8, rfl, h⟩ := h
    show V0 E (d + 1) qX4_readPairOfSums 13 [some (vR 77), some (vI a0), none] [vB b8] τ7 Q
    refine u_if_eq (tgt := 45) (pc' := 16) dX4_readPairOfSums_13 rfl (by decide) (bI_R _) (fun hb => ?_) (fun hb => ?_)
    · have h := h.1 (bI_0.mp hb)
      refine u_iconst (pc' := 46) dX4_readPairOfSums_45 rfl ?_
      refine s_istore_n (i := 2) (ls' := [some (vR 77), some (vI a0), some (vI 0)]) (pc' := 47) dX4_readPairOfSums_46 rfl rfl (Nat.le_of_ble_eq_true rfl) rfl rfl ?_
      refine u_aload_n (i := 0) (pc' := 48) dX4_readPairOfSums_47 rfl rfl rfl ?_
      obtain ⟨o9, z10, k11, h⟩ := h
      refine u_getD (a := o9) (pc' := 51) dX4_readPairOfSums_48 rfl fl_TuneDoor_Reader_19 rfl (by decide) kd_77 rfl (z10) ?_
      refine u_getR (a := (o9 + 6)) (pc' := 54) dX4_readPairOfSums_51 rfl fl_TuneDoor_Reader_202 rfl (kHouse k11).1 k11 (kHouse k11).2.2.2.2.2.2.1 ?_
      refine u_iload_n (i := 1) (pc' := 55) dX4_readPairOfSums_54 rfl rfl rfl ?_
      refine u_invV (q' := qX5_emit) (As := [vI a0]) (st := []) (pc' := 58) dX4_readPairOfSums_55 rfl gX5_emit wm_672 rfl rfl (Nat.le_trans (kHouse k11).1 (Nat.le_add_right _ _)) (kHouse k11).2.2.2.2.2.2.2.2.2.2.2.2.1 wm_673 wm_674 rfl (Nat.le_of_ble_eq_true rfl) (M0.mono h (fun v τ12 h => ?_))
      obtain ⟨rfl, h⟩ := h
      show V0 E (d + 1) qX4_readPairOfSums 58 [some (vR 77), some (vI a0), some (vI 0)] [] τ12 Q
      refine u_iload_n (i := 2) (pc' := 59) dX4_readPairOfSums_58 rfl rfl rfl ?_
      exact u_zret (b := false) dX4_readPairOfSums_59 rfl rfl h
    · have h := h.2 (bI_n0.mp hb)
      refine u_aload_n (i := 0) (pc' := 17) dX4_readPairOfSums_16 rfl rfl rfl ?_
      refine u_bipush (pc' := 19) dX4_readPairOfSums_17 rfl (by decide) ?_
      refine u_invV (q' := qX4_readSign) (As := [vI 44]) (st := []) (pc' := 22) dX4_readPairOfSums_19 rfl gX4_readSign wm_593 rfl rfl (by decide) kd_77 wm_595 wp_12 rfl (Nat.le_of_ble_eq_true rfl) (M0.mono h (fun v τ13 h => ?_))
      obtain ⟨b14, rfl, h⟩ := h
      show V0 E (d + 1) qX4_readPairOfSums 22 [some (vR 77), some (vI a0), none] [vB b14] τ13 Q
      refine u_if_eq (tgt := 45) (pc' := 25) dX4_readPairOfSums_22 rfl (by decide) (bI_R _) (fun hb => ?_) (fun hb => ?_)
      · have h := h.1 (bI_0.mp hb)
        refine u_iconst (pc' := 46) dX4_readPairOfSums_45 rfl ?_
        refine s_istore_n (i := 2) (ls' := [some (vR 77), some (vI a0), some (vI 0)]) (pc' := 47) dX4_readPairOfSums_46 rfl rfl (Nat.le_of_ble_eq_true rfl) rfl rfl ?_
        refine u_aload_n (i := 0) (pc' := 48) dX4_readPairOfSums_47 rfl rfl rfl ?_
        obtain ⟨o15, z16, k17, h⟩ := h
        refine u_getD (a := o15) (pc' := 51) dX4_readPairOfSums_48 rfl fl_TuneDoor_Reader_19 rfl (by decide) kd_77 rfl (z16) ?_
        refine u_getR (a := (o15 + 6)) (pc' := 54) dX4_readPairOfSums_51 rfl fl_TuneDoor_Reader_202 rfl (kHouse k17).1 k17 (kHouse k17).2.2.2.2.2.2.1 ?_
        refine u_iload_n (i := 1) (pc' := 55) dX4_readPairOfSums_54 rfl rfl rfl ?_
        refine u_invV (q' := qX5_emit) (As := [vI a0]) (st := []) (pc' := 58) dX4_readPairOfSums_55 rfl gX5_emit wm_672 rfl rfl (Nat.le_trans (kHouse k17).1 (Nat.le_add_right _ _)) (kHouse k17).2.2.2.2.2.2.2.2.2.2.2.2.1 wm_673 wm_674 rfl (Nat.le_of_ble_eq_true rfl) (M0.mono h (fun v τ18 h => ?_))
        obtain ⟨rfl, h⟩ := h
        show V0 E (d + 1) qX4_readPairOfSums 58 [some (vR 77), some (vI a0), some (vI 0)] [] τ18 Q
        refine u_iload_n (i := 2) (pc' := 59) dX4_readPairOfSums_58 rfl rfl rfl ?_
        exact u_zret (b := false) dX4_readPairOfSums_59 rfl rfl h
      · have h := h.2 (bI_n0.mp hb)
        refine u_aload_n (i := 0) (pc' := 26) dX4_readPairOfSums_25 rfl rfl rfl ?_
        refine u_invV (q' := qX4_readSum) (As := []) (st := []) (pc' := 29) dX4_readPairOfSums_26 rfl gX4_readSum wm_652 rfl rfl (by decide) kd_77 wm_654 wp_19 rfl (Nat.le_of_ble_eq_true rfl) (M0.mono h (fun v τ19 h => ?_))
        obtain ⟨b20, rfl, h⟩ := h
        show V0 E (d + 1) qX4_readPairOfSums 29 [some (vR 77), some (vI a0), none] [vB b20] τ19 Q
        refine u_if_eq (tgt := 45) (pc' := 32) dX4_readPairOfSums_29 rfl (by decide) (bI_R _) (fun hb => ?_) (fun hb => ?_)
        · have h := h.1 (bI_0.mp hb)
          refine u_iconst (pc' := 46) dX4_readPairOfSums_45 rfl ?_
          refine s_istore_n (i := 2) (ls' := [some (vR 77), some (vI a0), some (vI 0)]) (pc' := 47) dX4_readPairOfSums_46 rfl rfl (Nat.le_of_ble_eq_true rfl) rfl rfl ?_
          refine u_aload_n (i := 0) (pc' := 48) dX4_readPairOfSums_47 rfl rfl rfl ?_
          obtain ⟨o21, z22, k23, h⟩ := h
          refine u_getD (a := o21) (pc' := 51) dX4_readPairOfSums_48 rfl fl_TuneDoor_Reader_19 rfl (by decide) kd_77 rfl (z22) ?_
          refine u_getR (a := (o21 + 6)) (pc' := 54) dX4_readPairOfSums_51 rfl fl_TuneDoor_Reader_202 rfl (kHouse k23).1 k23 (kHouse k23).2.2.2.2.2.2.1 ?_
          refine u_iload_n (i := 1) (pc' := 55) dX4_readPairOfSums_54 rfl rfl rfl ?_
          refine u_invV (q' := qX5_emit) (As := [vI a0]) (st := []) (pc' := 58) dX4_readPairOfSums_55 rfl gX5_emit wm_672 rfl rfl (Nat.le_trans (kHouse k23).1 (Nat.le_add_right _ _)) (kHouse k23).2.2.2.2.2.2.2.2.2.2.2.2.1 wm_673 wm_674 rfl (Nat.le_of_ble_eq_true rfl) (M0.mono h (fun v τ24 h => ?_))
          obtain ⟨rfl, h⟩ := h
          show V0 E (d + 1) qX4_readPairOfSums 58 [some (vR 77), some (vI a0), some (vI 0)] [] τ24 Q
          refine u_iload_n (i := 2) (pc' := 59) dX4_readPairOfSums_58 rfl rfl rfl ?_
          exact u_zret (b := false) dX4_readPairOfSums_59 rfl rfl h
        · have h := h.2 (bI_n0.mp hb)
          refine u_aload_n (i := 0) (pc' := 33) dX4_readPairOfSums_32 rfl rfl rfl ?_
          refine u_bipush (pc' := 35) dX4_readPairOfSums_33 rfl (by decide) ?_
          refine u_invV (q' := qX4_closeBracket) (As := [vI 41]) (st := []) (pc' := 38) dX4_readPairOfSums_35 rfl gX4_closeBracket wm_668 rfl rfl (by decide) kd_77 wm_670 wp_23 rfl (Nat.le_of_ble_eq_true rfl) (M0.mono h (fun v τ25 h => ?_))
          obtain ⟨b26, rfl, h⟩ := h
          show V0 E (d + 1) qX4_readPairOfSums 38 [some (vR 77), some (vI a0), none] [vB b26] τ25 Q
          refine u_if_eq (tgt := 45) (pc' := 41) dX4_readPairOfSums_38 rfl (by decide) (bI_R _) (fun hb => ?_) (fun hb => ?_)
          · have h := h.1 (bI_0.mp hb)
            refine u_iconst (pc' := 46) dX4_readPairOfSums_45 rfl ?_
            refine s_istore_n (i := 2) (ls' := [some (vR 77), some (vI a0), some (vI 0)]) (pc' := 47) dX4_readPairOfSums_46 rfl rfl (Nat.le_of_ble_eq_true rfl) rfl rfl ?_
            refine u_aload_n (i := 0) (pc' := 48) dX4_readPairOfSums_47 rfl rfl rfl ?_
            obtain ⟨o27, z28, k29, h⟩ := h
            refine u_getD (a := o27) (pc' := 51) dX4_readPairOfSums_48 rfl fl_TuneDoor_Reader_19 rfl (by decide) kd_77 rfl (z28) ?_
            refine u_getR (a := (o27 + 6)) (pc' := 54) dX4_readPairOfSums_51 rfl fl_TuneDoor_Reader_202 rfl (kHouse k29).1 k29 (kHouse k29).2.2.2.2.2.2.1 ?_
            refine u_iload_n (i := 1) (pc' := 55) dX4_readPairOfSums_54 rfl rfl rfl ?_
            refine u_invV (q' := qX5_emit) (As := [vI a0]) (st := []) (pc' := 58) dX4_readPairOfSums_55 rfl gX5_emit wm_672 rfl rfl (Nat.le_trans (kHouse k29).1 (Nat.le_add_right _ _)) (kHouse k29).2.2.2.2.2.2.2.2.2.2.2.2.1 wm_673 wm_674 rfl (Nat.le_of_ble_eq_true rfl) (M0.mono h (fun v τ30 h => ?_))
            obtain ⟨rfl, h⟩ := h
            show V0 E (d + 1) qX4_readPairOfSums 58 [some (vR 77), some (vI a0), some (vI 0)] [] τ30 Q
            refine u_iload_n (i := 2) (pc' := 59) dX4_readPairOfSums_58 rfl rfl rfl ?_
            exact u_zret (b := false) dX4_readPairOfSums_59 rfl rfl h
          · have h := h.2 (bI_n0.mp hb)
            refine u_iconst (pc' := 42) dX4_readPairOfSums_41 rfl ?_
            refine u_goto (tgt := 46) dX4_readPairOfSums_42 (by decide) ?_
            refine s_istore_n (i := 2) (ls' := [some (vR 77), some (vI a0), some (vI 1)]) (pc' := 47) dX4_readPairOfSums_46 rfl rfl (Nat.le_of_ble_eq_true rfl) rfl rfl ?_
            refine u_aload_n (i := 0) (pc' := 48) dX4_readPairOfSums_47 rfl rfl rfl ?_
            obtain ⟨o31, z32, k33, h⟩ := h
            refine u_getD (a := o31) (pc' := 51) dX4_readPairOfSums_48 rfl fl_TuneDoor_Reader_19 rfl (by decide) kd_77 rfl (z32) ?_
            refine u_getR (a := (o31 + 6)) (pc' := 54) dX4_readPairOfSums_51 rfl fl_TuneDoor_Reader_202 rfl (kHouse k33).1 k33 (kHouse k33).2.2.2.2.2.2.1 ?_
            refine u_iload_n (i := 1) (pc' := 55) dX4_readPairOfSums_54 rfl rfl rfl ?_
            refine u_invV (q' := qX5_emit) (As := [vI a0]) (st := []) (pc' := 58) dX4_readPairOfSums_55 rfl gX5_emit wm_672 rfl rfl (Nat.le_trans (kHouse k33).1 (Nat.le_add_right _ _)) (kHouse k33).2.2.2.2.2.2.2.2.2.2.2.2.1 wm_673 wm_674 rfl (Nat.le_of_ble_eq_true rfl) (M0.mono h (fun v τ34 h => ?_))
            obtain ⟨rfl, h⟩ := h
            show V0 E (d + 1) qX4_readPairOfSums 58 [some (vR 77), some (vI a0), some (vI 1)] [] τ34 Q
            refine u_iload_n (i := 2) (pc' := 59) dX4_readPairOfSums_58 rfl rfl rfl ?_
            exact u_zret (b := true) dX4_readPairOfSums_59 rfl rfl h
theorem mX4_readPairOfSums {E : mm_Env} {d : Nat} {τ : mm_Mem} {Q : mm_Q0} {a0 : Int} (h : M0 E d qX4_openBracket [vR 77, vI 40] τ (fun v τ1 => ∃ b2 : Bool, v = some (vB b2) ∧ ((b2 = false → ∃ o3 : Nat, (τ1 77 1) = (o3 : Int) ∧ KD o3 = some (.inr 2) ∧ M0 E d qX5_emit [vR (o3 + 6), vI a0] τ1 (fun v τ6 => v = none ∧ Q (some (vB false)) τ6)) ∧ (b2 = true → M0 E d qX4_readSum [vR 77] τ1 (fun v τ7 => ∃ b8 : Bool, v = some (vB b8) ∧ ((b8 = false → ∃ o9 : Nat, (τ7 77 1) = (o9 : Int) ∧ KD o9 = some (.inr 2) ∧ M0 E d qX5_emit [vR (o9 + 6), vI a0] τ7 (fun v τ12 => v = none ∧ Q (some (vB false)) τ12)) ∧ (b8 = true → M0 E d qX4_readSign [vR 77, vI 44] τ7 (fun v τ13 => ∃ b14 : Bool, v = some (vB b14) ∧ ((b14 = false → ∃ o15 : Nat, (τ13 77 1) = (o15 : Int) ∧ KD o15 = some (.inr 2) ∧ M0 E d qX5_emit [vR (o15 + 6), vI a0] τ13 (fun v τ18 => v = none ∧ Q (some (vB false)) τ18)) ∧ (b14 = true → M0 E d qX4_readSum [vR 77] τ13 (fun v τ19 => ∃ b20 : Bool, v = some (vB b20) ∧ ((b20 = false → ∃ o21 : Nat, (τ19 77 1) = (o21 : Int) ∧ KD o21 = some (.inr 2) ∧ M0 E d qX5_emit [vR (o21 + 6), vI a0] τ19 (fun v τ24 => v = none ∧ Q (some (vB false)) τ24)) ∧ (b20 = true → M0 E d qX4_closeBracket [vR 77, vI 41] τ19 (fun v τ25 => ∃ b26 : Bool, v = some (vB b26) ∧ ((b26 = false → ∃ o27 : Nat, (τ25 77 1) = (o27 : Int) ∧ KD o27 = some (.inr 2) ∧ M0 E d qX5_emit [vR (o27 + 6), vI a0] τ25 (fun v τ30 => v = none ∧ Q (some (vB false)) τ30)) ∧ (b26 = true → ∃ o31 : Nat, (τ25 77 1) = (o31 : Int) ∧ KD o31 = some (.inr 2) ∧ M0 E d qX5_emit [vR (o31 + 6), vI a0] τ25 (fun v τ34 => v = none ∧ Q (some (vB true)) τ34))))))))))))))))) : M0 E (d + 1) qX4_readPairOfSums [vR 77, vI a0] τ Q := M0_of rfl (Nat.le_of_ble_eq_true rfl) [some (vR 77), some (vI a0), none] rfl (bX4_readPairOfSums_0  h)
set_option maxRecDepth 20000 in
theorem bX4_readTest_0 {E : mm_Env} {d : Nat} {τ : mm_Mem} {Q : mm_Q0}  (h : M0 E d qX4_readBoth [vR 77] τ (fun v τ1 => ∃ b2 : Bool, v = some (vB b2) ∧ V0 E (d + 1) qX4_readTest 7 [some (vR 77), some (vB b2), some (vI 0)] [] τ1 Q)) : V0 E (d + 1) qX4_readTest 0 [some (vR 77), none, none] [] τ Q := by
  refine u_aload_n (i := 0) (pc' := 1) dX4_readTest_0 rfl rfl rfl ?_
  refine u_invV (q' := qX4_readBoth) (As := []) (st := []) (pc' := 4) dX4_readTest_1 rfl gX4_readBoth wm_688 rfl rfl (by decide) kd_77 wm_690 wp_26 rfl (Nat.le_of_ble_eq_true rfl) (M0.mono h (fun v τ1 h => ?_))
  obtain ⟨b2, rfl, h⟩ := h
  show V0 E (d + 1) qX4_readTest 4 [some (vR 77), none, none] [vB b2] τ1 Q
  refine s_istore_n (i := 1) (ls' := [some (vR 77), some (vB b2), none]) (pc' := 5) dX4_readTest_4 rfl rfl (Nat.le_of_ble_eq_true rfl) rfl rfl ?_
  refine u_iconst (pc' := 6) dX4_readTest_5 rfl ?_
  refine s_istore_n (i := 2) (ls' := [some (vR 77), some (vB b2), some (vI 0)]) (pc' := 7) dX4_readTest_6 rfl rfl (Nat.le_of_ble_eq_true rfl) rfl rfl ?_
  exact u_less (ls' := [some (vR 77), some (vB b2), some (vI 0)]) ⟨rfl, ⟨rfl, ⟨rfl, trivial⟩⟩⟩ h
theorem mX4_readTest {E : mm_Env} {d : Nat} {τ : mm_Mem} {Q : mm_Q0}  (h : M0 E d qX4_readBoth [vR 77] τ (fun v τ1 => ∃ b2 : Bool, v = some (vB b2) ∧ V0 E (d + 1) qX4_readTest 7 [some (vR 77), some (vB b2), some (vI 0)] [] τ1 Q)) : M0 E (d + 1) qX4_readTest [vR 77] τ Q := M0_of rfl (Nat.le_of_ble_eq_true rfl) [some (vR 77), none, none] rfl (bX4_readTest_0  h)
set_option maxRecDepth 20000 in
theorem bX4_readTest_7 {E : mm_Env} {d : Nat} {τ : mm_Mem} {Q : mm_Q0} {x1 : Bool} {x2 : Int} (h : inR x2 ∧ ((1600 ≤ x2 → Q (some (vB x1)) τ) ∧ (¬ 1600 ≤ x2 → ((x1 = false → Q (some (vB x1)) τ) ∧ (x1 = true → M0 E d qX4_seesWord [vR 77, vI 18] τ (fun v τ2 => ∃ b3 : Bool, v = some (vB b3) ∧ ((b3 = false → Q (some (vB x1)) τ2) ∧ (b3 = true → M0 E d qX4_advance [vR 77] τ2 (fun v τ4 => v = none ∧ M0 E d qX4_readBoth [vR 77] τ4 (fun v τ5 => ∃ b6 : Bool, v = some (vB b6) ∧ ∃ o7 : Nat, (τ5 77 1) = (o7 : Int) ∧ KD o7 = some (.inr 2) ∧ M0 E d qX5_emit [vR (o7 + 6), vI (-19)] τ5 (fun v τ10 => v = none ∧ V0 E (d + 1) qX4_readTest 7 [some (vR 77), some (vB b6), some (vI (x2 + 1))] [] τ10 Q))))))))))) : V0 E (d + 1) qX4_readTest 7 [some (vR 77), some (vB x1), some (vI x2)] [] τ Q := by
  refine u_iload_n (i := 2) (pc' := 8) dX4_readTest_7 rfl rfl rfl ?_
  refine u_sipush (pc' := 11) dX4_readTest_8 rfl (by decide) ?_
  obtain ⟨c1, h⟩ := h
  refine u_icmp_ge (tgt := 54) (pc' := 14) dX4_readTest_11 rfl (by decide) c1 ⟨by decide, by decide⟩ (fun hb => ?_) (fun hb => ?_)
  · have h := h.1 hb
    refine u_iload_n (i := 1) (pc' := 55) dX4_readTest_54 rfl rfl rfl ?_
    exact u_zret (b := x1) dX4_readTest_55 rfl rfl h
  · have h := h.2 hb
    refine u_iload_n (i := 1) (pc' := 15) dX4_readTest_14 rfl rfl rfl ?_
    refine u_if_eq (tgt := 54) (pc' := 18) dX4_readTest_15 rfl (by decide) (bI_R _) (fun hb => ?_) (fun hb => ?_)
    · have h := h.1 (bI_0.mp hb)
      refine u_iload_n (i := 1) (pc' := 55) dX4_readTest_54 rfl rfl rfl ?_
      exact u_zret (b := x1) dX4_readTest_55 rfl rfl h
    · have h := h.2 (bI_n0.mp hb)
      refine u_aload_n (i := 0) (pc' := 19) dX4_readTest_18 rfl rfl rfl ?_
      refine u_bipush (pc' := 21) dX4_readTest_19 rfl (by decide) ?_
      refine u_invV (q' := qX4_seesWord) (As := [vI 18]) (st := []) (pc' := 24) dX4_readTest_21 rfl gX4_seesWord wm_581 rfl rfl (by decide) kd_77 wm_583 wp_9 rfl (Nat.le_of_ble_eq_true rfl) (M0.mono h (fun v τ2 h => ?_))
      obtain ⟨b3, rfl, h⟩ := h
      show V0 E (d + 1) qX4_readTest 24 [some (vR 77), some (vB x1), some (vI x2)] [vB b3] τ2 Q
      refine u_if_eq (tgt := 54) (pc' := 27) dX4_readTest_24 rfl (by decide) (bI_R _) (fun hb => ?_) (fun hb => ?_)
      · have h := h.1 (bI_0.mp hb)
        refine u_iload_n (i := 1) (pc' := 55) dX4_readTest_54 rfl rfl rfl ?_
        exact u_zret (b := x1) dX4_readTest_55 rfl rfl h
      · have h := h.2 (bI_n0.mp hb)
        refine u_aload_n (i := 0) (pc' := 28) dX4_readTest_27 rfl rfl rfl ?_
        refine u_invV (q' := qX4_advance) (As := []) (st := []) (pc' := 31) dX4_readTest_28 rfl gX4_advance wm_569 rfl rfl (by decide) kd_77 wm_571 wp_6 rfl (Nat.le_of_ble_eq_true rfl) (M0.mono h (fun v τ4 h => ?_))
        obtain ⟨rfl, h⟩ := h
        show V0 E (d + 1) qX4_readTest 31 [some (vR 77), some (vB x1), some (vI x2)] [] τ4 Q
        refine u_aload_n (i := 0) (pc' := 32) dX4_readTest_31 rfl rfl rfl ?_
        refine u_invV (q' := qX4_readBoth) (As := []) (st := []) (pc' := 35) dX4_readTest_32 rfl gX4_readBoth wm_688 rfl rfl (by decide) kd_77 wm_690 wp_26 rfl (Nat.le_of_ble_eq_true rfl) (M0.mono h (fun v τ5 h => ?_))
        obtain ⟨b6, rfl, h⟩ := h
        show V0 E (d + 1) qX4_readTest 35 [some (vR 77), some (vB x1), some (vI x2)] [vB b6] τ5 Q
        refine s_istore_n (i := 1) (ls' := [some (vR 77), some (vB b6), some (vI x2)]) (pc' := 36) dX4_readTest_35 rfl rfl (Nat.le_of_ble_eq_true rfl) rfl rfl ?_
        refine u_aload_n (i := 0) (pc' := 37) dX4_readTest_36 rfl rfl rfl ?_
        obtain ⟨o7, z8, k9, h⟩ := h
        refine u_getD (a := o7) (pc' := 40) dX4_readTest_37 rfl fl_TuneDoor_Reader_19 rfl (by decide) kd_77 rfl (z8) ?_
        refine u_getR (a := (o7 + 6)) (pc' := 43) dX4_readTest_40 rfl fl_TuneDoor_Reader_202 rfl (kHouse k9).1 k9 (kHouse k9).2.2.2.2.2.2.1 ?_
        refine u_bipush (pc' := 45) dX4_readTest_43 rfl (by decide) ?_
        refine u_invV (q' := qX5_emit) (As := [vI (-19)]) (st := []) (pc' := 48) dX4_readTest_45 rfl gX5_emit wm_672 rfl rfl (Nat.le_trans (kHouse k9).1 (Nat.le_add_right _ _)) (kHouse k9).2.2.2.2.2.2.2.2.2.2.2.2.1 wm_673 wm_674 rfl (Nat.le_of_ble_eq_true rfl) (M0.mono h (fun v τ10 h => ?_))
        obtain ⟨rfl, h⟩ := h
        show V0 E (d + 1) qX4_readTest 48 [some (vR 77), some (vB b6), some (vI x2)] [] τ10 Q
        refine s_iinc (i := 2) (ls' := [some (vR 77), some (vB b6), some (vI (x2 + 1))]) (pc' := 51) dX4_readTest_48 rfl rfl (Nat.le_of_ble_eq_true rfl) rfl rfl ?_
        refine u_goto (tgt := 7) dX4_readTest_51 (by decide) ?_
        exact u_less (ls' := [some (vR 77), some (vB b6), some (vI (x2 + 1))]) ⟨rfl, ⟨rfl, ⟨rfl, trivial⟩⟩⟩ h
set_option maxRecDepth 20000 in
theorem bX4_readBoth_0 {E : mm_Env} {d : Nat} {τ : mm_Mem} {Q : mm_Q0}  (h : M0 E d qX4_readFact [vR 77] τ (fun v τ1 => ∃ b2 : Bool, v = some (vB b2) ∧ V0 E (d + 1) qX4_readBoth 7 [some (vR 77), some (vB b2), some (vI 0)] [] τ1 Q)) : V0 E (d + 1) qX4_readBoth 0 [some (vR 77), none, none] [] τ Q := by
  refine u_aload_n (i := 0) (pc' := 1) dX4_readBoth_0 rfl rfl rfl ?_
  refine u_invV (q' := qX4_readFact) (As := []) (st := []) (pc' := 4) dX4_readBoth_1 rfl gX4_readFact wm_692 rfl rfl (by decide) kd_77 wm_694 wp_27 rfl (Nat.le_of_ble_eq_true rfl) (M0.mono h (fun v τ1 h => ?_))
  obtain ⟨b2, rfl, h⟩ := h
  show V0 E (d + 1) qX4_readBoth 4 [some (vR 77), none, none] [vB b2] τ1 Q
  refine s_istore_n (i := 1) (ls' := [some (vR 77), some (vB b2), none]) (pc' := 5) dX4_readBoth_4 rfl rfl (Nat.le_of_ble_eq_true rfl) rfl rfl ?_
  refine u_iconst (pc' := 6) dX4_readBoth_5 rfl ?_
  refine s_istore_n (i := 2) (ls' := [some (vR 77), some (vB b2), some (vI 0)]) (pc' := 7) dX4_readBoth_6 rfl rfl (Nat.le_of_ble_eq_true rfl) rfl rfl ?_
  exact u_less (ls' := [some (vR 77), some (vB b2), some (vI 0)]) ⟨rfl, ⟨rfl, ⟨rfl, trivial⟩⟩⟩ h
theorem mX4_readBoth {E : mm_Env} {d : Nat} {τ : mm_Mem} {Q : mm_Q0}  (h : M0 E d qX4_readFact [vR 77] τ (fun v τ1 => ∃ b2 : Bool, v = some (vB b2) ∧ V0 E (d + 1) qX4_readBoth 7 [some (vR 77), some (vB b2), some (vI 0)] [] τ1 Q)) : M0 E (d + 1) qX4_readBoth [vR 77] τ Q := M0_of rfl (Nat.le_of_ble_eq_true rfl) [some (vR 77), none, none] rfl (bX4_readBoth_0  h)
set_option maxRecDepth 20000 in
theorem bX4_readBoth_7 {E : mm_Env} {d : Nat} {τ : mm_Mem} {Q : mm_Q0} {x1 : Bool} {x2 : Int} (h : inR x2 ∧ ((1600 ≤ x2 → Q (some (vB x1)) τ) ∧ (¬ 1600 ≤ x2 → ((x1 = false → Q (some (vB x1)) τ) ∧ (x1 = true → M0 E d qX4_seesWord [vR 77, vI 19] τ (fun v τ2 => ∃ b3 : Bool, v = some (vB b3) ∧ ((b3 = false → Q (some (vB x1)) τ2) ∧ (b3 = true → M0 E d qX4_advance [vR 77] τ2 (fun v τ4 => v = none ∧ M0 E d qX4_readFact [vR 77] τ4 (fun v τ5 => ∃ b6 : Bool, v = some (vB b6) ∧ ∃ o7 : Nat, (τ5 77 1) = (o7 : Int) ∧ KD o7 = some (.inr 2) ∧ M0 E d qX5_emit [vR (o7 + 6), vI (-18)] τ5 (fun v τ10 => v = none ∧ V0 E (d + 1) qX4_readBoth 7 [some (vR 77), some (vB b6), some (vI (x2 + 1))] [] τ10 Q))))))))))) : V0 E (d + 1) qX4_readBoth 7 [some (vR 77), some (vB x1), some (vI x2)] [] τ Q := by
  refine u_iload_n (i := 2) (pc' := 8) dX4_readBoth_7 rfl rfl rfl ?_
  refine u_sipush (pc' := 11) dX4_readBoth_8 rfl (by decide) ?_
  obtain ⟨c1, h⟩ := h
  refine u_icmp_ge (tgt := 54) (pc' := 14) dX4_readBoth_11 rfl (by decide) c1 ⟨by decide, by decide⟩ (fun hb => ?_) (fun hb => ?_)
  · have h := h.1 hb
    refine u_iload_n (i := 1) (pc' := 55) dX4_readBoth_54 rfl rfl rfl ?_
    exact u_zret (b := x1) dX4_readBoth_55 rfl rfl h
  · have h := h.2 hb
    refine u_iload_n (i := 1) (pc' := 15) dX4_readBoth_14 rfl rfl rfl ?_
    refine u_if_eq (tgt := 54) (pc' := 18) dX4_readBoth_15 rfl (by decide) (bI_R _) (fun hb => ?_) (fun hb => ?_)
    · have h := h.1 (bI_0.mp hb)
      refine u_iload_n (i := 1) (pc' := 55) dX4_readBoth_54 rfl rfl rfl ?_
      exact u_zret (b := x1) dX4_readBoth_55 rfl rfl h
    · have h := h.2 (bI_n0.mp hb)
      refine u_aload_n (i := 0) (pc' := 19) dX4_readBoth_18 rfl rfl rfl ?_
      refine u_bipush (pc' := 21) dX4_readBoth_19 rfl (by decide) ?_
      refine u_invV (q' := qX4_seesWord) (As := [vI 19]) (st := []) (pc' := 24) dX4_readBoth_21 rfl gX4_seesWord wm_581 rfl rfl (by decide) kd_77 wm_583 wp_9 rfl (Nat.le_of_ble_eq_true rfl) (M0.mono h (fun v τ2 h => ?_))
      obtain ⟨b3, rfl, h⟩ := h
      show V0 E (d + 1) qX4_readBoth 24 [some (vR 77), some (vB x1), some (vI x2)] [vB b3] τ2 Q
      refine u_if_eq (tgt := 54) (pc' := 27) dX4_readBoth_24 rfl (by decide) (bI_R _) (fun hb => ?_) (fun hb => ?_)
      · have h := h.1 (bI_0.mp hb)
        refine u_iload_n (i := 1) (pc' := 55) dX4_readBoth_54 rfl rfl rfl ?_
        exact u_zret (b := x1) dX4_readBoth_55 rfl rfl h
      · have h := h.2 (bI_n0.mp hb)
        refine u_aload_n (i := 0) (pc' := 28) dX4_readBoth_27 rfl rfl rfl ?_
        refine u_invV (q' := qX4_advance) (As := []) (st := []) (pc' := 31) dX4_readBoth_28 rfl gX4_advance wm_569 rfl rfl (by decide) kd_77 wm_571 wp_6 rfl (Nat.le_of_ble_eq_true rfl) (M0.mono h (fun v τ4 h => ?_))
        obtain ⟨rfl, h⟩ := h
        show V0 E (d + 1) qX4_readBoth 31 [some (vR 77), some (vB x1), some (vI x2)] [] τ4 Q
        refine u_aload_n (i := 0) (pc' := 32) dX4_readBoth_31 rfl rfl rfl ?_
        refine u_invV (q' := qX4_readFact) (As := []) (st := []) (pc' := 35) dX4_readBoth_32 rfl gX4_readFact wm_692 rfl rfl (by decide) kd_77 wm_694 wp_27 rfl (Nat.le_of_ble_eq_true rfl) (M0.mono h (fun v τ5 h => ?_))
        obtain ⟨b6, rfl, h⟩ := h
        show V0 E (d + 1) qX4_readBoth 35 [some (vR 77), some (vB x1), some (vI x2)] [vB b6] τ5 Q
        refine s_istore_n (i := 1) (ls' := [some (vR 77), some (vB b6), some (vI x2)]) (pc' := 36) dX4_readBoth_35 rfl rfl (Nat.le_of_ble_eq_true rfl) rfl rfl ?_
        refine u_aload_n (i := 0) (pc' := 37) dX4_readBoth_36 rfl rfl rfl ?_
        obtain ⟨o7, z8, k9, h⟩ := h
        refine u_getD (a := o7) (pc' := 40) dX4_readBoth_37 rfl fl_TuneDoor_Reader_19 rfl (by decide) kd_77 rfl (z8) ?_
        refine u_getR (a := (o7 + 6)) (pc' := 43) dX4_readBoth_40 rfl fl_TuneDoor_Reader_202 rfl (kHouse k9).1 k9 (kHouse k9).2.2.2.2.2.2.1 ?_
        refine u_bipush (pc' := 45) dX4_readBoth_43 rfl (by decide) ?_
        refine u_invV (q' := qX5_emit) (As := [vI (-18)]) (st := []) (pc' := 48) dX4_readBoth_45 rfl gX5_emit wm_672 rfl rfl (Nat.le_trans (kHouse k9).1 (Nat.le_add_right _ _)) (kHouse k9).2.2.2.2.2.2.2.2.2.2.2.2.1 wm_673 wm_674 rfl (Nat.le_of_ble_eq_true rfl) (M0.mono h (fun v τ10 h => ?_))
        obtain ⟨rfl, h⟩ := h
        show V0 E (d + 1) qX4_readBoth 48 [some (vR 77), some (vB b6), some (vI x2)] [] τ10 Q
        refine s_iinc (i := 2) (ls' := [some (vR 77), some (vB b6), some (vI (x2 + 1))]) (pc' := 51) dX4_readBoth_48 rfl rfl (Nat.le_of_ble_eq_true rfl) rfl rfl ?_
        refine u_goto (tgt := 7) dX4_readBoth_51 (by decide) ?_
        exact u_less (ls' := [some (vR 77), some (vB b6), some (vI (x2 + 1))]) ⟨rfl, ⟨rfl, ⟨rfl, trivial⟩⟩⟩ h
set_option maxRecDepth 20000 in
theorem bX4_readFact_0 {E : mm_Env} {d : Nat} {τ : mm_Mem} {Q : mm_Q0}  (h : V0 E (d + 1) qX4_readFact 4 [some (vR 77), some (vI 0), some (vI 0), none] [] τ Q) : V0 E (d + 1) qX4_readFact 0 [some (vR 77), none, none, none] [] τ Q := by
  refine u_iconst (pc' := 1) dX4_readFact_0 rfl ?_
  refine s_istore_n (i := 1) (ls' := [some (vR 77), some (vI 0), none, none]) (pc' := 2) dX4_readFact_1 rfl rfl (Nat.le_of_ble_eq_true rfl) rfl rfl ?_
  refine u_iconst (pc' := 3) dX4_readFact_2 rfl ?_
  refine s_istore_n (i := 2) (ls' := [some (vR 77), some (vI 0), some (vI 0), none]) (pc' := 4) dX4_readFact_3 rfl rfl (Nat.le_of_ble_eq_true rfl) rfl rfl ?_
  exact u_less (ls' := [some (vR 77), some (vI 0), some (vI 0), none]) ⟨rfl, ⟨rfl, ⟨rfl, trivial⟩⟩⟩ h
theorem mX4_readFact {E : mm_Env} {d : Nat} {τ : mm_Mem} {Q : mm_Q0}  (h : V0 E (d + 1) qX4_readFact 4 [some (vR 77), some (vI 0), some (vI 0), none] [] τ Q) : M0 E (d + 1) qX4_readFact [vR 77] τ Q := M0_of rfl (Nat.le_of_ble_eq_true rfl) [some (vR 77), none, none, none] rfl (bX4_readFact_0  h)
set_option maxRecDepth 20000 in
theorem bX4_readFact_4 {E : mm_Env} {d : Nat} {τ : mm_Mem} {Q : mm_Q0} {x1 : Int} {x2 : Int} (h : inR x2 ∧ ((1600 ≤ x2 → V0 E (d + 1) qX4_readFact 40 [some (vR 77), some (vI x1), none, none] [] τ Q) ∧ (¬ 1600 ≤ x2 → M0 E d qX4_seesWord [vR 77, vI 20] τ (fun v τ2 => ∃ b3 : Bool, v = some (vB b3) ∧ ((b3 = false → V0 E (d + 1) qX4_readFact 40 [some (vR 77), some (vI x1), none, none] [] τ2 Q) ∧ (b3 = true → M0 E d qX4_advance [vR 77] τ2 (fun v τ4 => v = none ∧ inR x1 ∧ ((x1 ≠ 0 → V0 E (d + 1) qX4_readFact 4 [some (vR 77), some (vI 0), some (vI (x2 + 1)), none] [] τ4 Q) ∧ (x1 = 0 → V0 E (d + 1) qX4_readFact 4 [some (vR 77), some (vI 1), some (vI (x2 + 1)), none] [] τ4 Q))))))))) : V0 E (d + 1) qX4_readFact 4 [some (vR 77), some (vI x1), some (vI x2), none] [] τ Q := by
  refine u_iload_n (i := 2) (pc' := 5) dX4_readFact_4 rfl rfl rfl ?_
  refine u_sipush (pc' := 8) dX4_readFact_5 rfl (by decide) ?_
  obtain ⟨c1, h⟩ := h
  refine u_icmp_ge (tgt := 40) (pc' := 11) dX4_readFact_8 rfl (by decide) c1 ⟨by decide, by decide⟩ (fun hb => ?_) (fun hb => ?_)
  · have h := h.1 hb
    exact u_less (ls' := [some (vR 77), some (vI x1), none, none]) ⟨rfl, ⟨rfl, trivial⟩⟩ h
  · have h := h.2 hb
    refine u_aload_n (i := 0) (pc' := 12) dX4_readFact_11 rfl rfl rfl ?_
    refine u_bipush (pc' := 14) dX4_readFact_12 rfl (by decide) ?_
    refine u_invV (q' := qX4_seesWord) (As := [vI 20]) (st := []) (pc' := 17) dX4_readFact_14 rfl gX4_seesWord wm_581 rfl rfl (by decide) kd_77 wm_583 wp_9 rfl (Nat.le_of_ble_eq_true rfl) (M0.mono h (fun v τ2 h => ?_))
    obtain ⟨b3, rfl, h⟩ := h
    show V0 E (d + 1) qX4_readFact 17 [some (vR 77), some (vI x1), some (vI x2), none] [vB b3] τ2 Q
    refine u_if_eq (tgt := 40) (pc' := 20) dX4_readFact_17 rfl (by decide) (bI_R _) (fun hb => ?_) (fun hb => ?_)
    · have h := h.1 (bI_0.mp hb)
      exact u_less (ls' := [some (vR 77), some (vI x1), none, none]) ⟨rfl, ⟨rfl, trivial⟩⟩ h
    · have h := h.2 (bI_n0.mp hb)
      refine u_aload_n (i := 0) (pc' := 21) dX4_readFact_20 rfl rfl rfl ?_
      refine u_invV (q' := qX4_advance) (As := []) (st := []) (pc' := 24) dX4_readFact_21 rfl gX4_advance wm_569 rfl rfl (by decide) kd_77 wm_571 wp_6 rfl (Nat.le_of_ble_eq_true rfl) (M0.mono h (fun v τ4 h => ?_))
      obtain ⟨rfl, h⟩ := h
      show V0 E (d + 1) qX4_readFact 24 [some (vR 77), some (vI x1), some (vI x2), none] [] τ4 Q
      refine u_iload_n (i := 1) (pc' := 25) dX4_readFact_24 rfl rfl rfl ?_
      obtain ⟨c5, h⟩ := h
      refine u_if_ne (tgt := 32) (pc' := 28) dX4_readFact_25 rfl (by decide) c5 (fun hb => ?_) (fun hb => ?_)
      · have h := h.1 hb
        refine u_iconst (pc' := 33) dX4_readFact_32 rfl ?_
        refine s_istore_n (i := 1) (ls' := [some (vR 77), some (vI 0), some (vI x2), none]) (pc' := 34) dX4_readFact_33 rfl rfl (Nat.le_of_ble_eq_true rfl) rfl rfl ?_
        refine s_iinc (i := 2) (ls' := [some (vR 77), some (vI 0), some (vI (x2 + 1)), none]) (pc' := 37) dX4_readFact_34 rfl rfl (Nat.le_of_ble_eq_true rfl) rfl rfl ?_
        refine u_goto (tgt := 4) dX4_readFact_37 (by decide) ?_
        exact u_less (ls' := [some (vR 77), some (vI 0), some (vI (x2 + 1)), none]) ⟨rfl, ⟨rfl, ⟨rfl, trivial⟩⟩⟩ h
      · have h := h.2 hb
        refine u_iconst (pc' := 29) dX4_readFact_28 rfl ?_
        refine u_goto (tgt := 33) dX4_readFact_29 (by decide) ?_
        refine s_istore_n (i := 1) (ls' := [some (vR 77), some (vI 1), some (vI x2), none]) (pc' := 34) dX4_readFact_33 rfl rfl (Nat.le_of_ble_eq_true rfl) rfl rfl ?_
        refine s_iinc (i := 2) (ls' := [some (vR 77), some (vI 1), some (vI (x2 + 1)), none]) (pc' := 37) dX4_readFact_34 rfl rfl (Nat.le_of_ble_eq_true rfl) rfl rfl ?_
        refine u_goto (tgt := 4) dX4_readFact_37 (by decide) ?_
        exact u_less (ls' := [some (vR 77), some (vI 1), some (vI (x2 + 1)), none]) ⟨rfl, ⟨rfl, ⟨rfl, trivial⟩⟩⟩ h
set_option maxRecDepth 20000 in
theorem bX4_readFact_40 {E : mm_Env} {d : Nat} {τ : mm_Mem} {Q : mm_Q0} {x1 : Int} (h : M0 E d qX4_seesSign [vR 77, vI 91] τ (fun v τ1 => ∃ b2 : Bool, v = some (vB b2) ∧ ((b2 = false → M0 E d qX4_seesWord [vR 77, vI 21] τ1 (fun v τ3 => ∃ b4 : Bool, v = some (vB b4) ∧ ((b4 = false → M0 E d qX4_readSum [vR 77] τ3 (fun v τ5 => ∃ b6 : Bool, v = some (vB b6) ∧ ((b6 = false → V0 E (d + 1) qX4_readFact 129 [some (vR 77), some (vI x1), none, none] [vI (-1)] τ5 Q) ∧ (b6 = true → M0 E d qX4_takeComparison [vR 77] τ5 (fun v τ7 => ∃ r8 : Int, v = some (vI r8) ∧ V0 E (d + 1) qX4_readFact 129 [some (vR 77), some (vI x1), none, none] [vI r8] τ7 Q))))) ∧ (b4 = true → M0 E d qX4_advance [vR 77] τ3 (fun v τ9 => v = none ∧ ∃ o10 : Nat, (τ9 77 1) = (o10 : Int) ∧ KD o10 = some (.inr 2) ∧ M0 E d qX5_emit [vR (o10 + 6), vI 1] τ9 (fun v τ13 => v = none ∧ inR x1 ∧ ((x1 = 0 → Q (some (vB true)) τ13) ∧ (¬ x1 = 0 → ∃ o15 : Nat, (τ13 77 1) = (o15 : Int) ∧ KD o15 = some (.inr 2) ∧ M0 E d qX5_emit [vR (o15 + 6), vI (-7)] τ13 (fun v τ18 => v = none ∧ Q (some (vB true)) τ18))))))))) ∧ (b2 = true → M0 E d qX4_openBracket [vR 77, vI 91] τ1 (fun v τ19 => ∃ b20 : Bool, v = some (vB b20) ∧ ((b20 = false → inR x1 ∧ ((x1 = 0 → Q (some (vB false)) τ19) ∧ (¬ x1 = 0 → ∃ o22 : Nat, (τ19 77 1) = (o22 : Int) ∧ KD o22 = some (.inr 2) ∧ M0 E d qX5_emit [vR (o22 + 6), vI (-7)] τ19 (fun v τ25 => v = none ∧ Q (some (vB false)) τ25)))) ∧ (b20 = true → M0 E d qX4_readTest [vR 77] τ19 (fun v τ26 => ∃ b27 : Bool, v = some (vB b27) ∧ ((b27 = false → inR x1 ∧ ((x1 = 0 → Q (some (vB false)) τ26) ∧ (¬ x1 = 0 → ∃ o29 : Nat, (τ26 77 1) = (o29 : Int) ∧ KD o29 = some (.inr 2) ∧ M0 E d qX5_emit [vR (o29 + 6), vI (-7)] τ26 (fun v τ32 => v = none ∧ Q (some (vB false)) τ32)))) ∧ (b27 = true → M0 E d qX4_closeBracket [vR 77, vI 93] τ26 (fun v τ33 => ∃ b34 : Bool, v = some (vB b34) ∧ ((b34 = false → inR x1 ∧ ((x1 = 0 → Q (some (vB false)) τ33) ∧ (¬ x1 = 0 → ∃ o36 : Nat, (τ33 77 1) = (o36 : Int) ∧ KD o36 = some (.inr 2) ∧ M0 E d qX5_emit [vR (o36 + 6), vI (-7)] τ33 (fun v τ39 => v = none ∧ Q (some (vB false)) τ39)))) ∧ (b34 = true → inR x1 ∧ ((x1 = 0 → Q (some (vB true)) τ33) ∧ (¬ x1 = 0 → ∃ o41 : Nat, (τ33 77 1) = (o41 : Int) ∧ KD o41 = some (.inr 2) ∧ M0 E d qX5_emit [vR (o41 + 6), vI (-7)] τ33 (fun v τ44 => v = none ∧ Q (some (vB true)) τ44)))))))))))))))) : V0 E (d + 1) qX4_readFact 40 [some (vR 77), some (vI x1), none, none] [] τ Q := by
  refine u_iconst (pc' := 41) dX4_readFact_40 rfl ?_
  refine s_istore_n (i := 2) (ls' := [some (vR 77), some (vI x1), some (vI 1), none]) (pc' := 42) dX4_readFact_41 rfl rfl (Nat.le_of_ble_eq_true rfl) rfl rfl ?_
  refine u_aload_n (i := 0) (pc' := 43) dX4_readFact_42 rfl rfl rfl ?_
  refine u_bipush (pc' := 45) dX4_readFact_43 rfl (by decide) ?_
  refine u_invV (q' := qX4_seesSign) (As := [vI 91]) (st := []) (pc' := 48) dX4_readFact_45 rfl gX4_seesSign wm_597 rfl rfl (by decide) kd_77 wm_599 wp_13 rfl (Nat.le_of_ble_eq_true rfl) (M0.mono h (fun v τ1 h => ?_))
  obtain ⟨b2, rfl, h⟩ := h
  show V0 E (d + 1) qX4_readFact 48 [some (vR 77), some (vI x1), some (vI 1), none] [vB b2] τ1 Q
  refine u_if_eq (tgt := 85) (pc' := 51) dX4_readFact_48 rfl (by decide) (bI_R _) (fun hb => ?_) (fun hb => ?_)
  · have h := h.1 (bI_0.mp hb)
    refine u_aload_n (i := 0) (pc' := 86) dX4_readFact_85 rfl rfl rfl ?_
    refine u_bipush (pc' := 88) dX4_readFact_86 rfl (by decide) ?_
    refine u_invV (q' := qX4_seesWord) (As := [vI 21]) (st := []) (pc' := 91) dX4_readFact_88 rfl gX4_seesWord wm_581 rfl rfl (by decide) kd_77 wm_583 wp_9 rfl (Nat.le_of_ble_eq_true rfl) (M0.mono h (fun v τ3 h => ?_))
    obtain ⟨b4, rfl, h⟩ := h
    show V0 E (d + 1) qX4_readFact 91 [some (vR 77), some (vI x1), some (vI 1), none] [vB b4] τ3 Q
    refine u_if_eq (tgt := 112) (pc' := 94) dX4_readFact_91 rfl (by decide) (bI_R _) (fun hb => ?_) (fun hb => ?_)
    · have h := h.1 (bI_0.mp hb)
      refine u_aload_n (i := 0) (pc' := 113) dX4_readFact_112 rfl rfl rfl ?_
      refine u_invV (q' := qX4_readSum) (As := []) (st := []) (pc' := 116) dX4_readFact_113 rfl gX4_readSum wm_652 rfl rfl (by decide) kd_77 wm_654 wp_19 rfl (Nat.le_of_ble_eq_true rfl) (M0.mono h (fun v τ5 h => ?_))
      obtain ⟨b6, rfl, h⟩ := h
      show V0 E (d + 1) qX4_readFact 116 [some (vR 77), some (vI x1), some (vI 1), none] [vB b6] τ5 Q
      refine s_istore_n (i := 2) (ls' := [some (vR 77), some (vI x1), some (vB b6), none]) (pc' := 117) dX4_readFact_116 rfl rfl (Nat.le_of_ble_eq_true rfl) rfl rfl ?_
      refine u_iload_n (i := 2) (pc' := 118) dX4_readFact_117 rfl rfl rfl ?_
      refine u_if_eq (tgt := 128) (pc' := 121) dX4_readFact_118 rfl (by decide) (bI_R _) (fun hb => ?_) (fun hb => ?_)
      · have h := h.1 (bI_0.mp hb)
        refine u_iconst (pc' := 129) dX4_readFact_128 rfl ?_
        exact u_less (ls' := [some (vR 77), some (vI x1), none, none]) ⟨rfl, ⟨rfl, trivial⟩⟩ h
      · have h := h.2 (bI_n0.mp hb)
        refine u_aload_n (i := 0) (pc' := 122) dX4_readFact_121 rfl rfl rfl ?_
        refine u_invV (q' := qX4_takeComparison) (As := []) (st := []) (pc' := 125) dX4_readFact_122 rfl gX4_takeComparison wm_696 rfl rfl (by decide) kd_77 wm_698 wp_28 rfl (Nat.le_of_ble_eq_true rfl) (M0.mono h (fun v τ7 h => ?_))
        obtain ⟨r8, rfl, h⟩ := h
        show V0 E (d + 1) qX4_readFact 125 [some (vR 77), some (vI x1), some (vB b6), none] [vI r8] τ7 Q
        refine u_goto (tgt := 129) dX4_readFact_125 (by decide) ?_
        exact u_less (ls' := [some (vR 77), some (vI x1), none, none]) ⟨rfl, ⟨rfl, trivial⟩⟩ h
    · have h := h.2 (bI_n0.mp hb)
      refine u_aload_n (i := 0) (pc' := 95) dX4_readFact_94 rfl rfl rfl ?_
      refine u_invV (q' := qX4_advance) (As := []) (st := []) (pc' := 98) dX4_readFact_95 rfl gX4_advance wm_569 rfl rfl (by decide) kd_77 wm_571 wp_6 rfl (Nat.le_of_ble_eq_true rfl) (M0.mono h (fun v τ9 h => ?_))
      obtain ⟨rfl, h⟩ := h
      show V0 E (d + 1) qX4_readFact 98 [some (vR 77), some (vI x1), some (vI 1), none] [] τ9 Q
      refine u_aload_n (i := 0) (pc' := 99) dX4_readFact_98 rfl rfl rfl ?_
      obtain ⟨o10, z11, k12, h⟩ := h
      refine u_getD (a := o10) (pc' := 102) dX4_readFact_99 rfl fl_TuneDoor_Reader_19 rfl (by decide) kd_77 rfl (z11) ?_
      refine u_getR (a := (o10 + 6)) (pc' := 105) dX4_readFact_102 rfl fl_TuneDoor_Reader_202 rfl (kHouse k12).1 k12 (kHouse k12).2.2.2.2.2.2.1 ?_
      refine u_iconst (pc' := 106) dX4_readFact_105 rfl ?_
      refine u_invV (q' := qX5_emit) (As := [vI 1]) (st := []) (pc' := 109) dX4_readFact_106 rfl gX5_emit wm_672 rfl rfl (Nat.le_trans (kHouse k12).1 (Nat.le_add_right _ _)) (kHouse k12).2.2.2.2.2.2.2.2.2.2.2.2.1 wm_673 wm_674 rfl (Nat.le_of_ble_eq_true rfl) (M0.mono h (fun v τ13 h => ?_))
      obtain ⟨rfl, h⟩ := h
      show V0 E (d + 1) qX4_readFact 109 [some (vR 77), some (vI x1), some (vI 1), none] [] τ13 Q
      refine u_goto (tgt := 159) dX4_readFact_109 (by decide) ?_
      refine u_iload_n (i := 1) (pc' := 160) dX4_readFact_159 rfl rfl rfl ?_
      obtain ⟨c14, h⟩ := h
      refine u_if_eq (tgt := 175) (pc' := 163) dX4_readFact_160 rfl (by decide) c14 (fun hb => ?_) (fun hb => ?_)
      · have h := h.1 hb
        refine u_iload_n (i := 2) (pc' := 176) dX4_readFact_175 rfl rfl rfl ?_
        exact u_zret (b := true) dX4_readFact_176 rfl rfl h
      · have h := h.2 hb
        refine u_aload_n (i := 0) (pc' := 164) dX4_readFact_163 rfl rfl rfl ?_
        obtain ⟨o15, z16, k17, h⟩ := h
        refine u_getD (a := o15) (pc' := 167) dX4_readFact_164 rfl fl_TuneDoor_Reader_19 rfl (by decide) kd_77 rfl (z16) ?_
        refine u_getR (a := (o15 + 6)) (pc' := 170) dX4_readFact_167 rfl fl_TuneDoor_Reader_202 rfl (kHouse k17).1 k17 (kHouse k17).2.2.2.2.2.2.1 ?_
        refine u_bipush (pc' := 172) dX4_readFact_170 rfl (by decide) ?_
        refine u_invV (q' := qX5_emit) (As := [vI (-7)]) (st := []) (pc' := 175) dX4_readFact_172 rfl gX5_emit wm_672 rfl rfl (Nat.le_trans (kHouse k17).1 (Nat.le_add_right _ _)) (kHouse k17).2.2.2.2.2.2.2.2.2.2.2.2.1 wm_673 wm_674 rfl (Nat.le_of_ble_eq_true rfl) (M0.mono h (fun v τ18 h => ?_))
        obtain ⟨rfl, h⟩ := h
        show V0 E (d + 1) qX4_readFact 175 [some (vR 77), some (vI x1), some (vI 1), none] [] τ18 Q
        refine u_iload_n (i := 2) (pc' := 176) dX4_readFact_175 rfl rfl rfl ?_
        exact u_zret (b := true) dX4_readFact_176 rfl rfl h
  · have h := h.2 (bI_n0.mp hb)
    refine u_aload_n (i := 0) (pc' := 52) dX4_readFact_51 rfl rfl rfl ?_
    refine u_bipush (pc' := 54) dX4_readFact_52 rfl (by decide) ?_
    refine u_invV (q' := qX4_openBracket) (As := [vI 91]) (st := []) (pc' := 57) dX4_readFact_54 rfl gX4_openBracket wm_664 rfl rfl (by decide) kd_77 wm_666 wp_22 rfl (Nat.le_of_ble_eq_true rfl) (M0.mono h (fun v τ19 h => ?_))
    obtain ⟨b20, rfl, h⟩ := h
    show V0 E (d + 1) qX4_readFact 57 [some (vR 77), some (vI x1), some (vI 1), none] [vB b20] τ19 Q
    refine u_if_eq (tgt := 80) (pc' := 60) dX4_readFact_57 rfl (by decide) (bI_R _) (fun hb => ?_) (fun hb => ?_)
    · have h := h.1 (bI_0.mp hb)
      refine u_iconst (pc' := 81) dX4_readFact_80 rfl ?_
      refine s_istore_n (i := 2) (ls' := [some (vR 77), some (vI x1), some (vI 0), none]) (pc' := 82) dX4_readFact_81 rfl rfl (Nat.le_of_ble_eq_true rfl) rfl rfl ?_
      refine u_goto (tgt := 159) dX4_readFact_82 (by decide) ?_
      refine u_iload_n (i := 1) (pc' := 160) dX4_readFact_159 rfl rfl rfl ?_
      obtain ⟨c21, h⟩ := h
      refine u_if_eq (tgt := 175) (pc' := 163) dX4_readFact_160 rfl (by decide) c21 (fun hb => ?_) (fun hb => ?_)
      · have h := h.1 hb
        refine u_iload_n (i := 2) (pc' := 176) dX4_readFact_175 rfl rfl rfl ?_
        exact u_zret (b := false) dX4_readFact_176 rfl rfl h
      · have h := h.2 hb
        refine u_aload_n (i := 0) (pc' := 164) dX4_readFact_163 rfl rfl rfl ?_
        obtain ⟨o22, z23, k24, h⟩ := h
        refine u_getD (a := o22) (pc' := 167) dX4_readFact_164 rfl fl_TuneDoor_Reader_19 rfl (by decide) kd_77 rfl (z23) ?_
        refine u_getR (a := (o22 + 6)) (pc' := 170) dX4_readFact_167 rfl fl_TuneDoor_Reader_202 rfl (kHouse k24).1 k24 (kHouse k24).2.2.2.2.2.2.1 ?_
        refine u_bipush (pc' := 172) dX4_readFact_170 rfl (by decide) ?_
        refine u_invV (q' := qX5_emit) (As := [vI (-7)]) (st := []) (pc' := 175) dX4_readFact_172 rfl gX5_emit wm_672 rfl rfl (Nat.le_trans (kHouse k24).1 (Nat.le_add_right _ _)) (kHouse k24).2.2.2.2.2.2.2.2.2.2.2.2.1 wm_673 wm_674 rfl (Nat.le_of_ble_eq_true rfl) (M0.mono h (fun v τ25 h => ?_))
        obtain ⟨rfl, h⟩ := h
        show V0 E (d + 1) qX4_readFact 175 [some (vR 77), some (vI x1), some (vI 0), none] [] τ25 Q
        refine u_iload_n (i := 2) (pc' := 176) dX4_readFact_175 rfl rfl rfl ?_
        exact u_zret (b := false) dX4_readFact_176 rfl rfl h
    · have h := h.2 (bI_n0.mp hb)
      refine u_aload_n (i := 0) (pc' := 61) dX4_readFact_60 rfl rfl rfl ?_
      refine u_invV (q' := qX4_readTest) (As := []) (st := []) (pc' := 64) dX4_readFact_61 rfl gX4_readTest wm_684 rfl rfl (by decide) kd_77 wm_686 wp_25 rfl (Nat.le_of_ble_eq_true rfl) (M0.mono h (fun v τ26 h => ?_))
      obtain ⟨b27, rfl, h⟩ := h
      show V0 E (d + 1) qX4_readFact 64 [some (vR 77), some (vI x1), some (vI 1), none] [vB b27] τ26 Q
      refine u_if_eq (tgt := 80) (pc' := 67) dX4_readFact_64 rfl (by decide) (bI_R _) (fun hb => ?_) (fun hb => ?_)
      · have h := h.1 (bI_0.mp hb)
        refine u_iconst (pc' := 81) dX4_readFact_80 rfl ?_
        refine s_istore_n (i := 2) (ls' := [some (vR 77), some (vI x1), some (vI 0), none]) (pc' := 82) dX4_readFact_81 rfl rfl (Nat.le_of_ble_eq_true rfl) rfl rfl ?_
        refine u_goto (tgt := 159) dX4_readFact_82 (by decide) ?_
        refine u_iload_n (i := 1) (pc' := 160) dX4_readFact_159 rfl rfl rfl ?_
        obtain ⟨c28, h⟩ := h
        refine u_if_eq (tgt := 175) (pc' := 163) dX4_readFact_160 rfl (by decide) c28 (fun hb => ?_) (fun hb => ?_)
        · have h := h.1 hb
          refine u_iload_n (i := 2) (pc' := 176) dX4_readFact_175 rfl rfl rfl ?_
          exact u_zret (b := false) dX4_readFact_176 rfl rfl h
        · have h := h.2 hb
          refine u_aload_n (i := 0) (pc' := 164) dX4_readFact_163 rfl rfl rfl ?_
          obtain ⟨o29, z30, k31, h⟩ := h
          refine u_getD (a := o29) (pc' := 167) dX4_readFact_164 rfl fl_TuneDoor_Reader_19 rfl (by decide) kd_77 rfl (z30) ?_
          refine u_getR (a := (o29 + 6)) (pc' := 170) dX4_readFact_167 rfl fl_TuneDoor_Reader_202 rfl (kHouse k31).1 k31 (kHouse k31).2.2.2.2.2.2.1 ?_
          refine u_bipush (pc' := 172) dX4_readFact_170 rfl (by decide) ?_
          refine u_invV (q' := qX5_emit) (As := [vI (-7)]) (st := []) (pc' := 175) dX4_readFact_172 rfl gX5_emit wm_672 rfl rfl (Nat.le_trans (kHouse k31).1 (Nat.le_add_right _ _)) (kHouse k31).2.2.2.2.2.2.2.2.2.2.2.2.1 wm_673 wm_674 rfl (Nat.le_of_ble_eq_true rfl) (M0.mono h (fun v τ32 h => ?_))
          obtain ⟨rfl, h⟩ := h
          show V0 E (d + 1) qX4_readFact 175 [some (vR 77), some (vI x1), some (vI 0), none] [] τ32 Q
          refine u_iload_n (i := 2) (pc' := 176) dX4_readFact_175 rfl rfl rfl ?_
          exact u_zret (b := false) dX4_readFact_176 rfl rfl h
      · have h := h.2 (bI_n0.mp hb)
        refine u_aload_n (i := 0) (pc' := 68) dX4_readFact_67 rfl rfl rfl ?_
        refine u_bipush (pc' := 70) dX4_readFact_68 rfl (by decide) ?_
        refine u_invV (q' := qX4_closeBracket) (As := [vI 93]) (st := []) (pc' := 73) dX4_readFact_70 rfl gX4_closeBracket wm_668 rfl rfl (by decide) kd_77 wm_670 wp_23 rfl (Nat.le_of_ble_eq_true rfl) (M0.mono h (fun v τ33 h => ?_))
        obtain ⟨b34, rfl, h⟩ := h
        show V0 E (d + 1) qX4_readFact 73 [some (vR 77), some (vI x1), some (vI 1), none] [vB b34] τ33 Q
        refine u_if_eq (tgt := 80) (pc' := 76) dX4_readFact_73 rfl (by decide) (bI_R _) (fun hb => ?_) (fun hb => ?_)
        · have h := h.1 (bI_0.mp hb)
          refine u_iconst (pc' := 81) dX4_readFact_80 rfl ?_
          refine s_istore_n (i := 2) (ls' := [some (vR 77), some (vI x1), some (vI 0), none]) (pc' := 82) dX4_readFact_81 rfl rfl (Nat.le_of_ble_eq_true rfl) rfl rfl ?_
          refine u_goto (tgt := 159) dX4_readFact_82 (by decide) ?_
          refine u_iload_n (i := 1) (pc' := 160) dX4_readFact_159 rfl rfl rfl ?_
          obtain ⟨c35, h⟩ := h
          refine u_if_eq (tgt := 175) (pc' := 163) dX4_readFact_160 rfl (by decide) c35 (fun hb => ?_) (fun hb => ?_)
          · have h := h.1 hb
            refine u_iload_n (i := 2) (pc' := 176) dX4_readFact_175 rfl rfl rfl ?_
            exact u_zret (b := false) dX4_readFact_176 rfl rfl h
          · have h := h.2 hb
            refine u_aload_n (i := 0) (pc' := 164) dX4_readFact_163 rfl rfl rfl ?_
            obtain ⟨o36, z37, k38, h⟩ := h
            refine u_getD (a := o36) (pc' := 167) dX4_readFact_164 rfl fl_TuneDoor_Reader_19 rfl (by decide) kd_77 rfl (z37) ?_
            refine u_getR (a := (o36 + 6)) (pc' := 170) dX4_readFact_167 rfl fl_TuneDoor_Reader_202 rfl (kHouse k38).1 k38 (kHouse k38).2.2.2.2.2.2.1 ?_
            refine u_bipush (pc' := 172) dX4_readFact_170 rfl (by decide) ?_
            refine u_invV (q' := qX5_emit) (As := [vI (-7)]) (st := []) (pc' := 175) dX4_readFact_172 rfl gX5_emit wm_672 rfl rfl (Nat.le_trans (kHouse k38).1 (Nat.le_add_right _ _)) (kHouse k38).2.2.2.2.2.2.2.2.2.2.2.2.1 wm_673 wm_674 rfl (Nat.le_of_ble_eq_true rfl) (M0.mono h (fun v τ39 h => ?_))
            obtain ⟨rfl, h⟩ := h
            show V0 E (d + 1) qX4_readFact 175 [some (vR 77), some (vI x1), some (vI 0), none] [] τ39 Q
            refine u_iload_n (i := 2) (pc' := 176) dX4_readFact_175 rfl rfl rfl ?_
            exact u_zret (b := false) dX4_readFact_176 rfl rfl h
        · have h := h.2 (bI_n0.mp hb)
          refine u_iconst (pc' := 77) dX4_readFact_76 rfl ?_
          refine u_goto (tgt := 81) dX4_readFact_77 (by decide) ?_
          refine s_istore_n (i := 2) (ls' := [some (vR 77), some (vI x1), some (vI 1), none]) (pc' := 82) dX4_readFact_81 rfl rfl (Nat.le_of_ble_eq_true rfl) rfl rfl ?_
          refine u_goto (tgt := 159) dX4_readFact_82 (by decide) ?_
          refine u_iload_n (i := 1) (pc' := 160) dX4_readFact_159 rfl rfl rfl ?_
          obtain ⟨c40, h⟩ := h
          refine u_if_eq (tgt := 175) (pc' := 163) dX4_readFact_160 rfl (by decide) c40 (fun hb => ?_) (fun hb => ?_)
          · have h := h.1 hb
            refine u_iload_n (i := 2) (pc' := 176) dX4_readFact_175 rfl rfl rfl ?_
            exact u_zret (b := true) dX4_readFact_176 rfl rfl h
          · have h := h.2 hb
            refine u_aload_n (i := 0) (pc' := 164) dX4_readFact_163 rfl rfl rfl ?_
            obtain ⟨o41, z42, k43, h⟩ := h
            refine u_getD (a := o41) (pc' := 167) dX4_readFact_164 rfl fl_TuneDoor_Reader_19 rfl (by decide) kd_77 rfl (z42) ?_
            refine u_getR (a := (o41 + 6)) (pc' := 170) dX4_readFact_167 rfl fl_TuneDoor_Reader_202 rfl (kHouse k43).1 k43 (kHouse k43).2.2.2.2.2.2.1 ?_
            refine u_bipush (pc' := 172) dX4_readFact_170 rfl (by decide) ?_
            refine u_invV (q' := qX5_emit) (As := [vI (-7)]) (st := []) (pc' := 175) dX4_readFact_172 rfl gX5_emit wm_672 rfl rfl (Nat.le_trans (kHouse k43).1 (Nat.le_add_right _ _)) (kHouse k43).2.2.2.2.2.2.2.2.2.2.2.2.1 wm_673 wm_674 rfl (Nat.le_of_ble_eq_true rfl) (M0.mono h (fun v τ44 h => ?_))
            obtain ⟨rfl, h⟩ := h
            show V0 E (d + 1) qX4_readFact 175 [some (vR 77), some (vI x1), some (vI 1), none] [] τ44 Q
            refine u_iload_n (i := 2) (pc' := 176) dX4_readFact_175 rfl rfl rfl ?_
            exact u_zret (b := true) dX4_readFact_176 rfl rfl h
set_option maxRecDepth 20000 in
theorem bX4_readFact_129 {E : mm_Env} {d : Nat} {τ : mm_Mem} {Q : mm_Q0} {x1 : Int} {y0 : Int} (h : inR y0 ∧ ((y0 = (-1) → ∃ o2 : Nat, (τ 77 1) = (o2 : Int) ∧ KD o2 = some (.inr 2) ∧ M0 E d qX5_emit [vR (o2 + 6), vI y0] τ (fun v τ5 => v = none ∧ inR x1 ∧ ((x1 = 0 → Q (some (vB false)) τ5) ∧ (¬ x1 = 0 → ∃ o7 : Nat, (τ5 77 1) = (o7 : Int) ∧ KD o7 = some (.inr 2) ∧ M0 E d qX5_emit [vR (o7 + 6), vI (-7)] τ5 (fun v τ10 => v = none ∧ Q (some (vB false)) τ10))))) ∧ (¬ y0 = (-1) → M0 E d qX4_readSum [vR 77] τ (fun v τ11 => ∃ b12 : Bool, v = some (vB b12) ∧ ((b12 = false → ∃ o13 : Nat, (τ11 77 1) = (o13 : Int) ∧ KD o13 = some (.inr 2) ∧ M0 E d qX5_emit [vR (o13 + 6), vI y0] τ11 (fun v τ16 => v = none ∧ inR x1 ∧ ((x1 = 0 → Q (some (vB false)) τ16) ∧ (¬ x1 = 0 → ∃ o18 : Nat, (τ16 77 1) = (o18 : Int) ∧ KD o18 = some (.inr 2) ∧ M0 E d qX5_emit [vR (o18 + 6), vI (-7)] τ16 (fun v τ21 => v = none ∧ Q (some (vB false)) τ21))))) ∧ (b12 = true → ∃ o22 : Nat, (τ11 77 1) = (o22 : Int) ∧ KD o22 = some (.inr 2) ∧ M0 E d qX5_emit [vR (o22 + 6), vI y0] τ11 (fun v τ25 => v = none ∧ inR x1 ∧ ((x1 = 0 → Q (some (vB true)) τ25) ∧ (¬ x1 = 0 → ∃ o27 : Nat, (τ25 77 1) = (o27 : Int) ∧ KD o27 = some (.inr 2) ∧ M0 E d qX5_emit [vR (o27 + 6), vI (-7)] τ25 (fun v τ30 => v = none ∧ Q (some (vB true)) τ30)))))))))) : V0 E (d + 1) qX4_readFact 129 [some (vR 77), some (vI x1), none, none] [vI y0] τ Q := by
  refine s_istore_n (i := 3) (ls' := [some (vR 77), some (vI x1), none, some (vI y0)]) (pc' := 130) dX4_readFact_129 rfl rfl (Nat.le_of_ble_eq_true rfl) rfl rfl ?_
  refine u_iload_n (i := 3) (pc' := 131) dX4_readFact_130 rfl rfl rfl ?_
  refine u_iconst (pc' := 132) dX4_readFact_131 rfl ?_
  obtain ⟨c1, h⟩ := h
  refine u_icmp_eq (tgt := 146) (pc' := 135) dX4_readFact_132 rfl (by decide) c1 ⟨by decide, by decide⟩ (fun hb => ?_) (fun hb => ?_)
  · have h := h.1 hb
    refine u_iconst (pc' := 147) dX4_readFact_146 rfl ?_
    refine s_istore_n (i := 2) (ls' := [some (vR 77), some (vI x1), some (vI 0), some (vI y0)]) (pc' := 148) dX4_readFact_147 rfl rfl (Nat.le_of_ble_eq_true rfl) rfl rfl ?_
    refine u_aload_n (i := 0) (pc' := 149) dX4_readFact_148 rfl rfl rfl ?_
    obtain ⟨o2, z3, k4, h⟩ := h
    refine u_getD (a := o2) (pc' := 152) dX4_readFact_149 rfl fl_TuneDoor_Reader_19 rfl (by decide) kd_77 rfl (z3) ?_
    refine u_getR (a := (o2 + 6)) (pc' := 155) dX4_readFact_152 rfl fl_TuneDoor_Reader_202 rfl (kHouse k4).1 k4 (kHouse k4).2.2.2.2.2.2.1 ?_
    refine u_iload_n (i := 3) (pc' := 156) dX4_readFact_155 rfl rfl rfl ?_
    refine u_invV (q' := qX5_emit) (As := [vI y0]) (st := []) (pc' := 159) dX4_readFact_156 rfl gX5_emit wm_672 rfl rfl (Nat.le_trans (kHouse k4).1 (Nat.le_add_right _ _)) (kHouse k4).2.2.2.2.2.2.2.2.2.2.2.2.1 wm_673 wm_674 rfl (Nat.le_of_ble_eq_true rfl) (M0.mono h (fun v τ5 h => ?_))
    obtain ⟨rfl, h⟩ := h
    show V0 E (d + 1) qX4_readFact 159 [some (vR 77), some (vI x1), some (vI 0), some (vI y0)] [] τ5 Q
    refine u_iload_n (i := 1) (pc' := 160) dX4_readFact_159 rfl rfl rfl ?_
    obtain ⟨c6, h⟩ := h
    refine u_if_eq (tgt := 175) (pc' := 163) dX4_readFact_160 rfl (by decide) c6 (fun hb => ?_) (fun hb => ?_)
    · have h := h.1 hb
      refine u_iload_n (i := 2) (pc' := 176) dX4_readFact_175 rfl rfl rfl ?_
      exact u_zret (b := false) dX4_readFact_176 rfl rfl h
    · have h := h.2 hb
      refine u_aload_n (i := 0) (pc' := 164) dX4_readFact_163 rfl rfl rfl ?_
      obtain ⟨o7, z8, k9, h⟩ := h
      refine u_getD (a := o7) (pc' := 167) dX4_readFact_164 rfl fl_TuneDoor_Reader_19 rfl (by decide) kd_77 rfl (z8) ?_
      refine u_getR (a := (o7 + 6)) (pc' := 170) dX4_readFact_167 rfl fl_TuneDoor_Reader_202 rfl (kHouse k9).1 k9 (kHouse k9).2.2.2.2.2.2.1 ?_
      refine u_bipush (pc' := 172) dX4_readFact_170 rfl (by decide) ?_
      refine u_invV (q' := qX5_emit) (As := [vI (-7)]) (st := []) (pc' := 175) dX4_readFact_172 rfl gX5_emit wm_672 rfl rfl (Nat.le_trans (kHouse k9).1 (Nat.le_add_right _ _)) (kHouse k9).2.2.2.2.2.2.2.2.2.2.2.2.1 wm_673 wm_674 rfl (Nat.le_of_ble_eq_true rfl) (M0.mono h (fun v τ10 h => ?_))
      obtain ⟨rfl, h⟩ := h
      show V0 E (d + 1) qX4_readFact 175 [some (vR 77), some (vI x1), some (vI 0), some (vI y0)] [] τ10 Q
      refine u_iload_n (i := 2) (pc' := 176) dX4_readFact_175 rfl rfl rfl ?_
      exact u_zret (b := false) dX4_readFact_176 rfl rfl h
  · have h := h.2 hb
    refine u_aload_n (i := 0) (pc' := 136) dX4_readFact_135 rfl rfl rfl ?_
    refine u_invV (q' := qX4_readSum) (As := []) (st := []) (pc' := 139) dX4_readFact_136 rfl gX4_readSum wm_652 rfl rfl (by decide) kd_77 wm_654 wp_19 rfl (Nat.le_of_ble_eq_true rfl) (M0.mono h (fun v τ11 h => ?_))
    obtain ⟨b12, rfl, h⟩ := h
    show V0 E (d + 1) qX4_readFact 139 [some (vR 77), some (vI x1), none, some (vI y0)] [vB b12] τ11 Q
    refine u_if_eq (tgt := 146) (pc' := 142) dX4_readFact_139 rfl (by decide) (bI_R _) (fun hb => ?_) (fun hb => ?_)
    · have h := h.1 (bI_0.mp hb)
      refine u_iconst (pc' := 147) dX4_readFact_146 rfl ?_
      refine s_istore_n (i := 2) (ls' := [some (vR 77), some (vI x1), some (vI 0), some (vI y0)]) (pc' := 148) dX4_readFact_147 rfl rfl (Nat.le_of_ble_eq_true rfl) rfl rfl ?_
      refine u_aload_n (i := 0) (pc' := 149) dX4_readFact_148 rfl rfl rfl ?_
      obtain ⟨o13, z14, k15, h⟩ := h
      refine u_getD (a := o13) (pc' := 152) dX4_readFact_149 rfl fl_TuneDoor_Reader_19 rfl (by decide) kd_77 rfl (z14) ?_
      refine u_getR (a := (o13 + 6)) (pc' := 155) dX4_readFact_152 rfl fl_TuneDoor_Reader_202 rfl (kHouse k15).1 k15 (kHouse k15).2.2.2.2.2.2.1 ?_
      refine u_iload_n (i := 3) (pc' := 156) dX4_readFact_155 rfl rfl rfl ?_
      refine u_invV (q' := qX5_emit) (As := [vI y0]) (st := []) (pc' := 159) dX4_readFact_156 rfl gX5_emit wm_672 rfl rfl (Nat.le_trans (kHouse k15).1 (Nat.le_add_right _ _)) (kHouse k15).2.2.2.2.2.2.2.2.2.2.2.2.1 wm_673 wm_674 rfl (Nat.le_of_ble_eq_true rfl) (M0.mono h (fun v τ16 h => ?_))
      obtain ⟨rfl, h⟩ := h
      show V0 E (d + 1) qX4_readFact 159 [some (vR 77), some (vI x1), some (vI 0), some (vI y0)] [] τ16 Q
      refine u_iload_n (i := 1) (pc' := 160) dX4_readFact_159 rfl rfl rfl ?_
      obtain ⟨c17, h⟩ := h
      refine u_if_eq (tgt := 175) (pc' := 163) dX4_readFact_160 rfl (by decide) c17 (fun hb => ?_) (fun hb => ?_)
      · have h := h.1 hb
        refine u_iload_n (i := 2) (pc' := 176) dX4_readFact_175 rfl rfl rfl ?_
        exact u_zret (b := false) dX4_readFact_176 rfl rfl h
      · have h := h.2 hb
        refine u_aload_n (i := 0) (pc' := 164) dX4_readFact_163 rfl rfl rfl ?_
        obtain ⟨o18, z19, k20, h⟩ := h
        refine u_getD (a := o18) (pc' := 167) dX4_readFact_164 rfl fl_TuneDoor_Reader_19 rfl (by decide) kd_77 rfl (z19) ?_
        refine u_getR (a := (o18 + 6)) (pc' := 170) dX4_readFact_167 rfl fl_TuneDoor_Reader_202 rfl (kHouse k20).1 k20 (kHouse k20).2.2.2.2.2.2.1 ?_
        refine u_bipush (pc' := 172) dX4_readFact_170 rfl (by decide) ?_
        refine u_invV (q' := qX5_emit) (As := [vI (-7)]) (st := []) (pc' := 175) dX4_readFact_172 rfl gX5_emit wm_672 rfl rfl (Nat.le_trans (kHouse k20).1 (Nat.le_add_right _ _)) (kHouse k20).2.2.2.2.2.2.2.2.2.2.2.2.1 wm_673 wm_674 rfl (Nat.le_of_ble_eq_true rfl) (M0.mono h (fun v τ21 h => ?_))
        obtain ⟨rfl, h⟩ := h
        show V0 E (d + 1) qX4_readFact 175 [some (vR 77), some (vI x1), some (vI 0), some (vI y0)] [] τ21 Q
        refine u_iload_n (i := 2) (pc' := 176) dX4_readFact_175 rfl rfl rfl ?_
        exact u_zret (b := false) dX4_readFact_176 rfl rfl h
    · have h := h.2 (bI_n0.mp hb)
      refine u_iconst (pc' := 143) dX4_readFact_142 rfl ?_
      refine u_goto (tgt := 147) dX4_readFact_143 (by decide) ?_
      refine s_istore_n (i := 2) (ls' := [some (vR 77), some (vI x1), some (vI 1), some (vI y0)]) (pc' := 148) dX4_readFact_147 rfl rfl (Nat.le_of_ble_eq_true rfl) rfl rfl ?_
      refine u_aload_n (i := 0) (pc' := 149) dX4_readFact_148 rfl rfl rfl ?_
      obtain ⟨o22, z23, k24, h⟩ := h
      refine u_getD (a := o22) (pc' := 152) dX4_readFact_149 rfl fl_TuneDoor_Reader_19 rfl (by decide) kd_77 rfl (z23) ?_
      refine u_getR (a := (o22 + 6)) (pc' := 155) dX4_readFact_152 rfl fl_TuneDoor_Reader_202 rfl (kHouse k24).1 k24 (kHouse k24).2.2.2.2.2.2.1 ?_
      refine u_iload_n (i := 3) (pc' := 156) dX4_readFact_155 rfl rfl rfl ?_
      refine u_invV (q' := qX5_emit) (As := [vI y0]) (st := []) (pc' := 159) dX4_readFact_156 rfl gX5_emit wm_672 rfl rfl (Nat.le_trans (kHouse k24).1 (Nat.le_add_right _ _)) (kHouse k24).2.2.2.2.2.2.2.2.2.2.2.2.1 wm_673 wm_674 rfl (Nat.le_of_ble_eq_true rfl) (M0.mono h (fun v τ25 h => ?_))
      obtain ⟨rfl, h⟩ := h
      show V0 E (d + 1) qX4_readFact 159 [some (vR 77), some (vI x1), some (vI 1), some (vI y0)] [] τ25 Q
      refine u_iload_n (i := 1) (pc' := 160) dX4_readFact_159 rfl rfl rfl ?_
      obtain ⟨c26, h⟩ := h
      refine u_if_eq (tgt := 175) (pc' := 163) dX4_readFact_160 rfl (by decide) c26 (fun hb => ?_) (fun hb => ?_)
      · have h := h.1 hb
        refine u_iload_n (i := 2) (pc' := 176) dX4_readFact_175 rfl rfl rfl ?_
        exact u_zret (b := true) dX4_readFact_176 rfl rfl h
      · have h := h.2 hb
        refine u_aload_n (i := 0) (pc' := 164) dX4_readFact_163 rfl rfl rfl ?_
        obtain ⟨o27, z28, k29, h⟩ := h
        refine u_getD (a := o27) (pc' := 167) dX4_readFact_164 rfl fl_TuneDoor_Reader_19 rfl (by decide) kd_77 rfl (z28) ?_
        refine u_getR (a := (o27 + 6)) (pc' := 170) dX4_readFact_167 rfl fl_TuneDoor_Reader_202 rfl (kHouse k29).1 k29 (kHouse k29).2.2.2.2.2.2.1 ?_
        refine u_bipush (pc' := 172) dX4_readFact_170 rfl (by decide) ?_
        refine u_invV (q' := qX5_emit) (As := [vI (-7)]) (st := []) (pc' := 175) dX4_readFact_172 rfl gX5_emit wm_672 rfl rfl (Nat.le_trans (kHouse k29).1 (Nat.le_add_right _ _)) (kHouse k29).2.2.2.2.2.2.2.2.2.2.2.2.1 wm_673 wm_674 rfl (Nat.le_of_ble_eq_true rfl) (M0.mono h (fun v τ30 h => ?_))
        obtain ⟨rfl, h⟩ := h
        show V0 E (d + 1) qX4_readFact 175 [some (vR 77), some (vI x1), some (vI 1), some (vI y0)] [] τ30 Q
        refine u_iload_n (i := 2) (pc' := 176) dX4_readFact_175 rfl rfl rfl ?_
        exact u_zret (b := true) dX4_readFact_176 rfl rfl h
set_option maxRecDepth 20000 in
theorem bX4_takeComparison_0 {E : mm_Env} {d : Nat} {τ : mm_Mem} {Q : mm_Q0}  (h : M0 E d qX4_seesSign [vR 77, vI 60] τ (fun v τ1 => ∃ b2 : Bool, v = some (vB b2) ∧ ((b2 = false → M0 E d qX4_seesSign [vR 77, vI 62] τ1 (fun v τ3 => ∃ b4 : Bool, v = some (vB b4) ∧ ((b4 = false → M0 E d qX4_seesSign [vR 77, vI 61] τ3 (fun v τ5 => ∃ b6 : Bool, v = some (vB b6) ∧ ((b6 = false → M0 E d qX4_fail [vR 77, vI 1] τ5 (fun v τ7 => ∃ b8 : Bool, v = some (vB b8) ∧ Q (some (vI (-1))) τ7)) ∧ (b6 = true → M0 E d qX4_advance [vR 77] τ5 (fun v τ9 => v = none ∧ Q (some (vI (-17))) τ9))))) ∧ (b4 = true → M0 E d qX4_advance [vR 77] τ3 (fun v τ10 => v = none ∧ Q (some (vI (-16))) τ10))))) ∧ (b2 = true → M0 E d qX4_advance [vR 77] τ1 (fun v τ11 => v = none ∧ Q (some (vI (-15))) τ11))))) : V0 E (d + 1) qX4_takeComparison 0 [some (vR 77), none] [] τ Q := by
  refine u_aload_n (i := 0) (pc' := 1) dX4_takeComparison_0 rfl rfl rfl ?_
  refine u_bipush (pc' := 3) dX4_takeComparison_1 rfl (by decide) ?_
  refine u_invV (q' := qX4_seesSign) (As := [vI 60]) (st := []) (pc' := 6) dX4_takeComparison_3 rfl gX4_seesSign wm_597 rfl rfl (by decide) kd_77 wm_599 wp_13 rfl (Nat.le_of_ble_eq_true rfl) (M0.mono h (fun v τ1 h => ?_))
  obtain ⟨b2, rfl, h⟩ := h
  show V0 E (d + 1) qX4_takeComparison 6 [some (vR 77), none] [vB b2] τ1 Q
  refine u_if_eq (tgt := 15) (pc' := 9) dX4_takeComparison_6 rfl (by decide) (bI_R _) (fun hb => ?_) (fun hb => ?_)
  · have h := h.1 (bI_0.mp hb)
    refine u_aload_n (i := 0) (pc' := 16) dX4_takeComparison_15 rfl rfl rfl ?_
    refine u_bipush (pc' := 18) dX4_takeComparison_16 rfl (by decide) ?_
    refine u_invV (q' := qX4_seesSign) (As := [vI 62]) (st := []) (pc' := 21) dX4_takeComparison_18 rfl gX4_seesSign wm_597 rfl rfl (by decide) kd_77 wm_599 wp_13 rfl (Nat.le_of_ble_eq_true rfl) (M0.mono h (fun v τ3 h => ?_))
    obtain ⟨b4, rfl, h⟩ := h
    show V0 E (d + 1) qX4_takeComparison 21 [some (vR 77), none] [vB b4] τ3 Q
    refine u_if_eq (tgt := 30) (pc' := 24) dX4_takeComparison_21 rfl (by decide) (bI_R _) (fun hb => ?_) (fun hb => ?_)
    · have h := h.1 (bI_0.mp hb)
      refine u_aload_n (i := 0) (pc' := 31) dX4_takeComparison_30 rfl rfl rfl ?_
      refine u_bipush (pc' := 33) dX4_takeComparison_31 rfl (by decide) ?_
      refine u_invV (q' := qX4_seesSign) (As := [vI 61]) (st := []) (pc' := 36) dX4_takeComparison_33 rfl gX4_seesSign wm_597 rfl rfl (by decide) kd_77 wm_599 wp_13 rfl (Nat.le_of_ble_eq_true rfl) (M0.mono h (fun v τ5 h => ?_))
      obtain ⟨b6, rfl, h⟩ := h
      show V0 E (d + 1) qX4_takeComparison 36 [some (vR 77), none] [vB b6] τ5 Q
      refine u_if_eq (tgt := 45) (pc' := 39) dX4_takeComparison_36 rfl (by decide) (bI_R _) (fun hb => ?_) (fun hb => ?_)
      · have h := h.1 (bI_0.mp hb)
        refine u_aload_n (i := 0) (pc' := 46) dX4_takeComparison_45 rfl rfl rfl ?_
        refine u_iconst (pc' := 47) dX4_takeComparison_46 rfl ?_
        refine u_invV (q' := qX4_fail) (As := [vI 1]) (st := []) (pc' := 50) dX4_takeComparison_47 rfl gX4_fail wm_585 rfl rfl (by decide) kd_77 wm_587 wp_10 rfl (Nat.le_of_ble_eq_true rfl) (M0.mono h (fun v τ7 h => ?_))
        obtain ⟨b8, rfl, h⟩ := h
        show V0 E (d + 1) qX4_takeComparison 50 [some (vR 77), none] [vB b8] τ7 Q
        refine u_pop (pc' := 51) dX4_takeComparison_50 rfl (fun _ hh => by cases hh) ?_
        refine u_iconst (pc' := 52) dX4_takeComparison_51 rfl ?_
        exact u_iret dX4_takeComparison_52 rfl h
      · have h := h.2 (bI_n0.mp hb)
        refine u_bipush (pc' := 41) dX4_takeComparison_39 rfl (by decide) ?_
        refine s_istore_n (i := 1) (ls' := [some (vR 77), some (vI (-17))]) (pc' := 42) dX4_takeComparison_41 rfl rfl (Nat.le_of_ble_eq_true rfl) rfl rfl ?_
        refine u_goto (tgt := 53) dX4_takeComparison_42 (by decide) ?_
        refine u_aload_n (i := 0) (pc' := 54) dX4_takeComparison_53 rfl rfl rfl ?_
        refine u_invV (q' := qX4_advance) (As := []) (st := []) (pc' := 57) dX4_takeComparison_54 rfl gX4_advance wm_569 rfl rfl (by decide) kd_77 wm_571 wp_6 rfl (Nat.le_of_ble_eq_true rfl) (M0.mono h (fun v τ9 h => ?_))
        obtain ⟨rfl, h⟩ := h
        show V0 E (d + 1) qX4_takeComparison 57 [some (vR 77), some (vI (-17))] [] τ9 Q
        refine u_iload_n (i := 1) (pc' := 58) dX4_takeComparison_57 rfl rfl rfl ?_
        exact u_iret dX4_takeComparison_58 rfl h
    · have h := h.2 (bI_n0.mp hb)
      refine u_bipush (pc' := 26) dX4_takeComparison_24 rfl (by decide) ?_
      refine s_istore_n (i := 1) (ls' := [some (vR 77), some (vI (-16))]) (pc' := 27) dX4_takeComparison_26 rfl rfl (Nat.le_of_ble_eq_true rfl) rfl rfl ?_
      refine u_goto (tgt := 53) dX4_takeComparison_27 (by decide) ?_
      refine u_aload_n (i := 0) (pc' := 54) dX4_takeComparison_53 rfl rfl rfl ?_
      refine u_invV (q' := qX4_advance) (As := []) (st := []) (pc' := 57) dX4_takeComparison_54 rfl gX4_advance wm_569 rfl rfl (by decide) kd_77 wm_571 wp_6 rfl (Nat.le_of_ble_eq_true rfl) (M0.mono h (fun v τ10 h => ?_))
      obtain ⟨rfl, h⟩ := h
      show V0 E (d + 1) qX4_takeComparison 57 [some (vR 77), some (vI (-16))] [] τ10 Q
      refine u_iload_n (i := 1) (pc' := 58) dX4_takeComparison_57 rfl rfl rfl ?_
      exact u_iret dX4_takeComparison_58 rfl h
  · have h := h.2 (bI_n0.mp hb)
    refine u_bipush (pc' := 11) dX4_takeComparison_9 rfl (by decide) ?_
    refine s_istore_n (i := 1) (ls' := [some (vR 77), some (vI (-15))]) (pc' := 12) dX4_takeComparison_11 rfl rfl (Nat.le_of_ble_eq_true rfl) rfl rfl ?_
    refine u_goto (tgt := 53) dX4_takeComparison_12 (by decide) ?_
    refine u_aload_n (i := 0) (pc' := 54) dX4_takeComparison_53 rfl rfl rfl ?_
    refine u_invV (q' := qX4_advance) (As := []) (st := []) (pc' := 57) dX4_takeComparison_54 rfl gX4_advance wm_569 rfl rfl (by decide) kd_77 wm_571 wp_6 rfl (Nat.le_of_ble_eq_true rfl) (M0.mono h (fun v τ11 h => ?_))
    obtain ⟨rfl, h⟩ := h
    show V0 E (d + 1) qX4_takeComparison 57 [some (vR 77), some (vI (-15))] [] τ11 Q
    refine u_iload_n (i := 1) (pc' := 58) dX4_takeComparison_57 rfl rfl rfl ?_
    exact u_iret dX4_takeComparison_58 rfl h
theorem mX4_takeComparison {E : mm_Env} {d : Nat} {τ : mm_Mem} {Q : mm_Q0}  (h : M0 E d qX4_seesSign [vR 77, vI 60] τ (fun v τ1 => ∃ b2 : Bool, v = some (vB b2) ∧ ((b2 = false → M0 E d qX4_seesSign [vR 77, vI 62] τ1 (fun v τ3 => ∃ b4 : Bool, v = some (vB b4) ∧ ((b4 = false → M0 E d qX4_seesSign [vR 77, vI 61] τ3 (fun v τ5 => ∃ b6 : Bool, v = some (vB b6) ∧ ((b6 = false → M0 E d qX4_fail [vR 77, vI 1] τ5 (fun v τ7 => ∃ b8 : Bool, v = some (vB b8) ∧ Q (some (vI (-1))) τ7)) ∧ (b6 = true → M0 E d qX4_advance [vR 77] τ5 (fun v τ9 => v = none ∧ Q (some (vI (-17))) τ9))))) ∧ (b4 = true → M0 E d qX4_advance [vR 77] τ3 (fun v τ10 => v = none ∧ Q (some (vI (-16))) τ10))))) ∧ (b2 = true → M0 E d qX4_advance [vR 77] τ1 (fun v τ11 => v = none ∧ Q (some (vI (-15))) τ11))))) : M0 E (d + 1) qX4_takeComparison [vR 77] τ Q := M0_of rfl (Nat.le_of_ble_eq_true rfl) [some (vR 77), none] rfl (bX4_takeComparison_0  h)
set_option maxRecDepth 20000 in
theorem bX4_readDoor_0 {E : mm_Env} {d : Nat} {τ : mm_Mem} {Q : mm_Q0}  (h : ∃ o1 : Nat, (τ 77 1) = (o1 : Int) ∧ KD o1 = some (.inr 2) ∧ (((τ o1 3) < 4 → M0 E d qX4_advance [vR 77] τ (fun v τ5 => v = none ∧ M0 E d qX4_readNewName [vR 77] τ5 (fun v τ6 => ∃ b7 : Bool, v = some (vB b7) ∧ ((b7 = true → ∃ o8 : Nat, (τ6 77 1) = (o8 : Int) ∧ KD o8 = some (.inr 2) ∧ ∃ o11 : Nat, (τ6 77 1) = (o11 : Int) ∧ KD o11 = some (.inr 2) ∧ 0 ≤ (τ6 o11 3) ∧ (τ6 o11 3) < 4 ∧ M0 E d qX0_begin [vR (o8 + 14 + 4 * (τ6 o11 3).toNat), vI (τ6 77 6)] τ6 (fun v τ19 => v = none ∧ ∃ o20 : Nat, (τ19 77 1) = (o20 : Int) ∧ KD o20 = some (.inr 2) ∧ inR ((τ19 o20 3) + 1) ∧ ((((wr τ19 o20 3 ((τ19 o20 3) + 1)) 77 3) ≠ 4 → M0 E d qX4_fail [vR 77, vI 1] (wr τ19 o20 3 ((τ19 o20 3) + 1)) (fun v τ26 => ∃ b27 : Bool, v = some (vB b27) ∧ Q (some (vB b27)) τ26)) ∧ (((wr τ19 o20 3 ((τ19 o20 3) + 1)) 77 3) = 4 → ((((wr τ19 o20 3 ((τ19 o20 3) + 1)) 77 4) < 8 → M0 E d qX4_fail [vR 77, vI 1] (wr τ19 o20 3 ((τ19 o20 3) + 1)) (fun v τ29 => ∃ b30 : Bool, v = some (vB b30) ∧ Q (some (vB b30)) τ29)) ∧ (¬ ((wr τ19 o20 3 ((τ19 o20 3) + 1)) 77 4) < 8 → ((((wr τ19 o20 3 ((τ19 o20 3) + 1)) 77 4) ≤ 12 → inR (((wr τ19 o20 3 ((τ19 o20 3) + 1)) 77 4) - 8) ∧ M0 E d qX4_advance [vR 77] (wr (wr τ19 o20 3 ((τ19 o20 3) + 1)) (o8 + 14 + 4 * (τ6 o11 3).toNat) 1 (((wr τ19 o20 3 ((τ19 o20 3) + 1)) 77 4) - 8)) (fun v τ34 => v = none ∧ (((τ34 (o8 + 14 + 4 * (τ6 o11 3).toNat) 1) = 0 → Q (some (vB true)) τ34) ∧ (¬ (τ34 (o8 + 14 + 4 * (τ6 o11 3).toNat) 1) = 0 → M0 E d qX4_readKindNumbers [vR 77, vR (o8 + 14 + 4 * (τ6 o11 3).toNat)] τ34 (fun v τ36 => ∃ b37 : Bool, v = some (vB b37) ∧ ((b37 = false → Q (some (vB false)) τ36) ∧ (b37 = true → Q (some (vB true)) τ36))))))) ∧ (¬ ((wr τ19 o20 3 ((τ19 o20 3) + 1)) 77 4) ≤ 12 → M0 E d qX4_fail [vR 77, vI 1] (wr τ19 o20 3 ((τ19 o20 3) + 1)) (fun v τ38 => ∃ b39 : Bool, v = some (vB b39) ∧ Q (some (vB b39)) τ38))))))))) ∧ (b7 = false → Q (some (vB false)) τ6))))) ∧ (¬ (τ o1 3) < 4 → M0 E d qX4_fail [vR 77, vI 5] τ (fun v τ40 => ∃ b41 : Bool, v = some (vB b41) ∧ Q (some (vB b41)) τ40)))) : V0 E (d + 1) qX4_readDoor 0 [some (vR 77), none] [] τ Q := by
  refine u_aload_n (i := 0) (pc' := 1) dX4_readDoor_0 rfl rfl rfl ?_
  obtain ⟨o1, z2, k3, h⟩ := h
  refine u_getD (a := o1) (pc' := 4) dX4_readDoor_1 rfl fl_TuneDoor_Reader_19 rfl (by decide) kd_77 rfl (z2) ?_
  refine u_getI (z := (τ o1 3)) (pc' := 7) dX4_readDoor_4 rfl fl_TuneDoor_Reader_145 rfl (by decide) (kHouse k3).1 k3 rfl (fun r4 => ?_)
  refine u_iconst (pc' := 8) dX4_readDoor_7 rfl ?_
  refine u_icmp_lt (tgt := 17) (pc' := 11) dX4_readDoor_8 rfl (by decide) r4 ⟨by decide, by decide⟩ (fun hb => ?_) (fun hb => ?_)
  · have h := h.1 hb
    refine u_aload_n (i := 0) (pc' := 18) dX4_readDoor_17 rfl rfl rfl ?_
    refine u_invV (q' := qX4_advance) (As := []) (st := []) (pc' := 21) dX4_readDoor_18 rfl gX4_advance wm_569 rfl rfl (by decide) kd_77 wm_571 wp_6 rfl (Nat.le_of_ble_eq_true rfl) (M0.mono h (fun v τ5 h => ?_))
    obtain ⟨rfl, h⟩ := h
    show V0 E (d + 1) qX4_readDoor 21 [some (vR 77), none] [] τ5 Q
    refine u_aload_n (i := 0) (pc' := 22) dX4_readDoor_21 rfl rfl rfl ?_
    refine u_invV (q' := qX4_readNewName) (As := []) (st := []) (pc' := 25) dX4_readDoor_22 rfl gX4_readNewName wm_609 rfl rfl (by decide) kd_77 wm_611 wp_16 rfl (Nat.le_of_ble_eq_true rfl) (M0.mono h (fun v τ6 h => ?_))
    obtain ⟨b7, rfl, h⟩ := h
    show V0 E (d + 1) qX4_readDoor 25 [some (vR 77), none] [vB b7] τ6 Q
    refine u_if_ne (tgt := 30) (pc' := 28) dX4_readDoor_25 rfl (by decide) (bI_R _) (fun hb => ?_) (fun hb => ?_)
    · have h := h.1 (bI_n0.mp hb)
      refine u_aload_n (i := 0) (pc' := 31) dX4_readDoor_30 rfl rfl rfl ?_
      obtain ⟨o8, z9, k10, h⟩ := h
      refine u_getD (a := o8) (pc' := 34) dX4_readDoor_31 rfl fl_TuneDoor_Reader_19 rfl (by decide) kd_77 rfl (z9) ?_
      refine u_getR (a := (o8 + 4)) (pc' := 37) dX4_readDoor_34 rfl fl_TuneDoor_Reader_148 rfl (kHouse k10).1 k10 (kHouse k10).2.2.2.2.1 ?_
      refine u_aload_n (i := 0) (pc' := 38) dX4_readDoor_37 rfl rfl rfl ?_
      obtain ⟨o11, z12, k13, h⟩ := h
      refine u_getD (a := o11) (pc' := 41) dX4_readDoor_38 rfl fl_TuneDoor_Reader_19 rfl (by decide) kd_77 rfl (z12) ?_
      refine u_getI (z := (τ6 o11 3)) (pc' := 44) dX4_readDoor_41 rfl fl_TuneDoor_Reader_145 rfl (by decide) (kHouse k13).1 k13 rfl (fun r14 => ?_)
      obtain ⟨c15, c16, h⟩ := h
      have j17 : (τ6 o11 3).toNat < 4 := by omega
      refine u_aaload_D (k := (τ6 o11 3).toNat) (a := (o8 + 14 + 4 * (τ6 o11 3).toNat)) (pc' := 45) dX4_readDoor_44 rfl (Nat.le_trans (kHouse k10).1 (Nat.le_add_right _ _)) (kHouse k10).2.2.2.2.2.2.2.2.2.2.1 c15 c16 (by decide) rfl (kHouseD k10 j17).1 ?_
      refine s_astore_n (i := 1) (ls' := [some (vR 77), some (vR (o8 + 14 + 4 * (τ6 o11 3).toNat))]) (pc' := 46) dX4_readDoor_45 rfl rfl (Nat.le_of_ble_eq_true rfl) rfl rfl ?_
      refine u_aload_n (i := 1) (pc' := 47) dX4_readDoor_46 rfl rfl rfl ?_
      refine u_aload_n (i := 0) (pc' := 48) dX4_readDoor_47 rfl rfl rfl ?_
      refine u_getI (z := (τ6 77 6)) (pc' := 51) dX4_readDoor_48 rfl fl_TuneDoor_Reader_78 rfl (by decide) (by decide) kd_77 rfl (fun r18 => ?_)
      refine u_invV (q' := qX0_begin) (As := [vI (τ6 77 6)]) (st := []) (pc' := 54) dX4_readDoor_51 rfl gX0_begin wm_708 rfl rfl (by omega) (kHouseD k10 j17).2 wm_709 wm_710 rfl (Nat.le_of_ble_eq_true rfl) (M0.mono h (fun v τ19 h => ?_))
      obtain ⟨rfl, h⟩ := h
      show V0 E (d + 1) qX4_readDoor 54 [some (vR 77), some (vR (o8 + 14 + 4 * (τ6 o11 3).toNat))] [] τ19 Q
      refine u_aload_n (i := 0) (pc' := 55) dX4_readDoor_54 rfl rfl rfl ?_
      obtain ⟨o20, z21, k22, h⟩ := h
      refine u_getD (a := o20) (pc' := 58) dX4_readDoor_55 rfl fl_TuneDoor_Reader_19 rfl (by decide) kd_77 rfl (z21) ?_
      refine u_dup (pc' := 59) dX4_readDoor_58 rfl (fun _ hh => by cases hh) ?_
      refine u_getI (z := (τ19 o20 3)) (pc' := 62) dX4_readDoor_59 rfl fl_TuneDoor_Reader_145 rfl (by decide) (kHouse k22).1 k22 rfl (fun r23 => ?_)
      refine u_iconst (pc' := 63) dX4_readDoor_62 rfl ?_
      refine u_iadd (pc' := 64) dX4_readDoor_63 rfl ?_
      obtain ⟨c24, h⟩ := h
      refine u_putI (pc' := 67) dX4_readDoor_64 rfl fl_TuneDoor_Reader_145 rfl rfl (by decide) (kHouse k22).1 k22 c24 ?_
      refine u_aload_n (i := 0) (pc' := 68) dX4_readDoor_67 rfl rfl rfl ?_
      refine u_getI (z := ((wr τ19 o20 3 ((τ19 o20 3) + 1)) 77 3)) (pc' := 71) dX4_readDoor_68 rfl fl_TuneDoor_Reader_44 rfl (by decide) (by decide) kd_77 rfl (fun r25 => ?_)
      refine u_iconst (pc' := 72) dX4_readDoor_71 rfl ?_
      refine u_icmp_ne (tgt := 93) (pc' := 75) dX4_readDoor_72 rfl (by decide) r25 ⟨by decide, by decide⟩ (fun hb => ?_) (fun hb => ?_)
      · have h := h.1 hb
        refine u_aload_n (i := 0) (pc' := 94) dX4_readDoor_93 rfl rfl rfl ?_
        refine u_iconst (pc' := 95) dX4_readDoor_94 rfl ?_
        refine u_invV (q' := qX4_fail) (As := [vI 1]) (st := []) (pc' := 98) dX4_readDoor_95 rfl gX4_fail wm_585 rfl rfl (by decide) kd_77 wm_587 wp_10 rfl (Nat.le_of_ble_eq_true rfl) (M0.mono h (fun v τ26 h => ?_))
        obtain ⟨b27, rfl, h⟩ := h
        show V0 E (d + 1) qX4_readDoor 98 [some (vR 77), some (vR (o8 + 14 + 4 * (τ6 o11 3).toNat))] [vB b27] τ26 Q
        exact u_zret (b := b27) dX4_readDoor_98 rfl rfl h
      · have h := h.2 hb
        refine u_aload_n (i := 0) (pc' := 76) dX4_readDoor_75 rfl rfl rfl ?_
        refine u_getI (z := ((wr τ19 o20 3 ((τ19 o20 3) + 1)) 77 4)) (pc' := 79) dX4_readDoor_76 rfl fl_TuneDoor_Reader_62 rfl (by decide) (by decide) kd_77 rfl (fun r28 => ?_)
        refine u_bipush (pc' := 81) dX4_readDoor_79 rfl (by decide) ?_
        refine u_icmp_lt (tgt := 93) (pc' := 84) dX4_readDoor_81 rfl (by decide) r28 ⟨by decide, by decide⟩ (fun hb => ?_) (fun hb => ?_)
        · have h := h.1 hb
          refine u_aload_n (i := 0) (pc' := 94) dX4_readDoor_93 rfl rfl rfl ?_
          refine u_iconst (pc' := 95) dX4_readDoor_94 rfl ?_
          refine u_invV (q' := qX4_fail) (As := [vI 1]) (st := []) (pc' := 98) dX4_readDoor_95 rfl gX4_fail wm_585 rfl rfl (by decide) kd_77 wm_587 wp_10 rfl (Nat.le_of_ble_eq_true rfl) (M0.mono h (fun v τ29 h => ?_))
          obtain ⟨b30, rfl, h⟩ := h
          show V0 E (d + 1) qX4_readDoor 98 [some (vR 77), some (vR (o8 + 14 + 4 * (τ6 o11 3).toNat))] [vB b30] τ29 Q
          exact u_zret (b := b30) dX4_readDoor_98 rfl rfl h
        · have h := h.2 hb
          refine u_aload_n (i := 0) (pc' := 85) dX4_readDoor_84 rfl rfl rfl ?_
          refine u_getI (z := ((wr τ19 o20 3 ((τ19 o20 3) + 1)) 77 4)) (pc' := 88) dX4_readDoor_85 rfl fl_TuneDoor_Reader_62 rfl (by decide) (by decide) kd_77 rfl (fun r31 => ?_)
          refine u_bipush (pc' := 90) dX4_readDoor_88 rfl (by decide) ?_
          refine u_icmp_le (tgt := 99) (pc' := 93) dX4_readDoor_90 rfl (by decide) r31 ⟨by decide, by decide⟩ (fun hb => ?_) (fun hb => ?_)
          · have h := h.1 hb
            refine u_aload_n (i := 1) (pc' := 100) dX4_readDoor_99 rfl rfl rfl ?_
            refine u_aload_n (i := 0) (pc' := 101) dX4_readDoor_100 rfl rfl rfl ?_
            refine u_getI (z := ((wr τ19 o20 3 ((τ19 o20 3) + 1)) 77 4)) (pc' := 104) dX4_readDoor_101 rfl fl_TuneDoor_Reader_62 rfl (by decide) (by decide) kd_77 rfl (fun r32 => ?_)
            refine u_bipush (pc' := 106) dX4_readDoor_104 rfl (by decide) ?_
            refine u_isub (pc' := 107) dX4_readDoor_106 rfl ?_
            obtain ⟨c33, h⟩ := h
            refine u_putI (pc' := 110) dX4_readDoor_107 rfl fl_TuneDoor_Reader_158 rfl rfl (by decide) (by omega) (kHouseD k10 j17).2 c33 ?_
            refine u_aload_n (i := 0) (pc' := 111) dX4_readDoor_110 rfl rfl rfl ?_
            refine u_invV (q' := qX4_advance) (As := []) (st := []) (pc' := 114) dX4_readDoor_111 rfl gX4_advance wm_569 rfl rfl (by decide) kd_77 wm_571 wp_6 rfl (Nat.le_of_ble_eq_true rfl) (M0.mono h (fun v τ34 h => ?_))
            obtain ⟨rfl, h⟩ := h
            show V0 E (d + 1) qX4_readDoor 114 [some (vR 77), some (vR (o8 + 14 + 4 * (τ6 o11 3).toNat))] [] τ34 Q
            refine u_aload_n (i := 1) (pc' := 115) dX4_readDoor_114 rfl rfl rfl ?_
            refine u_getI (z := (τ34 (o8 + 14 + 4 * (τ6 o11 3).toNat) 1)) (pc' := 118) dX4_readDoor_115 rfl fl_TuneDoor_Reader_158 rfl (by decide) (by omega) (kHouseD k10 j17).2 rfl (fun r35 => ?_)
            refine u_if_eq (tgt := 129) (pc' := 121) dX4_readDoor_118 rfl (by decide) r35 (fun hb => ?_) (fun hb => ?_)
            · have h := h.1 hb
              refine u_iconst (pc' := 130) dX4_readDoor_129 rfl ?_
              refine u_goto (tgt := 134) dX4_readDoor_130 (by decide) ?_
              exact u_zret (b := true) dX4_readDoor_134 rfl rfl h
            · have h := h.2 hb
              refine u_aload_n (i := 0) (pc' := 122) dX4_readDoor_121 rfl rfl rfl ?_
              refine u_aload_n (i := 1) (pc' := 123) dX4_readDoor_122 rfl rfl rfl ?_
              refine u_invV (q' := qX4_readKindNumbers) (As := [vR (o8 + 14 + 4 * (τ6 o11 3).toNat)]) (st := []) (pc' := 126) dX4_readDoor_123 rfl gX4_readKindNumbers wm_713 rfl rfl (by decide) kd_77 wm_715 wp_30 rfl (Nat.le_of_ble_eq_true rfl) (M0.mono h (fun v τ36 h => ?_))
              obtain ⟨b37, rfl, h⟩ := h
              show V0 E (d + 1) qX4_readDoor 126 [some (vR 77), some (vR (o8 + 14 + 4 * (τ6 o11 3).toNat))] [vB b37] τ36 Q
              refine u_if_eq (tgt := 133) (pc' := 129) dX4_readDoor_126 rfl (by decide) (bI_R _) (fun hb => ?_) (fun hb => ?_)
              · have h := h.1 (bI_0.mp hb)
                refine u_iconst (pc' := 134) dX4_readDoor_133 rfl ?_
                exact u_zret (b := false) dX4_readDoor_134 rfl rfl h
              · have h := h.2 (bI_n0.mp hb)
                refine u_iconst (pc' := 130) dX4_readDoor_129 rfl ?_
                refine u_goto (tgt := 134) dX4_readDoor_130 (by decide) ?_
                exact u_zret (b := true) dX4_readDoor_134 rfl rfl h
          · have h := h.2 hb
            refine u_aload_n (i := 0) (pc' := 94) dX4_readDoor_93 rfl rfl rfl ?_
            refine u_iconst (pc' := 95) dX4_readDoor_94 rfl ?_
            refine u_invV (q' := qX4_fail) (As := [vI 1]) (st := []) (pc' := 98) dX4_readDoor_95 rfl gX4_fail wm_585 rfl rfl (by decide) kd_77 wm_587 wp_10 rfl (Nat.le_of_ble_eq_true rfl) (M0.mono h (fun v τ38 h => ?_))
            obtain ⟨b39, rfl, h⟩ := h
            show V0 E (d + 1) qX4_readDoor 98 [some (vR 77), some (vR (o8 + 14 + 4 * (τ6 o11 3).toNat))] [vB b39] τ38 Q
            exact u_zret (b := b39) dX4_readDoor_98 rfl rfl h
    · have h := h.2 (bI_0.mp hb)
      refine u_iconst (pc' := 29) dX4_readDoor_28 rfl ?_
      exact u_zret (b := false) dX4_readDoor_29 rfl rfl h
  · have h := h.2 hb
    refine u_aload_n (i := 0) (pc' := 12) dX4_readDoor_11 rfl rfl rfl ?_
    refine u_iconst (pc' := 13) dX4_readDoor_12 rfl ?_
    refine u_invV (q' := qX4_fail) (As := [vI 5]) (st := []) (pc' := 16) dX4_readDoor_13 rfl gX4_fail wm_585 rfl rfl (by decide) kd_77 wm_587 wp_10 rfl (Nat.le_of_ble_eq_true rfl) (M0.mono h (fun v τ40 h => ?_))
    obtain ⟨b41, rfl, h⟩ := h
    show V0 E (d + 1) qX4_readDoor 16 [some (vR 77), none] [vB b41] τ40 Q
    exact u_zret (b := b41) dX4_readDoor_16 rfl rfl h
theorem mX4_readDoor {E : mm_Env} {d : Nat} {τ : mm_Mem} {Q : mm_Q0}  (h : ∃ o1 : Nat, (τ 77 1) = (o1 : Int) ∧ KD o1 = some (.inr 2) ∧ (((τ o1 3) < 4 → M0 E d qX4_advance [vR 77] τ (fun v τ5 => v = none ∧ M0 E d qX4_readNewName [vR 77] τ5 (fun v τ6 => ∃ b7 : Bool, v = some (vB b7) ∧ ((b7 = true → ∃ o8 : Nat, (τ6 77 1) = (o8 : Int) ∧ KD o8 = some (.inr 2) ∧ ∃ o11 : Nat, (τ6 77 1) = (o11 : Int) ∧ KD o11 = some (.inr 2) ∧ 0 ≤ (τ6 o11 3) ∧ (τ6 o11 3) < 4 ∧ M0 E d qX0_begin [vR (o8 + 14 + 4 * (τ6 o11 3).toNat), vI (τ6 77 6)] τ6 (fun v τ19 => v = none ∧ ∃ o20 : Nat, (τ19 77 1) = (o20 : Int) ∧ KD o20 = some (.inr 2) ∧ inR ((τ19 o20 3) + 1) ∧ ((((wr τ19 o20 3 ((τ19 o20 3) + 1)) 77 3) ≠ 4 → M0 E d qX4_fail [vR 77, vI 1] (wr τ19 o20 3 ((τ19 o20 3) + 1)) (fun v τ26 => ∃ b27 : Bool, v = some (vB b27) ∧ Q (some (vB b27)) τ26)) ∧ (((wr τ19 o20 3 ((τ19 o20 3) + 1)) 77 3) = 4 → ((((wr τ19 o20 3 ((τ19 o20 3) + 1)) 77 4) < 8 → M0 E d qX4_fail [vR 77, vI 1] (wr τ19 o20 3 ((τ19 o20 3) + 1)) (fun v τ29 => ∃ b30 : Bool, v = some (vB b30) ∧ Q (some (vB b30)) τ29)) ∧ (¬ ((wr τ19 o20 3 ((τ19 o20 3) + 1)) 77 4) < 8 → ((((wr τ19 o20 3 ((τ19 o20 3) + 1)) 77 4) ≤ 12 → inR (((wr τ19 o20 3 ((τ19 o20 3) + 1)) 77 4) - 8) ∧ M0 E d qX4_advance [vR 77] (wr (wr τ19 o20 3 ((τ19 o20 3) + 1)) (o8 + 14 + 4 * (τ6 o11 3).toNat) 1 (((wr τ19 o20 3 ((τ19 o20 3) + 1)) 77 4) - 8)) (fun v τ34 => v = none ∧ (((τ34 (o8 + 14 + 4 * (τ6 o11 3).toNat) 1) = 0 → Q (some (vB true)) τ34) ∧ (¬ (τ34 (o8 + 14 + 4 * (τ6 o11 3).toNat) 1) = 0 → M0 E d qX4_readKindNumbers [vR 77, vR (o8 + 14 + 4 * (τ6 o11 3).toNat)] τ34 (fun v τ36 => ∃ b37 : Bool, v = some (vB b37) ∧ ((b37 = false → Q (some (vB false)) τ36) ∧ (b37 = true → Q (some (vB true)) τ36))))))) ∧ (¬ ((wr τ19 o20 3 ((τ19 o20 3) + 1)) 77 4) ≤ 12 → M0 E d qX4_fail [vR 77, vI 1] (wr τ19 o20 3 ((τ19 o20 3) + 1)) (fun v τ38 => ∃ b39 : Bool, v = some (vB b39) ∧ Q (some (vB b39)) τ38))))))))) ∧ (b7 = false → Q (some (vB false)) τ6))))) ∧ (¬ (τ o1 3) < 4 → M0 E d qX4_fail [vR 77, vI 5] τ (fun v τ40 => ∃ b41 : Bool, v = some (vB b41) ∧ Q (some (vB b41)) τ40)))) : M0 E (d + 1) qX4_readDoor [vR 77] τ Q := M0_of rfl (Nat.le_of_ble_eq_true rfl) [some (vR 77), none] rfl (bX4_readDoor_0  h)
set_option maxRecDepth 20000 in
theorem bX4_readKindNumbers_0 {E : mm_Env} {d : Nat} {τ : mm_Mem} {Q : mm_Q0} {a0 : Nat} (k_a0 : KD a0 = some (.inr 0)) (h : (((τ a0 1) ≠ 2 → V0 E (d + 1) qX4_readKindNumbers 14 [some (vR 77), some (vR a0), none] [vI 0, vR 77] τ Q) ∧ ((τ a0 1) = 2 → V0 E (d + 1) qX4_readKindNumbers 14 [some (vR 77), some (vR a0), none] [vI 1, vR 77] τ Q))) : V0 E (d + 1) qX4_readKindNumbers 0 [some (vR 77), some (vR a0), none] [] τ Q := by
  refine u_aload_n (i := 0) (pc' := 1) dX4_readKindNumbers_0 rfl rfl rfl ?_
  refine u_aload_n (i := 1) (pc' := 2) dX4_readKindNumbers_1 rfl rfl rfl ?_
  refine u_getI (z := (τ a0 1)) (pc' := 5) dX4_readKindNumbers_2 rfl fl_TuneDoor_Reader_158 rfl (by decide) (kDoor k_a0).1 k_a0 rfl (fun r1 => ?_)
  refine u_iconst (pc' := 6) dX4_readKindNumbers_5 rfl ?_
  refine u_icmp_ne (tgt := 13) (pc' := 9) dX4_readKindNumbers_6 rfl (by decide) r1 ⟨by decide, by decide⟩ (fun hb => ?_) (fun hb => ?_)
  · have h := h.1 hb
    refine u_iconst (pc' := 14) dX4_readKindNumbers_13 rfl ?_
    exact u_less (ls' := [some (vR 77), some (vR a0), none]) ⟨rfl, ⟨rfl, trivial⟩⟩ h
  · have h := h.2 hb
    refine u_iconst (pc' := 10) dX4_readKindNumbers_9 rfl ?_
    refine u_goto (tgt := 14) dX4_readKindNumbers_10 (by decide) ?_
    exact u_less (ls' := [some (vR 77), some (vR a0), none]) ⟨rfl, ⟨rfl, trivial⟩⟩ h
theorem mX4_readKindNumbers {E : mm_Env} {d : Nat} {τ : mm_Mem} {Q : mm_Q0} {a0 : Nat} (k_a0 : KD a0 = some (.inr 0)) (h : (((τ a0 1) ≠ 2 → V0 E (d + 1) qX4_readKindNumbers 14 [some (vR 77), some (vR a0), none] [vI 0, vR 77] τ Q) ∧ ((τ a0 1) = 2 → V0 E (d + 1) qX4_readKindNumbers 14 [some (vR 77), some (vR a0), none] [vI 1, vR 77] τ Q))) : M0 E (d + 1) qX4_readKindNumbers [vR 77, vR a0] τ Q := M0_of rfl (Nat.le_of_ble_eq_true rfl) [some (vR 77), some (vR a0), none] rfl (bX4_readKindNumbers_0 k_a0 h)
set_option maxRecDepth 20000 in
theorem bX4_readKindNumbers_14 {E : mm_Env} {d : Nat} {τ : mm_Mem} {Q : mm_Q0} {x1 : Nat} {y0 : Int} (k_x1 : KD x1 = some (.inr 0)) (h : M0 E d qX4_readNumber [vR 77, vI y0, vI 40] τ (fun v τ1 => ∃ b2 : Bool, v = some (vB b2) ∧ ((b2 = true → (((τ1 x1 1) < 1 ∨ 4 < (τ1 x1 1) → Q (some (vB true)) (wr τ1 x1 2 (τ1 77 6))) ∧ ((τ1 x1 1) = 1 → M0 E d qX4_readNumber [vR 77, vI 0, vI 9] (wr τ1 x1 2 (τ1 77 6)) (fun v τ5 => ∃ b6 : Bool, v = some (vB b6) ∧ Q (some (vB b6)) (wr τ5 x1 3 (τ5 77 6)))) ∧ ((τ1 x1 1) = 2 → Q (some (vB true)) (wr τ1 x1 2 (τ1 77 6))) ∧ ((τ1 x1 1) = 3 → M0 E d qX4_readNumber [vR 77, vI 0, vI 4] (wr τ1 x1 2 (τ1 77 6)) (fun v τ8 => ∃ b9 : Bool, v = some (vB b9) ∧ Q (some (vB b9)) (wr τ8 x1 3 (τ8 77 6)))) ∧ ((τ1 x1 1) = 4 → M0 E d qX4_readNumber [vR 77, vI 1, vI 9] (wr τ1 x1 2 (τ1 77 6)) (fun v τ11 => ∃ b12 : Bool, v = some (vB b12) ∧ Q (some (vB b12)) (wr τ11 x1 3 (τ11 77 6)))))) ∧ (b2 = false → Q (some (vB false)) τ1)))) : V0 E (d + 1) qX4_readKindNumbers 14 [some (vR 77), some (vR x1), none] [vI y0, vR 77] τ Q := by
  refine u_bipush (pc' := 16) dX4_readKindNumbers_14 rfl (by decide) ?_
  refine u_invV (q' := qX4_readNumber) (As := [vI y0, vI 40]) (st := []) (pc' := 19) dX4_readKindNumbers_16 rfl gX4_readNumber wm_589 rfl rfl (by decide) kd_77 wm_591 wp_11 rfl (Nat.le_of_ble_eq_true rfl) (M0.mono h (fun v τ1 h => ?_))
  obtain ⟨b2, rfl, h⟩ := h
  show V0 E (d + 1) qX4_readKindNumbers 19 [some (vR 77), some (vR x1), none] [vB b2] τ1 Q
  refine u_if_ne (tgt := 24) (pc' := 22) dX4_readKindNumbers_19 rfl (by decide) (bI_R _) (fun hb => ?_) (fun hb => ?_)
  · have h := h.1 (bI_n0.mp hb)
    refine u_aload_n (i := 1) (pc' := 25) dX4_readKindNumbers_24 rfl rfl rfl ?_
    refine u_aload_n (i := 0) (pc' := 26) dX4_readKindNumbers_25 rfl rfl rfl ?_
    refine u_getI (z := (τ1 77 6)) (pc' := 29) dX4_readKindNumbers_26 rfl fl_TuneDoor_Reader_78 rfl (by decide) (by decide) kd_77 rfl (fun r3 => ?_)
    refine u_putI (pc' := 32) dX4_readKindNumbers_29 rfl fl_TuneDoor_Reader_163 rfl rfl (by decide) (kDoor k_x1).1 k_x1 r3 ?_
    refine u_aload_n (i := 1) (pc' := 33) dX4_readKindNumbers_32 rfl rfl rfl ?_
    refine u_getI (z := (τ1 x1 1)) (pc' := 36) dX4_readKindNumbers_33 rfl fl_TuneDoor_Reader_158 rfl (by decide) (kDoor k_x1).1 k_x1 (by simp [wr]) (fun r4 => ?_)
    refine u_tableswitch (dt := 100) dX4_readKindNumbers_36 r4 (by decide) (fun hb => ?_) (fun hb hb2 => ?_)
    · have h := h.1 hb
      refine u_iconst (pc' := 101) dX4_readKindNumbers_100 rfl ?_
      exact u_zret (b := true) dX4_readKindNumbers_101 rfl rfl h
    · have hc : (τ1 x1 1) = 1 ∨ (τ1 x1 1) = 2 ∨ (τ1 x1 1) = 3 ∨ (τ1 x1 1) = 4 := by omega
      rcases hc with hc | hc | hc | hc
      · have h := h.2.1 hc
        refine ⟨32, 68, by rw [hc]; rfl, by decide, ?_⟩
        refine u_aload_n (i := 0) (pc' := 69) dX4_readKindNumbers_68 rfl rfl rfl ?_
        refine u_iconst (pc' := 70) dX4_readKindNumbers_69 rfl ?_
        refine u_bipush (pc' := 72) dX4_readKindNumbers_70 rfl (by decide) ?_
        refine u_invV (q' := qX4_readNumber) (As := [vI 0, vI 9]) (st := []) (pc' := 75) dX4_readKindNumbers_72 rfl gX4_readNumber wm_589 rfl rfl (by decide) kd_77 wm_591 wp_11 rfl (Nat.le_of_ble_eq_true rfl) (M0.mono h (fun v τ5 h => ?_))
        obtain ⟨b6, rfl, h⟩ := h
        show V0 E (d + 1) qX4_readKindNumbers 75 [some (vR 77), some (vR x1), none] [vB b6] τ5 Q
        refine s_istore_n (i := 2) (ls' := [some (vR 77), some (vR x1), some (vB b6)]) (pc' := 76) dX4_readKindNumbers_75 rfl rfl (Nat.le_of_ble_eq_true rfl) rfl rfl ?_
        refine u_goto (tgt := 102) dX4_readKindNumbers_76 (by decide) ?_
        refine u_aload_n (i := 1) (pc' := 103) dX4_readKindNumbers_102 rfl rfl rfl ?_
        refine u_aload_n (i := 0) (pc' := 104) dX4_readKindNumbers_103 rfl rfl rfl ?_
        refine u_getI (z := (τ5 77 6)) (pc' := 107) dX4_readKindNumbers_104 rfl fl_TuneDoor_Reader_78 rfl (by decide) (by decide) kd_77 rfl (fun r7 => ?_)
        refine u_putI (pc' := 110) dX4_readKindNumbers_107 rfl fl_TuneDoor_Reader_166 rfl rfl (by decide) (kDoor k_x1).1 k_x1 r7 ?_
        refine u_iload_n (i := 2) (pc' := 111) dX4_readKindNumbers_110 rfl rfl rfl ?_
        exact u_zret (b := b6) dX4_readKindNumbers_111 rfl rfl h
      · have h := h.2.2.1 hc
        refine ⟨64, 100, by rw [hc]; rfl, by decide, ?_⟩
        refine u_iconst (pc' := 101) dX4_readKindNumbers_100 rfl ?_
        exact u_zret (b := true) dX4_readKindNumbers_101 rfl rfl h
      · have h := h.2.2.2.1 hc
        refine ⟨43, 79, by rw [hc]; rfl, by decide, ?_⟩
        refine u_aload_n (i := 0) (pc' := 80) dX4_readKindNumbers_79 rfl rfl rfl ?_
        refine u_iconst (pc' := 81) dX4_readKindNumbers_80 rfl ?_
        refine u_iconst (pc' := 82) dX4_readKindNumbers_81 rfl ?_
        refine u_invV (q' := qX4_readNumber) (As := [vI 0, vI 4]) (st := []) (pc' := 85) dX4_readKindNumbers_82 rfl gX4_readNumber wm_589 rfl rfl (by decide) kd_77 wm_591 wp_11 rfl (Nat.le_of_ble_eq_true rfl) (M0.mono h (fun v τ8 h => ?_))
        obtain ⟨b9, rfl, h⟩ := h
        show V0 E (d + 1) qX4_readKindNumbers 85 [some (vR 77), some (vR x1), none] [vB b9] τ8 Q
        refine s_istore_n (i := 2) (ls' := [some (vR 77), some (vR x1), some (vB b9)]) (pc' := 86) dX4_readKindNumbers_85 rfl rfl (Nat.le_of_ble_eq_true rfl) rfl rfl ?_
        refine u_goto (tgt := 102) dX4_readKindNumbers_86 (by decide) ?_
        refine u_aload_n (i := 1) (pc' := 103) dX4_readKindNumbers_102 rfl rfl rfl ?_
        refine u_aload_n (i := 0) (pc' := 104) dX4_readKindNumbers_103 rfl rfl rfl ?_
        refine u_getI (z := (τ8 77 6)) (pc' := 107) dX4_readKindNumbers_104 rfl fl_TuneDoor_Reader_78 rfl (by decide) (by decide) kd_77 rfl (fun r10 => ?_)
        refine u_putI (pc' := 110) dX4_readKindNumbers_107 rfl fl_TuneDoor_Reader_166 rfl rfl (by decide) (kDoor k_x1).1 k_x1 r10 ?_
        refine u_iload_n (i := 2) (pc' := 111) dX4_readKindNumbers_110 rfl rfl rfl ?_
        exact u_zret (b := b9) dX4_readKindNumbers_111 rfl rfl h
      · have h := h.2.2.2.2 hc
        refine ⟨53, 89, by rw [hc]; rfl, by decide, ?_⟩
        refine u_aload_n (i := 0) (pc' := 90) dX4_readKindNumbers_89 rfl rfl rfl ?_
        refine u_iconst (pc' := 91) dX4_readKindNumbers_90 rfl ?_
        refine u_bipush (pc' := 93) dX4_readKindNumbers_91 rfl (by decide) ?_
        refine u_invV (q' := qX4_readNumber) (As := [vI 1, vI 9]) (st := []) (pc' := 96) dX4_readKindNumbers_93 rfl gX4_readNumber wm_589 rfl rfl (by decide) kd_77 wm_591 wp_11 rfl (Nat.le_of_ble_eq_true rfl) (M0.mono h (fun v τ11 h => ?_))
        obtain ⟨b12, rfl, h⟩ := h
        show V0 E (d + 1) qX4_readKindNumbers 96 [some (vR 77), some (vR x1), none] [vB b12] τ11 Q
        refine s_istore_n (i := 2) (ls' := [some (vR 77), some (vR x1), some (vB b12)]) (pc' := 97) dX4_readKindNumbers_96 rfl rfl (Nat.le_of_ble_eq_true rfl) rfl rfl ?_
        refine u_goto (tgt := 102) dX4_readKindNumbers_97 (by decide) ?_
        refine u_aload_n (i := 1) (pc' := 103) dX4_readKindNumbers_102 rfl rfl rfl ?_
        refine u_aload_n (i := 0) (pc' := 104) dX4_readKindNumbers_103 rfl rfl rfl ?_
        refine u_getI (z := (τ11 77 6)) (pc' := 107) dX4_readKindNumbers_104 rfl fl_TuneDoor_Reader_78 rfl (by decide) (by decide) kd_77 rfl (fun r13 => ?_)
        refine u_putI (pc' := 110) dX4_readKindNumbers_107 rfl fl_TuneDoor_Reader_166 rfl rfl (by decide) (kDoor k_x1).1 k_x1 r13 ?_
        refine u_iload_n (i := 2) (pc' := 111) dX4_readKindNumbers_110 rfl rfl rfl ?_
        exact u_zret (b := b12) dX4_readKindNumbers_111 rfl rfl h
  · have h := h.2 (bI_0.mp hb)
    refine u_iconst (pc' := 23) dX4_readKindNumbers_22 rfl ?_
    exact u_zret (b := false) dX4_readKindNumbers_23 rfl rfl h
set_option maxRecDepth 20000 in
theorem bX4_readPerson_0 {E : mm_Env} {d : Nat} {τ : mm_Mem} {Q : mm_Q0}  (h : ∃ o1 : Nat, (τ 77 1) = (o1 : Int) ∧ KD o1 = some (.inr 2) ∧ (((τ o1 4) < 4 → M0 E d qX4_advance [vR 77] τ (fun v τ5 => v = none ∧ M0 E d qX4_readNewName [vR 77] τ5 (fun v τ6 => ∃ b7 : Bool, v = some (vB b7) ∧ ((b7 = true → ∃ o8 : Nat, (τ6 77 1) = (o8 : Int) ∧ KD o8 = some (.inr 2) ∧ ∃ o11 : Nat, (τ6 77 1) = (o11 : Int) ∧ KD o11 = some (.inr 2) ∧ 0 ≤ (τ6 o11 4) ∧ (τ6 o11 4) < 4 ∧ M0 E d qX3_begin [vR (o8 + 30 + (τ6 o11 4).toNat), vI (τ6 77 6)] τ6 (fun v τ19 => v = none ∧ M0 E d qX4_readWord [vR 77, vI 7] τ19 (fun v τ20 => ∃ b21 : Bool, v = some (vB b21) ∧ ((b21 = false → Q (some (vB false)) τ20) ∧ (b21 = true → M0 E d qX4_readKnownName [vR 77, vB true] τ20 (fun v τ22 => ∃ b23 : Bool, v = some (vB b23) ∧ ((b23 = true → M0 E d qX4_readWord [vR 77, vI 2] (wr τ22 (o8 + 30 + (τ6 o11 4).toNat) 1 (τ22 77 6)) (fun v τ25 => ∃ b26 : Bool, v = some (vB b26) ∧ ((b26 = false → Q (some (vB false)) τ25) ∧ (b26 = true → M0 E d qX4_readKnownName [vR 77, vB false] τ25 (fun v τ27 => ∃ b28 : Bool, v = some (vB b28) ∧ ((b28 = true → ∃ o30 : Nat, ((wr τ27 (o8 + 30 + (τ6 o11 4).toNat) 2 (τ27 77 6)) 77 1) = (o30 : Int) ∧ KD o30 = some (.inr 2) ∧ 0 ≤ (τ27 (o8 + 30 + (τ6 o11 4).toNat) 1) ∧ (τ27 (o8 + 30 + (τ6 o11 4).toNat) 1) < 4 ∧ inR (mm_or ((wr τ27 (o8 + 30 + (τ6 o11 4).toNat) 2 (τ27 77 6)) (o30 + 14 + 4 * (τ27 (o8 + 30 + (τ6 o11 4).toNat) 1).toNat) 4) (mm_shl 1 (τ27 77 6))) ∧ M0 E d qX4_readWord [vR 77, vI 14] (wr (wr τ27 (o8 + 30 + (τ6 o11 4).toNat) 2 (τ27 77 6)) (o30 + 14 + 4 * (τ27 (o8 + 30 + (τ6 o11 4).toNat) 1).toNat) 4 (mm_or ((wr τ27 (o8 + 30 + (τ6 o11 4).toNat) 2 (τ27 77 6)) (o30 + 14 + 4 * (τ27 (o8 + 30 + (τ6 o11 4).toNat) 1).toNat) 4) (mm_shl 1 (τ27 77 6)))) (fun v τ40 => ∃ b41 : Bool, v = some (vB b41) ∧ ((b41 = false → Q (some (vB false)) τ40) ∧ (b41 = true → M0 E d qX4_readNumber [vR 77, vI 0, vI 100] τ40 (fun v τ42 => ∃ b43 : Bool, v = some (vB b43) ∧ ((b43 = true → M0 E d qX4_readWord [vR 77, vI 15] (wr τ42 (o8 + 30 + (τ6 o11 4).toNat) 3 (τ42 77 6)) (fun v τ45 => ∃ b46 : Bool, v = some (vB b46) ∧ ((b46 = false → Q (some (vB false)) τ45) ∧ (b46 = true → M0 E d qX4_readNumber [vR 77, vI 0, vI 100] τ45 (fun v τ47 => ∃ b48 : Bool, v = some (vB b48) ∧ ((b48 = true → ∃ o50 : Nat, ((wr τ47 (o8 + 30 + (τ6 o11 4).toNat) 4 (τ47 77 6)) 77 1) = (o50 : Int) ∧ KD o50 = some (.inr 2) ∧ inR (((wr τ47 (o8 + 30 + (τ6 o11 4).toNat) 4 (τ47 77 6)) o50 4) + 1) ∧ Q (some (vB true)) (wr (wr τ47 (o8 + 30 + (τ6 o11 4).toNat) 4 (τ47 77 6)) o50 4 (((wr τ47 (o8 + 30 + (τ6 o11 4).toNat) 4 (τ47 77 6)) o50 4) + 1))) ∧ (b48 = false → Q (some (vB false)) τ47))))))) ∧ (b43 = false → Q (some (vB false)) τ42))))))) ∧ (b28 = false → Q (some (vB false)) τ27))))))) ∧ (b23 = false → Q (some (vB false)) τ22)))))))) ∧ (b7 = false → Q (some (vB false)) τ6))))) ∧ (¬ (τ o1 4) < 4 → M0 E d qX4_fail [vR 77, vI 5] τ (fun v τ55 => ∃ b56 : Bool, v = some (vB b56) ∧ Q (some (vB b56)) τ55)))) : V0 E (d + 1) qX4_readPerson 0 [some (vR 77), none] [] τ Q := by
  refine u_aload_n (i := 0) (pc' := 1) dX4_readPerson_0 rfl rfl rfl ?_
  obtain ⟨o1, z2, k3, h⟩ := h
  refine u_getD (a := o1) (pc' := 4) dX4_readPerson_1 rfl fl_TuneDoor_Reader_19 rfl (by decide) kd_77 rfl (z2) ?_
  refine u_getI (z := (τ o1 4)) (pc' := 7) dX4_readPerson_4 rfl fl_TuneDoor_Reader_169 rfl (by decide) (kHouse k3).1 k3 rfl (fun r4 => ?_)
  refine u_iconst (pc' := 8) dX4_readPerson_7 rfl ?_
  refine u_icmp_lt (tgt := 17) (pc' := 11) dX4_readPerson_8 rfl (by decide) r4 ⟨by decide, by decide⟩ (fun hb => ?_) (fun hb => ?_)
  · have h := h.1 hb
    refine u_aload_n (i := 0) (pc' := 18) dX4_readPerson_17 rfl rfl rfl ?_
    refine u_invV (q' := qX4_advance) (As := []) (st := []) (pc' := 21) dX4_readPerson_18 rfl gX4_advance wm_569 rfl rfl (by decide) kd_77 wm_571 wp_6 rfl (Nat.le_of_ble_eq_true rfl) (M0.mono h (fun v τ5 h => ?_))
    obtain ⟨rfl, h⟩ := h
    show V0 E (d + 1) qX4_readPerson 21 [some (vR 77), none] [] τ5 Q
    refine u_aload_n (i := 0) (pc' := 22) dX4_readPerson_21 rfl rfl rfl ?_
    refine u_invV (q' := qX4_readNewName) (As := []) (st := []) (pc' := 25) dX4_readPerson_22 rfl gX4_readNewName wm_609 rfl rfl (by decide) kd_77 wm_611 wp_16 rfl (Nat.le_of_ble_eq_true rfl) (M0.mono h (fun v τ6 h => ?_))
    obtain ⟨b7, rfl, h⟩ := h
    show V0 E (d + 1) qX4_readPerson 25 [some (vR 77), none] [vB b7] τ6 Q
    refine u_if_ne (tgt := 30) (pc' := 28) dX4_readPerson_25 rfl (by decide) (bI_R _) (fun hb => ?_) (fun hb => ?_)
    · have h := h.1 (bI_n0.mp hb)
      refine u_aload_n (i := 0) (pc' := 31) dX4_readPerson_30 rfl rfl rfl ?_
      obtain ⟨o8, z9, k10, h⟩ := h
      refine u_getD (a := o8) (pc' := 34) dX4_readPerson_31 rfl fl_TuneDoor_Reader_19 rfl (by decide) kd_77 rfl (z9) ?_
      refine u_getR (a := (o8 + 5)) (pc' := 37) dX4_readPerson_34 rfl fl_TuneDoor_Reader_172 rfl (kHouse k10).1 k10 (kHouse k10).2.2.2.2.2.1 ?_
      refine u_aload_n (i := 0) (pc' := 38) dX4_readPerson_37 rfl rfl rfl ?_
      obtain ⟨o11, z12, k13, h⟩ := h
      refine u_getD (a := o11) (pc' := 41) dX4_readPerson_38 rfl fl_TuneDoor_Reader_19 rfl (by decide) kd_77 rfl (z12) ?_
      refine u_getI (z := (τ6 o11 4)) (pc' := 44) dX4_readPerson_41 rfl fl_TuneDoor_Reader_169 rfl (by decide) (kHouse k13).1 k13 rfl (fun r14 => ?_)
      obtain ⟨c15, c16, h⟩ := h
      have j17 : (τ6 o11 4).toNat < 4 := by omega
      refine u_aaload_P (k := (τ6 o11 4).toNat) (a := (o8 + 30 + (τ6 o11 4).toNat)) (pc' := 45) dX4_readPerson_44 rfl (Nat.le_trans (kHouse k10).1 (Nat.le_add_right _ _)) (kHouse k10).2.2.2.2.2.2.2.2.2.2.2.1 c15 c16 (by decide) rfl (kHouseP k10 j17).1 ?_
      refine s_astore_n (i := 1) (ls' := [some (vR 77), some (vR (o8 + 30 + (τ6 o11 4).toNat))]) (pc' := 46) dX4_readPerson_45 rfl rfl (Nat.le_of_ble_eq_true rfl) rfl rfl ?_
      refine u_aload_n (i := 1) (pc' := 47) dX4_readPerson_46 rfl rfl rfl ?_
      refine u_aload_n (i := 0) (pc' := 48) dX4_readPerson_47 rfl rfl rfl ?_
      refine u_getI (z := (τ6 77 6)) (pc' := 51) dX4_readPerson_48 rfl fl_TuneDoor_Reader_78 rfl (by decide) (by decide) kd_77 rfl (fun r18 => ?_)
      refine u_invV (q' := qX3_begin) (As := [vI (τ6 77 6)]) (st := []) (pc' := 54) dX4_readPerson_51 rfl gX3_begin wm_721 rfl rfl (by omega) (kHouseP k10 j17).2 wm_722 wm_723 rfl (Nat.le_of_ble_eq_true rfl) (M0.mono h (fun v τ19 h => ?_))
      obtain ⟨rfl, h⟩ := h
      show V0 E (d + 1) qX4_readPerson 54 [some (vR 77), some (vR (o8 + 30 + (τ6 o11 4).toNat))] [] τ19 Q
      refine u_aload_n (i := 0) (pc' := 55) dX4_readPerson_54 rfl rfl rfl ?_
      refine u_bipush (pc' := 57) dX4_readPerson_55 rfl (by decide) ?_
      refine u_invV (q' := qX4_readWord) (As := [vI 7]) (st := []) (pc' := 60) dX4_readPerson_57 rfl gX4_readWord wm_577 rfl rfl (by decide) kd_77 wm_579 wp_8 rfl (Nat.le_of_ble_eq_true rfl) (M0.mono h (fun v τ20 h => ?_))
      obtain ⟨b21, rfl, h⟩ := h
      show V0 E (d + 1) qX4_readPerson 60 [some (vR 77), some (vR (o8 + 30 + (τ6 o11 4).toNat))] [vB b21] τ20 Q
      refine u_if_eq (tgt := 71) (pc' := 63) dX4_readPerson_60 rfl (by decide) (bI_R _) (fun hb => ?_) (fun hb => ?_)
      · have h := h.1 (bI_0.mp hb)
        refine u_iconst (pc' := 72) dX4_readPerson_71 rfl ?_
        exact u_zret (b := false) dX4_readPerson_72 rfl rfl h
      · have h := h.2 (bI_n0.mp hb)
        refine u_aload_n (i := 0) (pc' := 64) dX4_readPerson_63 rfl rfl rfl ?_
        refine u_iconst (pc' := 65) dX4_readPerson_64 rfl ?_
        refine u_invV (q' := qX4_readKnownName) (As := [vB true]) (st := []) (pc' := 68) dX4_readPerson_65 rfl gX4_readKnownName wm_725 rfl rfl (by decide) kd_77 wm_727 wp_32 rfl (Nat.le_of_ble_eq_true rfl) (M0.mono h (fun v τ22 h => ?_))
        obtain ⟨b23, rfl, h⟩ := h
        show V0 E (d + 1) qX4_readPerson 68 [some (vR 77), some (vR (o8 + 30 + (τ6 o11 4).toNat))] [vB b23] τ22 Q
        refine u_if_ne (tgt := 73) (pc' := 71) dX4_readPerson_68 rfl (by decide) (bI_R _) (fun hb => ?_) (fun hb => ?_)
        · have h := h.1 (bI_n0.mp hb)
          refine u_aload_n (i := 1) (pc' := 74) dX4_readPerson_73 rfl rfl rfl ?_
          refine u_aload_n (i := 0) (pc' := 75) dX4_readPerson_74 rfl rfl rfl ?_
          refine u_getI (z := (τ22 77 6)) (pc' := 78) dX4_readPerson_75 rfl fl_TuneDoor_Reader_78 rfl (by decide) (by decide) kd_77 rfl (fun r24 => ?_)
          refine u_putI (pc' := 81) dX4_readPerson_78 rfl fl_TuneDoor_Reader_183 rfl rfl (by decide) (by omega) (kHouseP k10 j17).2 r24 ?_
          refine u_aload_n (i := 0) (pc' := 82) dX4_readPerson_81 rfl rfl rfl ?_
          refine u_iconst (pc' := 83) dX4_readPerson_82 rfl ?_
          refine u_invV (q' := qX4_readWord) (As := [vI 2]) (st := []) (pc' := 86) dX4_readPerson_83 rfl gX4_readWord wm_577 rfl rfl (by decide) kd_77 wm_579 wp_8 rfl (Nat.le_of_ble_eq_true rfl) (M0.mono h (fun v τ25 h => ?_))
          obtain ⟨b26, rfl, h⟩ := h
          show V0 E (d + 1) qX4_readPerson 86 [some (vR 77), some (vR (o8 + 30 + (τ6 o11 4).toNat))] [vB b26] τ25 Q
          refine u_if_eq (tgt := 97) (pc' := 89) dX4_readPerson_86 rfl (by decide) (bI_R _) (fun hb => ?_) (fun hb => ?_)
          · have h := h.1 (bI_0.mp hb)
            refine u_iconst (pc' := 98) dX4_readPerson_97 rfl ?_
            exact u_zret (b := false) dX4_readPerson_98 rfl rfl h
          · have h := h.2 (bI_n0.mp hb)
            refine u_aload_n (i := 0) (pc' := 90) dX4_readPerson_89 rfl rfl rfl ?_
            refine u_iconst (pc' := 91) dX4_readPerson_90 rfl ?_
            refine u_invV (q' := qX4_readKnownName) (As := [vB false]) (st := []) (pc' := 94) dX4_readPerson_91 rfl gX4_readKnownName wm_725 rfl rfl (by decide) kd_77 wm_727 wp_32 rfl (Nat.le_of_ble_eq_true rfl) (M0.mono h (fun v τ27 h => ?_))
            obtain ⟨b28, rfl, h⟩ := h
            show V0 E (d + 1) qX4_readPerson 94 [some (vR 77), some (vR (o8 + 30 + (τ6 o11 4).toNat))] [vB b28] τ27 Q
            refine u_if_ne (tgt := 99) (pc' := 97) dX4_readPerson_94 rfl (by decide) (bI_R _) (fun hb => ?_) (fun hb => ?_)
            · have h := h.1 (bI_n0.mp hb)
              refine u_aload_n (i := 1) (pc' := 100) dX4_readPerson_99 rfl rfl rfl ?_
              refine u_aload_n (i := 0) (pc' := 101) dX4_readPerson_100 rfl rfl rfl ?_
              refine u_getI (z := (τ27 77 6)) (pc' := 104) dX4_readPerson_101 rfl fl_TuneDoor_Reader_78 rfl (by decide) (by decide) kd_77 rfl (fun r29 => ?_)
              refine u_putI (pc' := 107) dX4_readPerson_104 rfl fl_TuneDoor_Reader_186 rfl rfl (by decide) (by omega) (kHouseP k10 j17).2 r29 ?_
              refine u_aload_n (i := 0) (pc' := 108) dX4_readPerson_107 rfl rfl rfl ?_
              obtain ⟨o30, z31, k32, h⟩ := h
              refine u_getD (a := o30) (pc' := 111) dX4_readPerson_108 rfl fl_TuneDoor_Reader_19 rfl (by decide) kd_77 rfl (z31) ?_
              refine u_getR (a := (o30 + 4)) (pc' := 114) dX4_readPerson_111 rfl fl_TuneDoor_Reader_148 rfl (kHouse k32).1 k32 (kHouse k32).2.2.2.2.1 ?_
              refine u_aload_n (i := 1) (pc' := 115) dX4_readPerson_114 rfl rfl rfl ?_
              refine u_getI (z := (τ27 (o8 + 30 + (τ6 o11 4).toNat) 1)) (pc' := 118) dX4_readPerson_115 rfl fl_TuneDoor_Reader_183 rfl (by decide) (by omega) (kHouseP k10 j17).2 (by simp [wr]) (fun r33 => ?_)
              obtain ⟨c34, c35, h⟩ := h
              have j36 : (τ27 (o8 + 30 + (τ6 o11 4).toNat) 1).toNat < 4 := by omega
              refine u_aaload_D (k := (τ27 (o8 + 30 + (τ6 o11 4).toNat) 1).toNat) (a := (o30 + 14 + 4 * (τ27 (o8 + 30 + (τ6 o11 4).toNat) 1).toNat)) (pc' := 119) dX4_readPerson_118 rfl (Nat.le_trans (kHouse k32).1 (Nat.le_add_right _ _)) (kHouse k32).2.2.2.2.2.2.2.2.2.2.1 c34 c35 (by decide) rfl (kHouseD k32 j36).1 ?_
              refine u_dup (pc' := 120) dX4_readPerson_119 rfl (fun _ hh => by cases hh) ?_
              refine u_getI (z := ((wr τ27 (o8 + 30 + (τ6 o11 4).toNat) 2 (τ27 77 6)) (o30 + 14 + 4 * (τ27 (o8 + 30 + (τ6 o11 4).toNat) 1).toNat) 4)) (pc' := 123) dX4_readPerson_120 rfl fl_TuneDoor_Reader_189 rfl (by decide) (by omega) (kHouseD k32 j36).2 rfl (fun r37 => ?_)
              refine u_iconst (pc' := 124) dX4_readPerson_123 rfl ?_
              refine u_aload_n (i := 1) (pc' := 125) dX4_readPerson_124 rfl rfl rfl ?_
              refine u_getI (z := (τ27 77 6)) (pc' := 128) dX4_readPerson_125 rfl fl_TuneDoor_Reader_186 rfl (by decide) (by omega) (kHouseP k10 j17).2 (by simp [wr]) (fun r38 => ?_)
              refine u_ishl (pc' := 129) dX4_readPerson_128 rfl ?_
              refine u_ior (pc' := 130) dX4_readPerson_129 rfl ?_
              obtain ⟨c39, h⟩ := h
              refine u_putI (pc' := 133) dX4_readPerson_130 rfl fl_TuneDoor_Reader_189 rfl rfl (by decide) (by omega) (kHouseD k32 j36).2 c39 ?_
              refine u_aload_n (i := 0) (pc' := 134) dX4_readPerson_133 rfl rfl rfl ?_
              refine u_bipush (pc' := 136) dX4_readPerson_134 rfl (by decide) ?_
              refine u_invV (q' := qX4_readWord) (As := [vI 14]) (st := []) (pc' := 139) dX4_readPerson_136 rfl gX4_readWord wm_577 rfl rfl (by decide) kd_77 wm_579 wp_8 rfl (Nat.le_of_ble_eq_true rfl) (M0.mono h (fun v τ40 h => ?_))
              obtain ⟨b41, rfl, h⟩ := h
              show V0 E (d + 1) qX4_readPerson 139 [some (vR 77), some (vR (o8 + 30 + (τ6 o11 4).toNat))] [vB b41] τ40 Q
              refine u_if_eq (tgt := 152) (pc' := 142) dX4_readPerson_139 rfl (by decide) (bI_R _) (fun hb => ?_) (fun hb => ?_)
              · have h := h.1 (bI_0.mp hb)
                refine u_iconst (pc' := 153) dX4_readPerson_152 rfl ?_
                exact u_zret (b := false) dX4_readPerson_153 rfl rfl h
              · have h := h.2 (bI_n0.mp hb)
                refine u_aload_n (i := 0) (pc' := 143) dX4_readPerson_142 rfl rfl rfl ?_
                refine u_iconst (pc' := 144) dX4_readPerson_143 rfl ?_
                refine u_bipush (pc' := 146) dX4_readPerson_144 rfl (by decide) ?_
                refine u_invV (q' := qX4_readNumber) (As := [vI 0, vI 100]) (st := []) (pc' := 149) dX4_readPerson_146 rfl gX4_readNumber wm_589 rfl rfl (by decide) kd_77 wm_591 wp_11 rfl (Nat.le_of_ble_eq_true rfl) (M0.mono h (fun v τ42 h => ?_))
                obtain ⟨b43, rfl, h⟩ := h
                show V0 E (d + 1) qX4_readPerson 149 [some (vR 77), some (vR (o8 + 30 + (τ6 o11 4).toNat))] [vB b43] τ42 Q
                refine u_if_ne (tgt := 154) (pc' := 152) dX4_readPerson_149 rfl (by decide) (bI_R _) (fun hb => ?_) (fun hb => ?_)
                · have h := h.1 (bI_n0.mp hb)
                  refine u_aload_n (i := 1) (pc' := 155) dX4_readPerson_154 rfl rfl rfl ?_
                  refine u_aload_n (i := 0) (pc' := 156) dX4_readPerson_155 rfl rfl rfl ?_
                  refine u_getI (z := (τ42 77 6)) (pc' := 159) dX4_readPerson_156 rfl fl_TuneDoor_Reader_78 rfl (by decide) (by decide) kd_77 rfl (fun r44 => ?_)
                  refine u_putI (pc' := 162) dX4_readPerson_159 rfl fl_TuneDoor_Reader_190 rfl rfl (by decide) (by omega) (kHouseP k10 j17).2 r44 ?_
                  refine u_aload_n (i := 0) (pc' := 163) dX4_readPerson_162 rfl rfl rfl ?_
                  refine u_bipush (pc' := 165) dX4_readPerson_163 rfl (by decide) ?_
                  refine u_invV (q' := qX4_readWord) (As := [vI 15]) (st := []) (pc' := 168) dX4_readPerson_165 rfl gX4_readWord wm_577 rfl rfl (by decide) kd_77 wm_579 wp_8 rfl (Nat.le_of_ble_eq_true rfl) (M0.mono h (fun v τ45 h => ?_))
                  obtain ⟨b46, rfl, h⟩ := h
                  show V0 E (d + 1) qX4_readPerson 168 [some (vR 77), some (vR (o8 + 30 + (τ6 o11 4).toNat))] [vB b46] τ45 Q
                  refine u_if_eq (tgt := 181) (pc' := 171) dX4_readPerson_168 rfl (by decide) (bI_R _) (fun hb => ?_) (fun hb => ?_)
                  · have h := h.1 (bI_0.mp hb)
                    refine u_iconst (pc' := 182) dX4_readPerson_181 rfl ?_
                    exact u_zret (b := false) dX4_readPerson_182 rfl rfl h
                  · have h := h.2 (bI_n0.mp hb)
                    refine u_aload_n (i := 0) (pc' := 172) dX4_readPerson_171 rfl rfl rfl ?_
                    refine u_iconst (pc' := 173) dX4_readPerson_172 rfl ?_
                    refine u_bipush (pc' := 175) dX4_readPerson_173 rfl (by decide) ?_
                    refine u_invV (q' := qX4_readNumber) (As := [vI 0, vI 100]) (st := []) (pc' := 178) dX4_readPerson_175 rfl gX4_readNumber wm_589 rfl rfl (by decide) kd_77 wm_591 wp_11 rfl (Nat.le_of_ble_eq_true rfl) (M0.mono h (fun v τ47 h => ?_))
                    obtain ⟨b48, rfl, h⟩ := h
                    show V0 E (d + 1) qX4_readPerson 178 [some (vR 77), some (vR (o8 + 30 + (τ6 o11 4).toNat))] [vB b48] τ47 Q
                    refine u_if_ne (tgt := 183) (pc' := 181) dX4_readPerson_178 rfl (by decide) (bI_R _) (fun hb => ?_) (fun hb => ?_)
                    · have h := h.1 (bI_n0.mp hb)
                      refine u_aload_n (i := 1) (pc' := 184) dX4_readPerson_183 rfl rfl rfl ?_
                      refine u_aload_n (i := 0) (pc' := 185) dX4_readPerson_184 rfl rfl rfl ?_
                      refine u_getI (z := (τ47 77 6)) (pc' := 188) dX4_readPerson_185 rfl fl_TuneDoor_Reader_78 rfl (by decide) (by decide) kd_77 rfl (fun r49 => ?_)
                      refine u_putI (pc' := 191) dX4_readPerson_188 rfl fl_TuneDoor_Reader_193 rfl rfl (by decide) (by omega) (kHouseP k10 j17).2 r49 ?_
                      refine u_aload_n (i := 0) (pc' := 192) dX4_readPerson_191 rfl rfl rfl ?_
                      obtain ⟨o50, z51, k52, h⟩ := h
                      refine u_getD (a := o50) (pc' := 195) dX4_readPerson_192 rfl fl_TuneDoor_Reader_19 rfl (by decide) kd_77 rfl (z51) ?_
                      refine u_dup (pc' := 196) dX4_readPerson_195 rfl (fun _ hh => by cases hh) ?_
                      refine u_getI (z := ((wr τ47 (o8 + 30 + (τ6 o11 4).toNat) 4 (τ47 77 6)) o50 4)) (pc' := 199) dX4_readPerson_196 rfl fl_TuneDoor_Reader_169 rfl (by decide) (kHouse k52).1 k52 rfl (fun r53 => ?_)
                      refine u_iconst (pc' := 200) dX4_readPerson_199 rfl ?_
                      refine u_iadd (pc' := 201) dX4_readPerson_200 rfl ?_
                      obtain ⟨c54, h⟩ := h
                      refine u_putI (pc' := 204) dX4_readPerson_201 rfl fl_TuneDoor_Reader_169 rfl rfl (by decide) (kHouse k52).1 k52 c54 ?_
                      refine u_iconst (pc' := 205) dX4_readPerson_204 rfl ?_
                      exact u_zret (b := true) dX4_readPerson_205 rfl rfl h
                    · have h := h.2 (bI_0.mp hb)
                      refine u_iconst (pc' := 182) dX4_readPerson_181 rfl ?_
                      exact u_zret (b := false) dX4_readPerson_182 rfl rfl h
                · have h := h.2 (bI_0.mp hb)
                  refine u_iconst (pc' := 153) dX4_readPerson_152 rfl ?_
                  exact u_zret (b := false) dX4_readPerson_153 rfl rfl h
            · have h := h.2 (bI_0.mp hb)
              refine u_iconst (pc' := 98) dX4_readPerson_97 rfl ?_
              exact u_zret (b := false) dX4_readPerson_98 rfl rfl h
        · have h := h.2 (bI_0.mp hb)
          refine u_iconst (pc' := 72) dX4_readPerson_71 rfl ?_
          exact u_zret (b := false) dX4_readPerson_72 rfl rfl h
    · have h := h.2 (bI_0.mp hb)
      refine u_iconst (pc' := 29) dX4_readPerson_28 rfl ?_
      exact u_zret (b := false) dX4_readPerson_29 rfl rfl h
  · have h := h.2 hb
    refine u_aload_n (i := 0) (pc' := 12) dX4_readPerson_11 rfl rfl rfl ?_
    refine u_iconst (pc' := 13) dX4_readPerson_12 rfl ?_
    refine u_invV (q' := qX4_fail) (As := [vI 5]) (st := []) (pc' := 16) dX4_readPerson_13 rfl gX4_fail wm_585 rfl rfl (by decide) kd_77 wm_587 wp_10 rfl (Nat.le_of_ble_eq_true rfl) (M0.mono h (fun v τ55 h => ?_))
    obtain ⟨b56, rfl, h⟩ := h
    show V0 E (d + 1) qX4_readPerson 16 [some (vR 77), none] [vB b56] τ55 Q
    exact u_zret (b := b56) dX4_readPerson_16 rfl rfl h
theorem mX4_readPerson {E : mm_Env} {d : Nat} {τ : mm_Mem} {Q : mm_Q0}  (h : ∃ o1 : Nat, (τ 77 1) = (o1 : Int) ∧ KD o1 = some (.inr 2) ∧ (((τ o1 4) < 4 → M0 E d qX4_advance [vR 77] τ (fun v τ5 => v = none ∧ M0 E d qX4_readNewName [vR 77] τ5 (fun v τ6 => ∃ b7 : Bool, v = some (vB b7) ∧ ((b7 = true → ∃ o8 : Nat, (τ6 77 1) = (o8 : Int) ∧ KD o8 = some (.inr 2) ∧ ∃ o11 : Nat, (τ6 77 1) = (o11 : Int) ∧ KD o11 = some (.inr 2) ∧ 0 ≤ (τ6 o11 4) ∧ (τ6 o11 4) < 4 ∧ M0 E d qX3_begin [vR (o8 + 30 + (τ6 o11 4).toNat), vI (τ6 77 6)] τ6 (fun v τ19 => v = none ∧ M0 E d qX4_readWord [vR 77, vI 7] τ19 (fun v τ20 => ∃ b21 : Bool, v = some (vB b21) ∧ ((b21 = false → Q (some (vB false)) τ20) ∧ (b21 = true → M0 E d qX4_readKnownName [vR 77, vB true] τ20 (fun v τ22 => ∃ b23 : Bool, v = some (vB b23) ∧ ((b23 = true → M0 E d qX4_readWord [vR 77, vI 2] (wr τ22 (o8 + 30 + (τ6 o11 4).toNat) 1 (τ22 77 6)) (fun v τ25 => ∃ b26 : Bool, v = some (vB b26) ∧ ((b26 = false → Q (some (vB false)) τ25) ∧ (b26 = true → M0 E d qX4_readKnownName [vR 77, vB false] τ25 (fun v τ27 => ∃ b28 : Bool, v = some (vB b28) ∧ ((b28 = true → ∃ o30 : Nat, ((wr τ27 (o8 + 30 + (τ6 o11 4).toNat) 2 (τ27 77 6)) 77 1) = (o30 : Int) ∧ KD o30 = some (.inr 2) ∧ 0 ≤ (τ27 (o8 + 30 + (τ6 o11 4).toNat) 1) ∧ (τ27 (o8 + 30 + (τ6 o11 4).toNat) 1) < 4 ∧ inR (mm_or ((wr τ27 (o8 + 30 + (τ6 o11 4).toNat) 2 (τ27 77 6)) (o30 + 14 + 4 * (τ27 (o8 + 30 + (τ6 o11 4).toNat) 1).toNat) 4) (mm_shl 1 (τ27 77 6))) ∧ M0 E d qX4_readWord [vR 77, vI 14] (wr (wr τ27 (o8 + 30 + (τ6 o11 4).toNat) 2 (τ27 77 6)) (o30 + 14 + 4 * (τ27 (o8 + 30 + (τ6 o11 4).toNat) 1).toNat) 4 (mm_or ((wr τ27 (o8 + 30 + (τ6 o11 4).toNat) 2 (τ27 77 6)) (o30 + 14 + 4 * (τ27 (o8 + 30 + (τ6 o11 4).toNat) 1).toNat) 4) (mm_shl 1 (τ27 77 6)))) (fun v τ40 => ∃ b41 : Bool, v = some (vB b41) ∧ ((b41 = false → Q (some (vB false)) τ40) ∧ (b41 = true → M0 E d qX4_readNumber [vR 77, vI 0, vI 100] τ40 (fun v τ42 => ∃ b43 : Bool, v = some (vB b43) ∧ ((b43 = true → M0 E d qX4_readWord [vR 77, vI 15] (wr τ42 (o8 + 30 + (τ6 o11 4).toNat) 3 (τ42 77 6)) (fun v τ45 => ∃ b46 : Bool, v = some (vB b46) ∧ ((b46 = false → Q (some (vB false)) τ45) ∧ (b46 = true → M0 E d qX4_readNumber [vR 77, vI 0, vI 100] τ45 (fun v τ47 => ∃ b48 : Bool, v = some (vB b48) ∧ ((b48 = true → ∃ o50 : Nat, ((wr τ47 (o8 + 30 + (τ6 o11 4).toNat) 4 (τ47 77 6)) 77 1) = (o50 : Int) ∧ KD o50 = some (.inr 2) ∧ inR (((wr τ47 (o8 + 30 + (τ6 o11 4).toNat) 4 (τ47 77 6)) o50 4) + 1) ∧ Q (some (vB true)) (wr (wr τ47 (o8 + 30 + (τ6 o11 4).toNat) 4 (τ47 77 6)) o50 4 (((wr τ47 (o8 + 30 + (τ6 o11 4).toNat) 4 (τ47 77 6)) o50 4) + 1))) ∧ (b48 = false → Q (some (vB false)) τ47))))))) ∧ (b43 = false → Q (some (vB false)) τ42))))))) ∧ (b28 = false → Q (some (vB false)) τ27))))))) ∧ (b23 = false → Q (some (vB false)) τ22)))))))) ∧ (b7 = false → Q (some (vB false)) τ6))))) ∧ (¬ (τ o1 4) < 4 → M0 E d qX4_fail [vR 77, vI 5] τ (fun v τ55 => ∃ b56 : Bool, v = some (vB b56) ∧ Q (some (vB b56)) τ55)))) : M0 E (d + 1) qX4_readPerson [vR 77] τ Q := M0_of rfl (Nat.le_of_ble_eq_true rfl) [some (vR 77), none] rfl (bX4_readPerson_0  h)
set_option maxRecDepth 20000 in
theorem bX4_readKnownName_0 {E : mm_Env} {d : Nat} {τ : mm_Mem} {Q : mm_Q0} {a0 : Bool} (h : (((τ 77 3) = 5 → ((a0 = false → ∃ o2 : Nat, (τ 77 1) = (o2 : Int) ∧ KD o2 = some (.inr 2) ∧ M0 E d qX2_tuneNamed [vR o2, vI (τ 77 4)] τ (fun v τ6 => ∃ r7 : Int, v = some (vI r7) ∧ inR r7 ∧ ((r7 ≠ (-1) → M0 E d qX4_advance [vR 77] (wr τ6 77 6 r7) (fun v τ10 => v = none ∧ Q (some (vB true)) τ10)) ∧ (r7 = (-1) → M0 E d qX4_fail [vR 77, vI 3] (wr τ6 77 6 r7) (fun v τ11 => ∃ b12 : Bool, v = some (vB b12) ∧ Q (some (vB b12)) τ11))))) ∧ (a0 = true → ∃ o13 : Nat, (τ 77 1) = (o13 : Int) ∧ KD o13 = some (.inr 2) ∧ M0 E d qX2_doorNamed [vR o13, vI (τ 77 4)] τ (fun v τ17 => ∃ r18 : Int, v = some (vI r18) ∧ inR r18 ∧ ((r18 ≠ (-1) → M0 E d qX4_advance [vR 77] (wr τ17 77 6 r18) (fun v τ21 => v = none ∧ Q (some (vB true)) τ21)) ∧ (r18 = (-1) → M0 E d qX4_fail [vR 77, vI 3] (wr τ17 77 6 r18) (fun v τ22 => ∃ b23 : Bool, v = some (vB b23) ∧ Q (some (vB b23)) τ22))))))) ∧ (¬ (τ 77 3) = 5 → M0 E d qX4_fail [vR 77, vI 1] τ (fun v τ24 => ∃ b25 : Bool, v = some (vB b25) ∧ Q (some (vB b25)) τ24)))) : V0 E (d + 1) qX4_readKnownName 0 [some (vR 77), some (vB a0)] [] τ Q := by
  refine u_aload_n (i := 0) (pc' := 1) dX4_readKnownName_0 rfl rfl rfl ?_
  refine u_getI (z := (τ 77 3)) (pc' := 4) dX4_readKnownName_1 rfl fl_TuneDoor_Reader_44 rfl (by decide) (by decide) kd_77 rfl (fun r1 => ?_)
  refine u_iconst (pc' := 5) dX4_readKnownName_4 rfl ?_
  refine u_icmp_eq (tgt := 14) (pc' := 8) dX4_readKnownName_5 rfl (by decide) r1 ⟨by decide, by decide⟩ (fun hb => ?_) (fun hb => ?_)
  · have h := h.1 hb
    refine u_aload_n (i := 0) (pc' := 15) dX4_readKnownName_14 rfl rfl rfl ?_
    refine u_iload_n (i := 1) (pc' := 16) dX4_readKnownName_15 rfl rfl rfl ?_
    refine u_if_eq (tgt := 33) (pc' := 19) dX4_readKnownName_16 rfl (by decide) (bI_R _) (fun hb => ?_) (fun hb => ?_)
    · have h := h.1 (bI_0.mp hb)
      refine u_aload_n (i := 0) (pc' := 34) dX4_readKnownName_33 rfl rfl rfl ?_
      obtain ⟨o2, z3, k4, h⟩ := h
      refine u_getD (a := o2) (pc' := 37) dX4_readKnownName_34 rfl fl_TuneDoor_Reader_19 rfl (by decide) kd_77 rfl (z3) ?_
      refine u_aload_n (i := 0) (pc' := 38) dX4_readKnownName_37 rfl rfl rfl ?_
      refine u_getI (z := (τ 77 4)) (pc' := 41) dX4_readKnownName_38 rfl fl_TuneDoor_Reader_62 rfl (by decide) (by decide) kd_77 rfl (fun r5 => ?_)
      refine u_invV (q' := qX2_tuneNamed) (As := [vI (τ 77 4)]) (st := [vR 77]) (pc' := 44) dX4_readKnownName_41 rfl gX2_tuneNamed wm_730 rfl rfl (kHouse k4).1 k4 wm_618 wm_619 rfl (Nat.le_of_ble_eq_true rfl) (M0.mono h (fun v τ6 h => ?_))
      obtain ⟨r7, rfl, h⟩ := h
      show V0 E (d + 1) qX4_readKnownName 44 [some (vR 77), some (vB a0)] [vI r7, vR 77] τ6 Q
      obtain ⟨c8, h⟩ := h
      refine u_putI (pc' := 47) dX4_readKnownName_44 rfl fl_TuneDoor_Reader_78 rfl rfl (by decide) (by decide) kd_77 c8 ?_
      refine u_aload_n (i := 0) (pc' := 48) dX4_readKnownName_47 rfl rfl rfl ?_
      refine u_getI (z := r7) (pc' := 51) dX4_readKnownName_48 rfl fl_TuneDoor_Reader_78 rfl (by decide) (by decide) kd_77 rfl (fun r9 => ?_)
      refine u_iconst (pc' := 52) dX4_readKnownName_51 rfl ?_
      refine u_icmp_ne (tgt := 61) (pc' := 55) dX4_readKnownName_52 rfl (by decide) r9 ⟨by decide, by decide⟩ (fun hb => ?_) (fun hb => ?_)
      · have h := h.1 hb
        refine u_aload_n (i := 0) (pc' := 62) dX4_readKnownName_61 rfl rfl rfl ?_
        refine u_invV (q' := qX4_advance) (As := []) (st := []) (pc' := 65) dX4_readKnownName_62 rfl gX4_advance wm_569 rfl rfl (by decide) kd_77 wm_571 wp_6 rfl (Nat.le_of_ble_eq_true rfl) (M0.mono h (fun v τ10 h => ?_))
        obtain ⟨rfl, h⟩ := h
        show V0 E (d + 1) qX4_readKnownName 65 [some (vR 77), some (vB a0)] [] τ10 Q
        refine u_iconst (pc' := 66) dX4_readKnownName_65 rfl ?_
        exact u_zret (b := true) dX4_readKnownName_66 rfl rfl h
      · have h := h.2 hb
        refine u_aload_n (i := 0) (pc' := 56) dX4_readKnownName_55 rfl rfl rfl ?_
        refine u_iconst (pc' := 57) dX4_readKnownName_56 rfl ?_
        refine u_invV (q' := qX4_fail) (As := [vI 3]) (st := []) (pc' := 60) dX4_readKnownName_57 rfl gX4_fail wm_585 rfl rfl (by decide) kd_77 wm_587 wp_10 rfl (Nat.le_of_ble_eq_true rfl) (M0.mono h (fun v τ11 h => ?_))
        obtain ⟨b12, rfl, h⟩ := h
        show V0 E (d + 1) qX4_readKnownName 60 [some (vR 77), some (vB a0)] [vB b12] τ11 Q
        exact u_zret (b := b12) dX4_readKnownName_60 rfl rfl h
    · have h := h.2 (bI_n0.mp hb)
      refine u_aload_n (i := 0) (pc' := 20) dX4_readKnownName_19 rfl rfl rfl ?_
      obtain ⟨o13, z14, k15, h⟩ := h
      refine u_getD (a := o13) (pc' := 23) dX4_readKnownName_20 rfl fl_TuneDoor_Reader_19 rfl (by decide) kd_77 rfl (z14) ?_
      refine u_aload_n (i := 0) (pc' := 24) dX4_readKnownName_23 rfl rfl rfl ?_
      refine u_getI (z := (τ 77 4)) (pc' := 27) dX4_readKnownName_24 rfl fl_TuneDoor_Reader_62 rfl (by decide) (by decide) kd_77 rfl (fun r16 => ?_)
      refine u_invV (q' := qX2_doorNamed) (As := [vI (τ 77 4)]) (st := [vR 77]) (pc' := 30) dX4_readKnownName_27 rfl gX2_doorNamed wm_729 rfl rfl (kHouse k15).1 k15 wm_622 wm_623 rfl (Nat.le_of_ble_eq_true rfl) (M0.mono h (fun v τ17 h => ?_))
      obtain ⟨r18, rfl, h⟩ := h
      show V0 E (d + 1) qX4_readKnownName 30 [some (vR 77), some (vB a0)] [vI r18, vR 77] τ17 Q
      refine u_goto (tgt := 44) dX4_readKnownName_30 (by decide) ?_
      obtain ⟨c19, h⟩ := h
      refine u_putI (pc' := 47) dX4_readKnownName_44 rfl fl_TuneDoor_Reader_78 rfl rfl (by decide) (by decide) kd_77 c19 ?_
      refine u_aload_n (i := 0) (pc' := 48) dX4_readKnownName_47 rfl rfl rfl ?_
      refine u_getI (z := r18) (pc' := 51) dX4_readKnownName_48 rfl fl_TuneDoor_Reader_78 rfl (by decide) (by decide) kd_77 rfl (fun r20 => ?_)
      refine u_iconst (pc' := 52) dX4_readKnownName_51 rfl ?_
      refine u_icmp_ne (tgt := 61) (pc' := 55) dX4_readKnownName_52 rfl (by decide) r20 ⟨by decide, by decide⟩ (fun hb => ?_) (fun hb => ?_)
      · have h := h.1 hb
        refine u_aload_n (i := 0) (pc' := 62) dX4_readKnownName_61 rfl rfl rfl ?_
        refine u_invV (q' := qX4_advance) (As := []) (st := []) (pc' := 65) dX4_readKnownName_62 rfl gX4_advance wm_569 rfl rfl (by decide) kd_77 wm_571 wp_6 rfl (Nat.le_of_ble_eq_true rfl) (M0.mono h (fun v τ21 h => ?_))
        obtain ⟨rfl, h⟩ := h
        show V0 E (d + 1) qX4_readKnownName 65 [some (vR 77), some (vB a0)] [] τ21 Q
        refine u_iconst (pc' := 66) dX4_readKnownName_65 rfl ?_
        exact u_zret (b := true) dX4_readKnownName_66 rfl rfl h
      · have h := h.2 hb
        refine u_aload_n (i := 0) (pc' := 56) dX4_readKnownName_55 rfl rfl rfl ?_
        refine u_iconst (pc' := 57) dX4_readKnownName_56 rfl ?_
        refine u_invV (q' := qX4_fail) (As := [vI 3]) (st := []) (pc' := 60) dX4_readKnownName_57 rfl gX4_fail wm_585 rfl rfl (by decide) kd_77 wm_587 wp_10 rfl (Nat.le_of_ble_eq_true rfl) (M0.mono h (fun v τ22 h => ?_))
        obtain ⟨b23, rfl, h⟩ := h
        show V0 E (d + 1) qX4_readKnownName 60 [some (vR 77), some (vB a0)] [vB b23] τ22 Q
        exact u_zret (b := b23) dX4_readKnownName_60 rfl rfl h
  · have h := h.2 hb
    refine u_aload_n (i := 0) (pc' := 9) dX4_readKnownName_8 rfl rfl rfl ?_
    refine u_iconst (pc' := 10) dX4_readKnownName_9 rfl ?_
    refine u_invV (q' := qX4_fail) (As := [vI 1]) (st := []) (pc' := 13) dX4_readKnownName_10 rfl gX4_fail wm_585 rfl rfl (by decide) kd_77 wm_587 wp_10 rfl (Nat.le_of_ble_eq_true rfl) (M0.mono h (fun v τ24 h => ?_))
    obtain ⟨b25, rfl, h⟩ := h
    show V0 E (d + 1) qX4_readKnownName 13 [some (vR 77), some (vB a0)] [vB b25] τ24 Q
    exact u_zret (b := b25) dX4_readKnownName_13 rfl rfl h
theorem mX4_readKnownName {E : mm_Env} {d : Nat} {τ : mm_Mem} {Q : mm_Q0} {a0 : Bool} (h : (((τ 77 3) = 5 → ((a0 = false → ∃ o2 : Nat, (τ 77 1) = (o2 : Int) ∧ KD o2 = some (.inr 2) ∧ M0 E d qX2_tuneNamed [vR o2, vI (τ 77 4)] τ (fun v τ6 => ∃ r7 : Int, v = some (vI r7) ∧ inR r7 ∧ ((r7 ≠ (-1) → M0 E d qX4_advance [vR 77] (wr τ6 77 6 r7) (fun v τ10 => v = none ∧ Q (some (vB true)) τ10)) ∧ (r7 = (-1) → M0 E d qX4_fail [vR 77, vI 3] (wr τ6 77 6 r7) (fun v τ11 => ∃ b12 : Bool, v = some (vB b12) ∧ Q (some (vB b12)) τ11))))) ∧ (a0 = true → ∃ o13 : Nat, (τ 77 1) = (o13 : Int) ∧ KD o13 = some (.inr 2) ∧ M0 E d qX2_doorNamed [vR o13, vI (τ 77 4)] τ (fun v τ17 => ∃ r18 : Int, v = some (vI r18) ∧ inR r18 ∧ ((r18 ≠ (-1) → M0 E d qX4_advance [vR 77] (wr τ17 77 6 r18) (fun v τ21 => v = none ∧ Q (some (vB true)) τ21)) ∧ (r18 = (-1) → M0 E d qX4_fail [vR 77, vI 3] (wr τ17 77 6 r18) (fun v τ22 => ∃ b23 : Bool, v = some (vB b23) ∧ Q (some (vB b23)) τ22))))))) ∧ (¬ (τ 77 3) = 5 → M0 E d qX4_fail [vR 77, vI 1] τ (fun v τ24 => ∃ b25 : Bool, v = some (vB b25) ∧ Q (some (vB b25)) τ24)))) : M0 E (d + 1) qX4_readKnownName [vR 77, vB a0] τ Q := M0_of rfl (Nat.le_of_ble_eq_true rfl) [some (vR 77), some (vB a0)] rfl (bX4_readKnownName_0  h)
set_option maxRecDepth 20000 in
theorem bX4_readWorth_0 {E : mm_Env} {d : Nat} {τ : mm_Mem} {Q : mm_Q0}  (h : M0 E d qX4_advance [vR 77] τ (fun v τ1 => v = none ∧ M0 E d qX4_readNumber [vR 77, vI 0, vI 9999] τ1 (fun v τ2 => ∃ b3 : Bool, v = some (vB b3) ∧ ((b3 = true → ∃ o4 : Nat, (τ2 77 1) = (o4 : Int) ∧ KD o4 = some (.inr 2) ∧ M0 E d qX4_readNumber [vR 77, vI 0, vI 9999] (wr τ2 o4 5 (τ2 77 6)) (fun v τ8 => ∃ b9 : Bool, v = some (vB b9) ∧ ((b9 = true → ∃ o10 : Nat, (τ8 77 1) = (o10 : Int) ∧ KD o10 = some (.inr 2) ∧ Q (some (vB true)) (wr τ8 o10 6 (τ8 77 6))) ∧ (b9 = false → Q (some (vB false)) τ8)))) ∧ (b3 = false → Q (some (vB false)) τ2))))) : V0 E (d + 1) qX4_readWorth 0 [some (vR 77)] [] τ Q := by
  refine u_aload_n (i := 0) (pc' := 1) dX4_readWorth_0 rfl rfl rfl ?_
  refine u_invV (q' := qX4_advance) (As := []) (st := []) (pc' := 4) dX4_readWorth_1 rfl gX4_advance wm_569 rfl rfl (by decide) kd_77 wm_571 wp_6 rfl (Nat.le_of_ble_eq_true rfl) (M0.mono h (fun v τ1 h => ?_))
  obtain ⟨rfl, h⟩ := h
  show V0 E (d + 1) qX4_readWorth 4 [some (vR 77)] [] τ1 Q
  refine u_aload_n (i := 0) (pc' := 5) dX4_readWorth_4 rfl rfl rfl ?_
  refine u_iconst (pc' := 6) dX4_readWorth_5 rfl ?_
  refine u_sipush (pc' := 9) dX4_readWorth_6 rfl (by decide) ?_
  refine u_invV (q' := qX4_readNumber) (As := [vI 0, vI 9999]) (st := []) (pc' := 12) dX4_readWorth_9 rfl gX4_readNumber wm_589 rfl rfl (by decide) kd_77 wm_591 wp_11 rfl (Nat.le_of_ble_eq_true rfl) (M0.mono h (fun v τ2 h => ?_))
  obtain ⟨b3, rfl, h⟩ := h
  show V0 E (d + 1) qX4_readWorth 12 [some (vR 77)] [vB b3] τ2 Q
  refine u_if_ne (tgt := 17) (pc' := 15) dX4_readWorth_12 rfl (by decide) (bI_R _) (fun hb => ?_) (fun hb => ?_)
  · have h := h.1 (bI_n0.mp hb)
    refine u_aload_n (i := 0) (pc' := 18) dX4_readWorth_17 rfl rfl rfl ?_
    obtain ⟨o4, z5, k6, h⟩ := h
    refine u_getD (a := o4) (pc' := 21) dX4_readWorth_18 rfl fl_TuneDoor_Reader_19 rfl (by decide) kd_77 rfl (z5) ?_
    refine u_aload_n (i := 0) (pc' := 22) dX4_readWorth_21 rfl rfl rfl ?_
    refine u_getI (z := (τ2 77 6)) (pc' := 25) dX4_readWorth_22 rfl fl_TuneDoor_Reader_78 rfl (by decide) (by decide) kd_77 rfl (fun r7 => ?_)
    refine u_putI (pc' := 28) dX4_readWorth_25 rfl fl_TuneDoor_Reader_196 rfl rfl (by decide) (kHouse k6).1 k6 r7 ?_
    refine u_aload_n (i := 0) (pc' := 29) dX4_readWorth_28 rfl rfl rfl ?_
    refine u_iconst (pc' := 30) dX4_readWorth_29 rfl ?_
    refine u_sipush (pc' := 33) dX4_readWorth_30 rfl (by decide) ?_
    refine u_invV (q' := qX4_readNumber) (As := [vI 0, vI 9999]) (st := []) (pc' := 36) dX4_readWorth_33 rfl gX4_readNumber wm_589 rfl rfl (by decide) kd_77 wm_591 wp_11 rfl (Nat.le_of_ble_eq_true rfl) (M0.mono h (fun v τ8 h => ?_))
    obtain ⟨b9, rfl, h⟩ := h
    show V0 E (d + 1) qX4_readWorth 36 [some (vR 77)] [vB b9] τ8 Q
    refine u_if_ne (tgt := 41) (pc' := 39) dX4_readWorth_36 rfl (by decide) (bI_R _) (fun hb => ?_) (fun hb => ?_)
    · have h := h.1 (bI_n0.mp hb)
      refine u_aload_n (i := 0) (pc' := 42) dX4_readWorth_41 rfl rfl rfl ?_
      obtain ⟨o10, z11, k12, h⟩ := h
      refine u_getD (a := o10) (pc' := 45) dX4_readWorth_42 rfl fl_TuneDoor_Reader_19 rfl (by decide) kd_77 rfl (z11) ?_
      refine u_aload_n (i := 0) (pc' := 46) dX4_readWorth_45 rfl rfl rfl ?_
      refine u_getI (z := (τ8 77 6)) (pc' := 49) dX4_readWorth_46 rfl fl_TuneDoor_Reader_78 rfl (by decide) (by decide) kd_77 rfl (fun r13 => ?_)
      refine u_putI (pc' := 52) dX4_readWorth_49 rfl fl_TuneDoor_Reader_199 rfl rfl (by decide) (kHouse k12).1 k12 r13 ?_
      refine u_iconst (pc' := 53) dX4_readWorth_52 rfl ?_
      exact u_zret (b := true) dX4_readWorth_53 rfl rfl h
    · have h := h.2 (bI_0.mp hb)
      refine u_iconst (pc' := 40) dX4_readWorth_39 rfl ?_
      exact u_zret (b := false) dX4_readWorth_40 rfl rfl h
  · have h := h.2 (bI_0.mp hb)
    refine u_iconst (pc' := 16) dX4_readWorth_15 rfl ?_
    exact u_zret (b := false) dX4_readWorth_16 rfl rfl h
theorem mX4_readWorth {E : mm_Env} {d : Nat} {τ : mm_Mem} {Q : mm_Q0}  (h : M0 E d qX4_advance [vR 77] τ (fun v τ1 => v = none ∧ M0 E d qX4_readNumber [vR 77, vI 0, vI 9999] τ1 (fun v τ2 => ∃ b3 : Bool, v = some (vB b3) ∧ ((b3 = true → ∃ o4 : Nat, (τ2 77 1) = (o4 : Int) ∧ KD o4 = some (.inr 2) ∧ M0 E d qX4_readNumber [vR 77, vI 0, vI 9999] (wr τ2 o4 5 (τ2 77 6)) (fun v τ8 => ∃ b9 : Bool, v = some (vB b9) ∧ ((b9 = true → ∃ o10 : Nat, (τ8 77 1) = (o10 : Int) ∧ KD o10 = some (.inr 2) ∧ Q (some (vB true)) (wr τ8 o10 6 (τ8 77 6))) ∧ (b9 = false → Q (some (vB false)) τ8)))) ∧ (b3 = false → Q (some (vB false)) τ2))))) : M0 E (d + 1) qX4_readWorth [vR 77] τ Q := M0_of rfl (Nat.le_of_ble_eq_true rfl) [some (vR 77)] rfl (bX4_readWorth_0  h)
