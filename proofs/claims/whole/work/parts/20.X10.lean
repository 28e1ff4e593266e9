set_option maxRecDepth 20000 in
theorem bX10_feed_0 {E : mm_Env} {d : Nat} {τ : mm_Mem} {Q : mm_Q0} {a0 : Int} {a1 : Int} {a2 : Int} {a3 : Int} {a4 : Int} (h : inR ((τ 2 1) + 20) ∧ ((((τ 2 1) + 20) ≤ 1600 → M0 E d qX10_putNumber [vR 2, vI a0] τ (fun v τ3 => v = none ∧ M0 E d qX10_putNumber [vR 2, vI a1] τ3 (fun v τ4 => v = none ∧ M0 E d qX10_putNumber [vR 2, vI a2] τ4 (fun v τ5 => v = none ∧ M0 E d qX10_putNumber [vR 2, vI a3] τ5 (fun v τ6 => v = none ∧ M0 E d qX10_putNumber [vR 2, vI a4] τ6 (fun v τ7 => v = none ∧ Q (some (vI (τ7 2 1))) τ7)))))) ∧ (¬ ((τ 2 1) + 20) ≤ 1600 → inR ((τ 139 0) + 1) ∧ Q (some (vI (-1))) (wr τ 139 0 ((τ 139 0) + 1))))) : V0 E (d + 1) qX10_feed 0 [some (vR 2), some (vI a0), some (vI a1), some (vI a2), some (vI a3), some (vI a4)] [] τ Q := by
  refine u_aload_n (i := 0) (pc' := 1) dX10_feed_0 rfl rfl rfl ?_
  refine u_getI (z := (τ 2 1)) (pc' := 4) dX10_feed_1 rfl fl_TuneDoor_86 rfl (by decide) (by decide) kd_2 rfl (fun r1 => ?_)
  refine u_bipush (pc' := 6) dX10_feed_4 rfl (by decide) ?_
  refine u_iadd (pc' := 7) dX10_feed_6 rfl ?_
  refine u_sipush (pc' := 10) dX10_feed_7 rfl (by decide) ?_
  obtain ⟨c2, h⟩ := h
  refine u_icmp_le (tgt := 25) (pc' := 13) dX10_feed_10 rfl (by decide) c2 ⟨by decide, by decide⟩ (fun hb => ?_) (fun hb => ?_)
  · have h := h.1 hb
    refine u_aload_n (i := 0) (pc' := 26) dX10_feed_25 rfl rfl rfl ?_
    refine u_iload_n (i := 1) (pc' := 27) dX10_feed_26 rfl rfl rfl ?_
    refine u_invV (q' := qX10_putNumber) (As := [vI a0]) (st := []) (pc' := 30) dX10_feed_27 rfl gX10_putNumber wm_509 rfl rfl (by decide) kd_2 wm_511 wp_0 rfl (Nat.le_of_ble_eq_true rfl) (M0.mono h (fun v τ3 h => ?_))
    obtain ⟨rfl, h⟩ := h
    show V0 E (d + 1) qX10_feed 30 [some (vR 2), some (vI a0), some (vI a1), some (vI a2), some (vI a3), some (vI a4)] [] τ3 Q
    refine u_aload_n (i := 0) (pc' := 31) dX10_feed_30 rfl rfl rfl ?_
    refine u_iload_n (i := 2) (pc' := 32) dX10_feed_31 rfl rfl rfl ?_
    refine u_invV (q' := qX10_putNumber) (As := [vI a1]) (st := []) (pc' := 35) dX10_feed_32 rfl gX10_putNumber wm_509 rfl rfl (by decide) kd_2 wm_511 wp_0 rfl (Nat.le_of_ble_eq_true rfl) (M0.mono h (fun v τ4 h => ?_))
    obtain ⟨rfl, h⟩ := h
    show V0 E (d + 1) qX10_feed 35 [some (vR 2), some (vI a0), some (vI a1), some (vI a2), some (vI a3), some (vI a4)] [] τ4 Q
    refine u_aload_n (i := 0) (pc' := 36) dX10_feed_35 rfl rfl rfl ?_
    refine u_iload_n (i := 3) (pc' := 37) dX10_feed_36 rfl rfl rfl ?_
    refine u_invV (q' := qX10_putNumber) (As := [vI a2]) (st := []) (pc' := 40) dX10_feed_37 rfl gX10_putNumber wm_509 rfl rfl (by decide) kd_2 wm_511 wp_0 rfl (Nat.le_of_ble_eq_true rfl) (M0.mono h (fun v τ5 h => ?_))
    obtain ⟨rfl, h⟩ := h
    show V0 E (d + 1) qX10_feed 40 [some (vR 2), some (vI a0), some (vI a1), some (vI a2), some (vI a3), some (vI a4)] [] τ5 Q
    refine u_aload_n (i := 0) (pc' := 41) dX10_feed_40 rfl rfl rfl ?_
    refine u_iload (i := 4) (pc' := 43) dX10_feed_41 rfl rfl ?_
    refine u_invV (q' := qX10_putNumber) (As := [vI a3]) (st := []) (pc' := 46) dX10_feed_43 rfl gX10_putNumber wm_509 rfl rfl (by decide) kd_2 wm_511 wp_0 rfl (Nat.le_of_ble_eq_true rfl) (M0.mono h (fun v τ6 h => ?_))
    obtain ⟨rfl, h⟩ := h
    show V0 E (d + 1) qX10_feed 46 [some (vR 2), some (vI a0), some (vI a1), some (vI a2), some (vI a3), some (vI a4)] [] τ6 Q
    refine u_aload_n (i := 0) (pc' := 47) dX10_feed_46 rfl rfl rfl ?_
    refine u_iload (i := 5) (pc' := 49) dX10_feed_47 rfl rfl ?_
    refine u_invV (q' := qX10_putNumber) (As := [vI a4]) (st := []) (pc' := 52) dX10_feed_49 rfl gX10_putNumber wm_509 rfl rfl (by decide) kd_2 wm_511 wp_0 rfl (Nat.le_of_ble_eq_true rfl) (M0.mono h (fun v τ7 h => ?_))
    obtain ⟨rfl, h⟩ := h
    show V0 E (d + 1) qX10_feed 52 [some (vR 2), some (vI a0), some (vI a1), some (vI a2), some (vI a3), some (vI a4)] [] τ7 Q
    refine u_aload_n (i := 0) (pc' := 53) dX10_feed_52 rfl rfl rfl ?_
    refine u_getI (z := (τ7 2 1)) (pc' := 56) dX10_feed_53 rfl fl_TuneDoor_86 rfl (by decide) (by decide) kd_2 rfl (fun r8 => ?_)
    exact u_iret dX10_feed_56 rfl h
  · have h := h.2 hb
    refine u_aload_n (i := 0) (pc' := 14) dX10_feed_13 rfl rfl rfl ?_
    refine u_getR (a := 139) (pc' := 17) dX10_feed_14 rfl fl_TuneDoor_79 rfl (by decide) kd_2 rfl ?_
    refine u_iconst (pc' := 18) dX10_feed_17 rfl ?_
    refine u_dup2 (pc' := 19) dX10_feed_18 rfl (fun _ hh => by cases hh) (fun _ hh => by cases hh) ?_
    refine u_iaload (k := 0) (z := (τ 139 0)) (pc' := 20) dX10_feed_19 rfl (by decide) kd_139 (by decide) (by decide) (by decide) rfl rfl (fun r9 => ?_)
    refine u_iconst (pc' := 21) dX10_feed_20 rfl ?_
    refine u_iadd (pc' := 22) dX10_feed_21 rfl ?_
    obtain ⟨c10, h⟩ := h
    refine u_iastore (k := 0) (pc' := 23) dX10_feed_22 rfl (by decide) kd_139 (by decide) (by decide) (by decide) rfl c10 ?_
    refine u_iconst (pc' := 24) dX10_feed_23 rfl ?_
    exact u_iret dX10_feed_24 rfl h
theorem mX10_feed {E : mm_Env} {d : Nat} {τ : mm_Mem} {Q : mm_Q0} {a0 : Int} {a1 : Int} {a2 : Int} {a3 : Int} {a4 : Int} (h : inR ((τ 2 1) + 20) ∧ ((((τ 2 1) + 20) ≤ 1600 → M0 E d qX10_putNumber [vR 2, vI a0] τ (fun v τ3 => v = none ∧ M0 E d qX10_putNumber [vR 2, vI a1] τ3 (fun v τ4 => v = none ∧ M0 E d qX10_putNumber [vR 2, vI a2] τ4 (fun v τ5 => v = none ∧ M0 E d qX10_putNumber [vR 2, vI a3] τ5 (fun v τ6 => v = none ∧ M0 E d qX10_putNumber [vR 2, vI a4] τ6 (fun v τ7 => v = none ∧ Q (some (vI (τ7 2 1))) τ7)))))) ∧ (¬ ((τ 2 1) + 20) ≤ 1600 → inR ((τ 139 0) + 1) ∧ Q (some (vI (-1))) (wr τ 139 0 ((τ 139 0) + 1))))) : M0 E (d + 1) qX10_feed [vR 2, vI a0, vI a1, vI a2, vI a3, vI a4] τ Q := M0_of rfl (Nat.le_of_ble_eq_true rfl) [some (vR 2), some (vI a0), some (vI a1), some (vI a2), some (vI a3), some (vI a4)] rfl (bX10_feed_0  h)
set_option maxRecDepth 20000 in
theorem bX10_putNumber_0 {E : mm_Env} {d : Nat} {τ : mm_Mem} {Q : mm_Q0} {a0 : Int} (h : V0 E d qX10_putNumber 3 [some (vR 2), some (vI a0), some (vI 24)] [] τ Q) : V0 E d qX10_putNumber 0 [some (vR 2), some (vI a0), none] [] τ Q := by
  refine u_bipush (pc' := 2) dX10_putNumber_0 rfl (by decide) ?_
  refine s_istore_n (i := 2) (ls' := [some (vR 2), some (vI a0), some (vI 24)]) (pc' := 3) dX10_putNumber_2 rfl rfl (Nat.le_of_ble_eq_true rfl) rfl rfl ?_
  exact u_less (ls' := [some (vR 2), some (vI a0), some (vI 24)]) ⟨rfl, ⟨rfl, ⟨rfl, trivial⟩⟩⟩ h
theorem mX10_putNumber {E : mm_Env} {d : Nat} {τ : mm_Mem} {Q : mm_Q0} {a0 : Int} (h : V0 E d qX10_putNumber 3 [some (vR 2), some (vI a0), some (vI 24)] [] τ Q) : M0 E d qX10_putNumber [vR 2, vI a0] τ Q := M0_of rfl (Nat.le_of_ble_eq_true rfl) [some (vR 2), some (vI a0), none] rfl (bX10_putNumber_0  h)
set_option maxRecDepth 20000 in
theorem bX10_putNumber_3 {E : mm_Env} {d : Nat} {τ : mm_Mem} {Q : mm_Q0} {x1 : Int} {x2 : Int} (h : inR x2 ∧ ((x2 < 0 → Q none τ) ∧ (¬ x2 < 0 → ((1600 ≤ (τ 2 1) → Q none τ) ∧ (¬ 1600 ≤ (τ 2 1) → 0 ≤ (τ 2 1) ∧ (τ 2 1) < 1600 ∧ inR (mm_and (mm_shr x1 x2) 255) ∧ inR ((τ 2 1) + 1) ∧ V0 E d qX10_putNumber 3 [some (vR 2), some (vI x1), some (vI (x2 + (-8)))] [] (wr (wr τ 3 (τ 2 1).toNat (mm_and (mm_shr x1 x2) 255)) 2 1 ((τ 2 1) + 1)) Q))))) : V0 E d qX10_putNumber 3 [some (vR 2), some (vI x1), some (vI x2)] [] τ Q := by
  refine u_iload_n (i := 2) (pc' := 4) dX10_putNumber_3 rfl rfl rfl ?_
  obtain ⟨c1, h⟩ := h
  refine u_if_lt (tgt := 51) (pc' := 7) dX10_putNumber_4 rfl (by decide) c1 (fun hb => ?_) (fun hb => ?_)
  · have h := h.1 hb
    exact u_ret dX10_putNumber_51 rfl h
  · have h := h.2 hb
    refine u_aload_n (i := 0) (pc' := 8) dX10_putNumber_7 rfl rfl rfl ?_
    refine u_getI (z := (τ 2 1)) (pc' := 11) dX10_putNumber_8 rfl fl_TuneDoor_86 rfl (by decide) (by decide) kd_2 rfl (fun r2 => ?_)
    refine u_aload_n (i := 0) (pc' := 12) dX10_putNumber_11 rfl rfl rfl ?_
    refine u_getR (a := 3) (pc' := 15) dX10_putNumber_12 rfl fl_TuneDoor_9 rfl (by decide) kd_2 rfl ?_
    refine u_alen (t0 := 0) (pc' := 16) dX10_putNumber_15 rfl (by decide) kd_3 (fun _ => rfl) ?_
    refine u_icmp_ge (tgt := 51) (pc' := 19) dX10_putNumber_16 rfl (by decide) r2 ⟨by decide, by decide⟩ (fun hb => ?_) (fun hb => ?_)
    · have h := h.1 hb
      exact u_ret dX10_putNumber_51 rfl h
    · have h := h.2 hb
      refine u_aload_n (i := 0) (pc' := 20) dX10_putNumber_19 rfl rfl rfl ?_
      refine u_getR (a := 3) (pc' := 23) dX10_putNumber_20 rfl fl_TuneDoor_9 rfl (by decide) kd_2 rfl ?_
      refine u_aload_n (i := 0) (pc' := 24) dX10_putNumber_23 rfl rfl rfl ?_
      refine u_getI (z := (τ 2 1)) (pc' := 27) dX10_putNumber_24 rfl fl_TuneDoor_86 rfl (by decide) (by decide) kd_2 rfl (fun r3 => ?_)
      refine u_iload_n (i := 1) (pc' := 28) dX10_putNumber_27 rfl rfl rfl ?_
      refine u_iload_n (i := 2) (pc' := 29) dX10_putNumber_28 rfl rfl rfl ?_
      refine u_ishr (pc' := 30) dX10_putNumber_29 rfl ?_
      refine u_sipush (pc' := 33) dX10_putNumber_30 rfl (by decide) ?_
      refine u_iand (pc' := 34) dX10_putNumber_33 rfl ?_
      obtain ⟨c4, c5, c6, h⟩ := h
      refine u_iastore (k := (τ 2 1).toNat) (pc' := 35) dX10_putNumber_34 rfl (by decide) kd_3 c4 c5 (by decide) rfl c6 ?_
      refine u_aload_n (i := 0) (pc' := 36) dX10_putNumber_35 rfl rfl rfl ?_
      refine u_dup (pc' := 37) dX10_putNumber_36 rfl (fun _ hh => by cases hh) ?_
      refine u_getI (z := (τ 2 1)) (pc' := 40) dX10_putNumber_37 rfl fl_TuneDoor_86 rfl (by decide) (by decide) kd_2 rfl (fun r7 => ?_)
      refine u_iconst (pc' := 41) dX10_putNumber_40 rfl ?_
      refine u_iadd (pc' := 42) dX10_putNumber_41 rfl ?_
      obtain ⟨c8, h⟩ := h
      refine u_putI (pc' := 45) dX10_putNumber_42 rfl fl_TuneDoor_86 rfl rfl (by decide) (by decide) kd_2 c8 ?_
      refine s_iinc (i := 2) (ls' := [some (vR 2), some (vI x1), some (vI (x2 + (-8)))]) (pc' := 48) dX10_putNumber_45 rfl rfl (Nat.le_of_ble_eq_true rfl) rfl rfl ?_
      refine u_goto (tgt := 3) dX10_putNumber_48 (by decide) ?_
      exact u_less (ls' := [some (vR 2), some (vI x1), some (vI (x2 + (-8)))]) ⟨rfl, ⟨rfl, ⟨rfl, trivial⟩⟩⟩ h
set_option maxRecDepth 20000 in
theorem bX10_end_0 {E : mm_Env} {d : Nat} {τ : mm_Mem} {Q : mm_Q0} {a0 : Int} (h : inR a0 ∧ ((a0 < 0 → inR ((τ 139 0) + 1) ∧ Q (some (vB false)) (wr τ 139 0 ((τ 139 0) + 1))) ∧ (¬ a0 < 0 → ((a0 ≤ (τ 2 1) → Q (some (vB true)) (wr τ 2 1 a0)) ∧ (¬ a0 ≤ (τ 2 1) → inR ((τ 139 0) + 1) ∧ Q (some (vB false)) (wr τ 139 0 ((τ 139 0) + 1))))))) : V0 E d qX10_end 0 [some (vR 2), some (vI a0)] [] τ Q := by
  refine u_iload_n (i := 1) (pc' := 1) dX10_end_0 rfl rfl rfl ?_
  obtain ⟨c1, h⟩ := h
  refine u_if_lt (tgt := 12) (pc' := 4) dX10_end_1 rfl (by decide) c1 (fun hb => ?_) (fun hb => ?_)
  · have h := h.1 hb
    refine u_aload_n (i := 0) (pc' := 13) dX10_end_12 rfl rfl rfl ?_
    refine u_getR (a := 139) (pc' := 16) dX10_end_13 rfl fl_TuneDoor_79 rfl (by decide) kd_2 rfl ?_
    refine u_iconst (pc' := 17) dX10_end_16 rfl ?_
    refine u_dup2 (pc' := 18) dX10_end_17 rfl (fun _ hh => by cases hh) (fun _ hh => by cases hh) ?_
    refine u_iaload (k := 0) (z := (τ 139 0)) (pc' := 19) dX10_end_18 rfl (by decide) kd_139 (by decide) (by decide) (by decide) rfl rfl (fun r2 => ?_)
    refine u_iconst (pc' := 20) dX10_end_19 rfl ?_
    refine u_iadd (pc' := 21) dX10_end_20 rfl ?_
    obtain ⟨c3, h⟩ := h
    refine u_iastore (k := 0) (pc' := 22) dX10_end_21 rfl (by decide) kd_139 (by decide) (by decide) (by decide) rfl c3 ?_
    refine u_iconst (pc' := 23) dX10_end_22 rfl ?_
    exact u_zret (b := false) dX10_end_23 rfl rfl h
  · have h := h.2 hb
    refine u_iload_n (i := 1) (pc' := 5) dX10_end_4 rfl rfl rfl ?_
    refine u_aload_n (i := 0) (pc' := 6) dX10_end_5 rfl rfl rfl ?_
    refine u_getI (z := (τ 2 1)) (pc' := 9) dX10_end_6 rfl fl_TuneDoor_86 rfl (by decide) (by decide) kd_2 rfl (fun r4 => ?_)
    refine u_icmp_le (tgt := 24) (pc' := 12) dX10_end_9 rfl (by decide) c1 r4 (fun hb => ?_) (fun hb => ?_)
    · have h := h.1 hb
      refine u_aload_n (i := 0) (pc' := 25) dX10_end_24 rfl rfl rfl ?_
      refine u_iload_n (i := 1) (pc' := 26) dX10_end_25 rfl rfl rfl ?_
      refine u_putI (pc' := 29) dX10_end_26 rfl fl_TuneDoor_86 rfl rfl (by decide) (by decide) kd_2 c1 ?_
      refine u_iconst (pc' := 30) dX10_end_29 rfl ?_
      exact u_zret (b := true) dX10_end_30 rfl rfl h
    · have h := h.2 hb
      refine u_aload_n (i := 0) (pc' := 13) dX10_end_12 rfl rfl rfl ?_
      refine u_getR (a := 139) (pc' := 16) dX10_end_13 rfl fl_TuneDoor_79 rfl (by decide) kd_2 rfl ?_
      refine u_iconst (pc' := 17) dX10_end_16 rfl ?_
      refine u_dup2 (pc' := 18) dX10_end_17 rfl (fun _ hh => by cases hh) (fun _ hh => by cases hh) ?_
      refine u_iaload (k := 0) (z := (τ 139 0)) (pc' := 19) dX10_end_18 rfl (by decide) kd_139 (by decide) (by decide) (by decide) rfl rfl (fun r5 => ?_)
      refine u_iconst (pc' := 20) dX10_end_19 rfl ?_
      refine u_iadd (pc' := 21) dX10_end_20 rfl ?_
      obtain ⟨c6, h⟩ := h
      refine u_iastore (k := 0) (pc' := 22) dX10_end_21 rfl (by decide) kd_139 (by decide) (by decide) (by decide) rfl c6 ?_
      refine u_iconst (pc' := 23) dX10_end_22 rfl ?_
      exact u_zret (b := false) dX10_end_23 rfl rfl h
theorem mX10_end {E : mm_Env} {d : Nat} {τ : mm_Mem} {Q : mm_Q0} {a0 : Int} (h : inR a0 ∧ ((a0 < 0 → inR ((τ 139 0) + 1) ∧ Q (some (vB false)) (wr τ 139 0 ((τ 139 0) + 1))) ∧ (¬ a0 < 0 → ((a0 ≤ (τ 2 1) → Q (some (vB true)) (wr τ 2 1 a0)) ∧ (¬ a0 ≤ (τ 2 1) → inR ((τ 139 0) + 1) ∧ Q (some (vB false)) (wr τ 139 0 ((τ 139 0) + 1))))))) : M0 E d qX10_end [vR 2, vI a0] τ Q := M0_of rfl (Nat.le_of_ble_eq_true rfl) [some (vR 2), some (vI a0)] rfl (bX10_end_0  h)
set_option maxRecDepth 20000 in
theorem bX10_house_0 {E : mm_Env} {d : Nat} {τ : mm_Mem} {Q : mm_Q0}  (h : M0 E d qX10_takeTape [vR 2] τ (fun v τ1 => ∃ r2 : Int, v = some (vI r2) ∧ M0 E d qX6_split [vR 72, vR 3, vI r2] τ1 (fun v τ3 => v = none ∧ ∃ o4 : Nat, (τ3 2 3) = (o4 : Int) ∧ KD o4 = some (.inr 2) ∧ M0 E d qX4_read [vR 77, vR o4] τ3 (fun v τ7 => ∃ r8 : Int, v = some (vI r8) ∧ inR r8 ∧ ((r8 ≠ (-1) → ∃ o10 : Nat, (τ7 2 3) = (o10 : Int) ∧ KD o10 = some (.inr 2) ∧ ∃ o13 : Nat, (τ7 2 2) = (o13 : Int) ∧ KD o13 = some (.inr 2) ∧ ∃ o16 : Nat, (o10 : Int) = (o16 : Int) ∧ KD o16 = some (.inr 2) ∧ M0 E d qX9_make [vR 78, vR o16] (wr (wr τ7 2 3 (o13 : Int)) 2 2 (o10 : Int)) (fun v τ19 => v = none ∧ Q (some (vI r8)) τ19)) ∧ (r8 = (-1) → inR ((τ7 139 1) + 1) ∧ Q (some (vI (-1))) (wr τ7 139 1 ((τ7 139 1) + 1)))))))) : V0 E (d + 1) qX10_house 0 [some (vR 2), none, none] [] τ Q := by
  refine u_aload_n (i := 0) (pc' := 1) dX10_house_0 rfl rfl rfl ?_
  refine u_getR (a := 72) (pc' := 4) dX10_house_1 rfl fl_TuneDoor_26 rfl (by decide) kd_2 rfl ?_
  refine u_aload_n (i := 0) (pc' := 5) dX10_house_4 rfl rfl rfl ?_
  refine u_getR (a := 3) (pc' := 8) dX10_house_5 rfl fl_TuneDoor_9 rfl (by decide) kd_2 rfl ?_
  refine u_aload_n (i := 0) (pc' := 9) dX10_house_8 rfl rfl rfl ?_
  refine u_invV (q' := qX10_takeTape) (As := []) (st := [vR 3, vR 72]) (pc' := 12) dX10_house_9 rfl gX10_takeTape wm_521 rfl rfl (by decide) kd_2 wm_523 wp_1 rfl (Nat.le_of_ble_eq_true rfl) (M0.mono h (fun v τ1 h => ?_))
  obtain ⟨r2, rfl, h⟩ := h
  show V0 E (d + 1) qX10_house 12 [some (vR 2), none, none] [vI r2, vR 3, vR 72] τ1 Q
  refine u_invV (q' := qX6_split) (As := [vR 3, vI r2]) (st := []) (pc' := 15) dX10_house_12 rfl gX6_split wm_525 rfl rfl (by decide) kd_72 wm_526 wm_527 rfl (Nat.le_of_ble_eq_true rfl) (M0.mono h (fun v τ3 h => ?_))
  obtain ⟨rfl, h⟩ := h
  show V0 E (d + 1) qX10_house 15 [some (vR 2), none, none] [] τ3 Q
  refine u_aload_n (i := 0) (pc' := 16) dX10_house_15 rfl rfl rfl ?_
  refine u_getR (a := 77) (pc' := 19) dX10_house_16 rfl fl_TuneDoor_35 rfl (by decide) kd_2 rfl ?_
  refine u_aload_n (i := 0) (pc' := 20) dX10_house_19 rfl rfl rfl ?_
  obtain ⟨o4, z5, k6, h⟩ := h
  refine u_getD (a := o4) (pc' := 23) dX10_house_20 rfl fl_TuneDoor_20 rfl (by decide) kd_2 rfl (z5) ?_
  refine u_invV (q' := qX4_read) (As := [vR o4]) (st := []) (pc' := 26) dX10_house_23 rfl gX4_read wm_554 rfl rfl (by decide) kd_77 wm_555 wm_556 rfl (Nat.le_of_ble_eq_true rfl) (M0.mono h (fun v τ7 h => ?_))
  obtain ⟨r8, rfl, h⟩ := h
  show V0 E (d + 1) qX10_house 26 [some (vR 2), none, none] [vI r8] τ7 Q
  refine s_istore_n (i := 1) (ls' := [some (vR 2), some (vI r8), none]) (pc' := 27) dX10_house_26 rfl rfl (Nat.le_of_ble_eq_true rfl) rfl rfl ?_
  refine u_iload_n (i := 1) (pc' := 28) dX10_house_27 rfl rfl rfl ?_
  refine u_iconst (pc' := 29) dX10_house_28 rfl ?_
  obtain ⟨c9, h⟩ := h
  refine u_icmp_ne (tgt := 44) (pc' := 32) dX10_house_29 rfl (by decide) c9 ⟨by decide, by decide⟩ (fun hb => ?_) (fun hb => ?_)
  · have h := h.1 hb
    refine u_aload_n (i := 0) (pc' := 45) dX10_house_44 rfl rfl rfl ?_
    obtain ⟨o10, z11, k12, h⟩ := h
    refine u_getD (a := o10) (pc' := 48) dX10_house_45 rfl fl_TuneDoor_20 rfl (by decide) kd_2 rfl (z11) ?_
    refine s_astore_n (i := 2) (ls' := [some (vR 2), some (vI r8), some (vR o10)]) (pc' := 49) dX10_house_48 rfl rfl (Nat.le_of_ble_eq_true rfl) rfl rfl ?_
    refine u_aload_n (i := 0) (pc' := 50) dX10_house_49 rfl rfl rfl ?_
    refine u_aload_n (i := 0) (pc' := 51) dX10_house_50 rfl rfl rfl ?_
    obtain ⟨o13, z14, k15, h⟩ := h
    refine u_getD (a := o13) (pc' := 54) dX10_house_51 rfl fl_TuneDoor_16 rfl (by decide) kd_2 rfl (z14) ?_
    refine u_putR (pc' := 57) dX10_house_54 rfl fl_TuneDoor_20 rfl rfl rfl (by decide) kd_2 ?_
    refine u_aload_n (i := 0) (pc' := 58) dX10_house_57 rfl rfl rfl ?_
    refine u_aload_n (i := 2) (pc' := 59) dX10_house_58 rfl rfl rfl ?_
    refine u_putR (pc' := 62) dX10_house_59 rfl fl_TuneDoor_16 rfl rfl rfl (by decide) kd_2 ?_
    refine u_aload_n (i := 0) (pc' := 63) dX10_house_62 rfl rfl rfl ?_
    refine u_getR (a := 78) (pc' := 66) dX10_house_63 rfl fl_TuneDoor_42 rfl (by decide) kd_2 rfl ?_
    refine u_aload_n (i := 0) (pc' := 67) dX10_house_66 rfl rfl rfl ?_
    obtain ⟨o16, z17, k18, h⟩ := h
    refine u_getD (a := o16) (pc' := 70) dX10_house_67 rfl fl_TuneDoor_16 rfl (by decide) kd_2 rfl (z17) ?_
    refine u_invV (q' := qX9_make) (As := [vR o16]) (st := []) (pc' := 73) dX10_house_70 rfl gX9_make wm_735 rfl rfl (by decide) kd_78 wm_736 wm_737 rfl (Nat.le_of_ble_eq_true rfl) (M0.mono h (fun v τ19 h => ?_))
    obtain ⟨rfl, h⟩ := h
    show V0 E (d + 1) qX10_house 73 [some (vR 2), some (vI r8), some (vR o10)] [] τ19 Q
    refine u_iload_n (i := 1) (pc' := 74) dX10_house_73 rfl rfl rfl ?_
    exact u_iret dX10_house_74 rfl h
  · have h := h.2 hb
    refine u_aload_n (i := 0) (pc' := 33) dX10_house_32 rfl rfl rfl ?_
    refine u_getR (a := 139) (pc' := 36) dX10_house_33 rfl fl_TuneDoor_79 rfl (by decide) kd_2 rfl ?_
    refine u_iconst (pc' := 37) dX10_house_36 rfl ?_
    refine u_dup2 (pc' := 38) dX10_house_37 rfl (fun _ hh => by cases hh) (fun _ hh => by cases hh) ?_
    refine u_iaload (k := 1) (z := (τ7 139 1)) (pc' := 39) dX10_house_38 rfl (by decide) kd_139 (by decide) (by decide) (by decide) rfl rfl (fun r20 => ?_)
    refine u_iconst (pc' := 40) dX10_house_39 rfl ?_
    refine u_iadd (pc' := 41) dX10_house_40 rfl ?_
    obtain ⟨c21, h⟩ := h
    refine u_iastore (k := 1) (pc' := 42) dX10_house_41 rfl (by decide) kd_139 (by decide) (by decide) (by decide) rfl c21 ?_
    refine u_iconst (pc' := 43) dX10_house_42 rfl ?_
    exact u_iret dX10_house_43 rfl h
theorem mX10_house {E : mm_Env} {d : Nat} {τ : mm_Mem} {Q : mm_Q0}  (h : M0 E d qX10_takeTape [vR 2] τ (fun v τ1 => ∃ r2 : Int, v = some (vI r2) ∧ M0 E d qX6_split [vR 72, vR 3, vI r2] τ1 (fun v τ3 => v = none ∧ ∃ o4 : Nat, (τ3 2 3) = (o4 : Int) ∧ KD o4 = some (.inr 2) ∧ M0 E d qX4_read [vR 77, vR o4] τ3 (fun v τ7 => ∃ r8 : Int, v = some (vI r8) ∧ inR r8 ∧ ((r8 ≠ (-1) → ∃ o10 : Nat, (τ7 2 3) = (o10 : Int) ∧ KD o10 = some (.inr 2) ∧ ∃ o13 : Nat, (τ7 2 2) = (o13 : Int) ∧ KD o13 = some (.inr 2) ∧ ∃ o16 : Nat, (o10 : Int) = (o16 : Int) ∧ KD o16 = some (.inr 2) ∧ M0 E d qX9_make [vR 78, vR o16] (wr (wr τ7 2 3 (o13 : Int)) 2 2 (o10 : Int)) (fun v τ19 => v = none ∧ Q (some (vI r8)) τ19)) ∧ (r8 = (-1) → inR ((τ7 139 1) + 1) ∧ Q (some (vI (-1))) (wr τ7 139 1 ((τ7 139 1) + 1)))))))) : M0 E (d + 1) qX10_house [vR 2] τ Q := M0_of rfl (Nat.le_of_ble_eq_true rfl) [some (vR 2), none, none] rfl (bX10_house_0  h)
set_option maxRecDepth 20000 in
theorem bX10_takeTape_0 {E : mm_Env} {d : Nat} {τ : mm_Mem} {Q : mm_Q0}  (h : Q (some (vI (τ 2 1))) (wr τ 2 1 0)) : V0 E d qX10_takeTape 0 [some (vR 2), none] [] τ Q := by
  refine u_aload_n (i := 0) (pc' := 1) dX10_takeTape_0 rfl rfl rfl ?_
  refine u_getI (z := (τ 2 1)) (pc' := 4) dX10_takeTape_1 rfl fl_TuneDoor_86 rfl (by decide) (by decide) kd_2 rfl (fun r1 => ?_)
  refine s_istore_n (i := 1) (ls' := [some (vR 2), some (vI (τ 2 1))]) (pc' := 5) dX10_takeTape_4 rfl rfl (Nat.le_of_ble_eq_true rfl) rfl rfl ?_
  refine u_aload_n (i := 0) (pc' := 6) dX10_takeTape_5 rfl rfl rfl ?_
  refine u_iconst (pc' := 7) dX10_takeTape_6 rfl ?_
  refine u_putI (pc' := 10) dX10_takeTape_7 rfl fl_TuneDoor_86 rfl rfl (by decide) (by decide) kd_2 ⟨by decide, by decide⟩ ?_
  refine u_iload_n (i := 1) (pc' := 11) dX10_takeTape_10 rfl rfl rfl ?_
  exact u_iret dX10_takeTape_11 rfl h
theorem mX10_takeTape {E : mm_Env} {d : Nat} {τ : mm_Mem} {Q : mm_Q0}  (h : Q (some (vI (τ 2 1))) (wr τ 2 1 0)) : M0 E d qX10_takeTape [vR 2] τ Q := M0_of rfl (Nat.le_of_ble_eq_true rfl) [some (vR 2), none] rfl (bX10_takeTape_0  h)
set_option maxRecDepth 20000 in
theorem bX10_modulo_0 {E : mm_Env} {d : Nat} {τ : mm_Mem} {Q : mm_Q0} {a0 : Int} {a1 : Int} (h : inR a1 ∧ ((1 ≤ a1 → M0 E d qJ9_floorMod_7cf53 [vI a0, vI a1] τ (fun v τ2 => ∃ r3 : Int, v = some (vI r3) ∧ Q (some (vI r3)) τ2)) ∧ (¬ 1 ≤ a1 → Q (some (vI 0)) τ))) : V0 E (d + 1) qX10_modulo 0 [some (vI a0), some (vI a1)] [] τ Q := by
  refine u_iload_n (i := 1) (pc' := 1) dX10_modulo_0 rfl rfl rfl ?_
  refine u_iconst (pc' := 2) dX10_modulo_1 rfl ?_
  obtain ⟨c1, h⟩ := h
  refine u_icmp_ge (tgt := 9) (pc' := 5) dX10_modulo_2 rfl (by decide) c1 ⟨by decide, by decide⟩ (fun hb => ?_) (fun hb => ?_)
  · have h := h.1 hb
    refine u_iload_n (i := 0) (pc' := 10) dX10_modulo_9 rfl rfl rfl ?_
    refine u_iload_n (i := 1) (pc' := 11) dX10_modulo_10 rfl rfl rfl ?_
    refine u_invS (q' := qJ9_floorMod_7cf53) (As := [vI a0, vI a1]) (st := []) (pc' := 14) dX10_modulo_11 rfl gJ9_floorMod_7cf53 wm_801 wm_802 rfl (Nat.le_of_ble_eq_true rfl) (M0.mono h (fun v τ2 h => ?_))
    obtain ⟨r3, rfl, h⟩ := h
    show V0 E (d + 1) qX10_modulo 14 [some (vI a0), some (vI a1)] [vI r3] τ2 Q
    exact u_iret dX10_modulo_14 rfl h
  · have h := h.2 hb
    refine u_iconst (pc' := 6) dX10_modulo_5 rfl ?_
    refine u_goto (tgt := 14) dX10_modulo_6 (by decide) ?_
    exact u_iret dX10_modulo_14 rfl h
theorem mX10_modulo {E : mm_Env} {d : Nat} {τ : mm_Mem} {Q : mm_Q0} {a0 : Int} {a1 : Int} (h : inR a1 ∧ ((1 ≤ a1 → M0 E d qJ9_floorMod_7cf53 [vI a0, vI a1] τ (fun v τ2 => ∃ r3 : Int, v = some (vI r3) ∧ Q (some (vI r3)) τ2)) ∧ (¬ 1 ≤ a1 → Q (some (vI 0)) τ))) : M0 E (d + 1) qX10_modulo [vI a0, vI a1] τ Q := M0_of rfl (Nat.le_of_ble_eq_true rfl) [some (vI a0), some (vI a1)] rfl (bX10_modulo_0  h)
set_option maxRecDepth 20000 in
theorem bX10_fault_0 {E : mm_Env} {d : Nat} {τ : mm_Mem} {Q : mm_Q0} {a0 : Int} (h : inR a0 ∧ ((a0 ≠ 0 ∧ a0 ≠ 1 → Q (some (vI (-1))) τ) ∧ (a0 = 0 → Q (some (vI (τ 77 7))) τ) ∧ (a0 = 1 → Q (some (vI (τ 77 8))) τ))) : V0 E d qX10_fault 0 [some (vR 2), some (vI a0)] [] τ Q := by
  refine u_iload_n (i := 1) (pc' := 1) dX10_fault_0 rfl rfl rfl ?_
  obtain ⟨c1, h⟩ := h
  have hc : (a0 ≠ 0 ∧ a0 ≠ 1) ∨ a0 = 0 ∨ a0 = 1 := by omega
  rcases hc with hc | hc | hc
  · have h := h.1 hc
    refine u_lookup (off := 43) (tgt := 44) dX10_fault_1 c1 (by decide) (by simp [Op.lookupswitch.offset_cons, Op.lookupswitch.offset, hc.1, hc.2, Ne.symm hc.1, Ne.symm hc.2]) (by decide) ?_
    refine u_iconst (pc' := 45) dX10_fault_44 rfl ?_
    exact u_iret dX10_fault_45 rfl h
  · have h := h.2.1 hc
    refine u_lookup (off := 27) (tgt := 28) dX10_fault_1 c1 (by decide) (by rw [hc]; rfl) (by decide) ?_
    refine u_aload_n (i := 0) (pc' := 29) dX10_fault_28 rfl rfl rfl ?_
    refine u_getR (a := 77) (pc' := 32) dX10_fault_29 rfl fl_TuneDoor_35 rfl (by decide) kd_2 rfl ?_
    refine u_getI (z := (τ 77 7)) (pc' := 35) dX10_fault_32 rfl fl_TuneDoor_110 rfl (by decide) (by decide) kd_77 rfl (fun r2 => ?_)
    exact u_iret dX10_fault_35 rfl h
  · have h := h.2.2 hc
    refine u_lookup (off := 35) (tgt := 36) dX10_fault_1 c1 (by decide) (by rw [hc]; rfl) (by decide) ?_
    refine u_aload_n (i := 0) (pc' := 37) dX10_fault_36 rfl rfl rfl ?_
    refine u_getR (a := 77) (pc' := 40) dX10_fault_37 rfl fl_TuneDoor_35 rfl (by decide) kd_2 rfl ?_
    refine u_getI (z := (τ 77 8)) (pc' := 43) dX10_fault_40 rfl fl_TuneDoor_113 rfl (by decide) (by decide) kd_77 rfl (fun r3 => ?_)
    exact u_iret dX10_fault_43 rfl h
theorem mX10_fault {E : mm_Env} {d : Nat} {τ : mm_Mem} {Q : mm_Q0} {a0 : Int} (h : inR a0 ∧ ((a0 ≠ 0 ∧ a0 ≠ 1 → Q (some (vI (-1))) τ) ∧ (a0 = 0 → Q (some (vI (τ 77 7))) τ) ∧ (a0 = 1 → Q (some (vI (τ 77 8))) τ))) : M0 E d qX10_fault [vR 2, vI a0] τ Q := M0_of rfl (Nat.le_of_ble_eq_true rfl) [some (vR 2), some (vI a0)] rfl (bX10_fault_0  h)
set_option maxRecDepth 20000 in
theorem bX10_has_0 {E : mm_Env} {d : Nat} {τ : mm_Mem} {Q : mm_Q0} {a0 : Int} (h : inR a0 ∧ ((a0 < 0 ∨ 9 < a0 → Q (some (vI (-1))) τ) ∧ (a0 = 0 → ∃ o2 : Nat, (τ 2 2) = (o2 : Int) ∧ KD o2 = some (.inr 2) ∧ Q (some (vI (τ o2 0))) τ) ∧ (a0 = 1 → ∃ o6 : Nat, (τ 2 2) = (o6 : Int) ∧ KD o6 = some (.inr 2) ∧ Q (some (vI (τ o6 1))) τ) ∧ (a0 = 2 → ∃ o10 : Nat, (τ 2 2) = (o10 : Int) ∧ KD o10 = some (.inr 2) ∧ Q (some (vI (τ o10 2))) τ) ∧ (a0 = 3 → ∃ o14 : Nat, (τ 2 2) = (o14 : Int) ∧ KD o14 = some (.inr 2) ∧ Q (some (vI (τ o14 3))) τ) ∧ (a0 = 4 → ∃ o18 : Nat, (τ 2 2) = (o18 : Int) ∧ KD o18 = some (.inr 2) ∧ Q (some (vI (τ o18 4))) τ) ∧ (a0 = 5 → ∃ o22 : Nat, (τ 2 2) = (o22 : Int) ∧ KD o22 = some (.inr 2) ∧ M0 E d qX5_howMany [vR (o22 + 6), vI 0] τ (fun v τ25 => ∃ r26 : Int, v = some (vI r26) ∧ Q (some (vI r26)) τ25)) ∧ (a0 = 6 → ∃ o27 : Nat, (τ 2 2) = (o27 : Int) ∧ KD o27 = some (.inr 2) ∧ M0 E d qX5_howMany [vR (o27 + 6), vI 1] τ (fun v τ30 => ∃ r31 : Int, v = some (vI r31) ∧ Q (some (vI r31)) τ30)) ∧ (a0 = 7 → ∃ o32 : Nat, (τ 2 2) = (o32 : Int) ∧ KD o32 = some (.inr 2) ∧ M0 E d qX5_howMany [vR (o32 + 6), vI 2] τ (fun v τ35 => ∃ r36 : Int, v = some (vI r36) ∧ Q (some (vI r36)) τ35)) ∧ (a0 = 8 → ∃ o37 : Nat, (τ 2 2) = (o37 : Int) ∧ KD o37 = some (.inr 2) ∧ Q (some (vI (τ o37 5))) τ) ∧ (a0 = 9 → ∃ o41 : Nat, (τ 2 2) = (o41 : Int) ∧ KD o41 = some (.inr 2) ∧ Q (some (vI (τ o41 6))) τ))) : V0 E (d + 1) qX10_has 0 [some (vR 2), some (vI a0)] [] τ Q := by
  refine u_iload_n (i := 1) (pc' := 1) dX10_has_0 rfl rfl rfl ?_
  obtain ⟨c1, h⟩ := h
  refine u_tableswitch (dt := 148) dX10_has_1 c1 (by decide) (fun hb => ?_) (fun hb hb2 => ?_)
  · have h := h.1 hb
    refine u_iconst (pc' := 149) dX10_has_148 rfl ?_
    exact u_iret dX10_has_149 rfl h
  · have hc : a0 = 0 ∨ a0 = 1 ∨ a0 = 2 ∨ a0 = 3 ∨ a0 = 4 ∨ a0 = 5 ∨ a0 = 6 ∨ a0 = 7 ∨ a0 = 8 ∨ a0 = 9 := by omega
    rcases hc with hc | hc | hc | hc | hc | hc | hc | hc | hc | hc
    · have h := h.2.1 hc
      refine ⟨55, 56, by rw [hc]; rfl, by decide, ?_⟩
      refine u_aload_n (i := 0) (pc' := 57) dX10_has_56 rfl rfl rfl ?_
      obtain ⟨o2, z3, k4, h⟩ := h
      refine u_getD (a := o2) (pc' := 60) dX10_has_57 rfl fl_TuneDoor_16 rfl (by decide) kd_2 rfl (z3) ?_
      refine u_getI (z := (τ o2 0)) (pc' := 63) dX10_has_60 rfl fl_TuneDoor_116 rfl (by decide) (kHouse k4).1 k4 rfl (fun r5 => ?_)
      exact u_iret dX10_has_63 rfl h
    · have h := h.2.2.1 hc
      refine ⟨63, 64, by rw [hc]; rfl, by decide, ?_⟩
      refine u_aload_n (i := 0) (pc' := 65) dX10_has_64 rfl rfl rfl ?_
      obtain ⟨o6, z7, k8, h⟩ := h
      refine u_getD (a := o6) (pc' := 68) dX10_has_65 rfl fl_TuneDoor_16 rfl (by decide) kd_2 rfl (z7) ?_
      refine u_getI (z := (τ o6 1)) (pc' := 71) dX10_has_68 rfl fl_TuneDoor_119 rfl (by decide) (kHouse k8).1 k8 rfl (fun r9 => ?_)
      exact u_iret dX10_has_71 rfl h
    · have h := h.2.2.2.1 hc
      refine ⟨71, 72, by rw [hc]; rfl, by decide, ?_⟩
      refine u_aload_n (i := 0) (pc' := 73) dX10_has_72 rfl rfl rfl ?_
      obtain ⟨o10, z11, k12, h⟩ := h
      refine u_getD (a := o10) (pc' := 76) dX10_has_73 rfl fl_TuneDoor_16 rfl (by decide) kd_2 rfl (z11) ?_
      refine u_getI (z := (τ o10 2)) (pc' := 79) dX10_has_76 rfl fl_TuneDoor_122 rfl (by decide) (kHouse k12).1 k12 rfl (fun r13 => ?_)
      exact u_iret dX10_has_79 rfl h
    · have h := h.2.2.2.2.1 hc
      refine ⟨79, 80, by rw [hc]; rfl, by decide, ?_⟩
      refine u_aload_n (i := 0) (pc' := 81) dX10_has_80 rfl rfl rfl ?_
      obtain ⟨o14, z15, k16, h⟩ := h
      refine u_getD (a := o14) (pc' := 84) dX10_has_81 rfl fl_TuneDoor_16 rfl (by decide) kd_2 rfl (z15) ?_
      refine u_getI (z := (τ o14 3)) (pc' := 87) dX10_has_84 rfl fl_TuneDoor_125 rfl (by decide) (kHouse k16).1 k16 rfl (fun r17 => ?_)
      exact u_iret dX10_has_87 rfl h
    · have h := h.2.2.2.2.2.1 hc
      refine ⟨87, 88, by rw [hc]; rfl, by decide, ?_⟩
      refine u_aload_n (i := 0) (pc' := 89) dX10_has_88 rfl rfl rfl ?_
      obtain ⟨o18, z19, k20, h⟩ := h
      refine u_getD (a := o18) (pc' := 92) dX10_has_89 rfl fl_TuneDoor_16 rfl (by decide) kd_2 rfl (z19) ?_
      refine u_getI (z := (τ o18 4)) (pc' := 95) dX10_has_92 rfl fl_TuneDoor_128 rfl (by decide) (kHouse k20).1 k20 rfl (fun r21 => ?_)
      exact u_iret dX10_has_95 rfl h
    · have h := h.2.2.2.2.2.2.1 hc
      refine ⟨95, 96, by rw [hc]; rfl, by decide, ?_⟩
      refine u_aload_n (i := 0) (pc' := 97) dX10_has_96 rfl rfl rfl ?_
      obtain ⟨o22, z23, k24, h⟩ := h
      refine u_getD (a := o22) (pc' := 100) dX10_has_97 rfl fl_TuneDoor_16 rfl (by decide) kd_2 rfl (z23) ?_
      refine u_getR (a := (o22 + 6)) (pc' := 103) dX10_has_100 rfl fl_TuneDoor_131 rfl (kHouse k24).1 k24 (kHouse k24).2.2.2.2.2.2.1 ?_
      refine u_iconst (pc' := 104) dX10_has_103 rfl ?_
      refine u_invV (q' := qX5_howMany) (As := [vI 0]) (st := []) (pc' := 107) dX10_has_104 rfl gX5_howMany wm_824 rfl rfl (Nat.le_trans (kHouse k24).1 (Nat.le_add_right _ _)) (kHouse k24).2.2.2.2.2.2.2.2.2.2.2.2.1 wm_637 wm_638 rfl (Nat.le_of_ble_eq_true rfl) (M0.mono h (fun v τ25 h => ?_))
      obtain ⟨r26, rfl, h⟩ := h
      show V0 E (d + 1) qX10_has 107 [some (vR 2), some (vI a0)] [vI r26] τ25 Q
      exact u_iret dX10_has_107 rfl h
    · have h := h.2.2.2.2.2.2.2.1 hc
      refine ⟨107, 108, by rw [hc]; rfl, by decide, ?_⟩
      refine u_aload_n (i := 0) (pc' := 109) dX10_has_108 rfl rfl rfl ?_
      obtain ⟨o27, z28, k29, h⟩ := h
      refine u_getD (a := o27) (pc' := 112) dX10_has_109 rfl fl_TuneDoor_16 rfl (by decide) kd_2 rfl (z28) ?_
      refine u_getR (a := (o27 + 6)) (pc' := 115) dX10_has_112 rfl fl_TuneDoor_131 rfl (kHouse k29).1 k29 (kHouse k29).2.2.2.2.2.2.1 ?_
      refine u_iconst (pc' := 116) dX10_has_115 rfl ?_
      refine u_invV (q' := qX5_howMany) (As := [vI 1]) (st := []) (pc' := 119) dX10_has_116 rfl gX5_howMany wm_824 rfl rfl (Nat.le_trans (kHouse k29).1 (Nat.le_add_right _ _)) (kHouse k29).2.2.2.2.2.2.2.2.2.2.2.2.1 wm_637 wm_638 rfl (Nat.le_of_ble_eq_true rfl) (M0.mono h (fun v τ30 h => ?_))
      obtain ⟨r31, rfl, h⟩ := h
      show V0 E (d + 1) qX10_has 119 [some (vR 2), some (vI a0)] [vI r31] τ30 Q
      exact u_iret dX10_has_119 rfl h
    · have h := h.2.2.2.2.2.2.2.2.1 hc
      refine ⟨119, 120, by rw [hc]; rfl, by decide, ?_⟩
      refine u_aload_n (i := 0) (pc' := 121) dX10_has_120 rfl rfl rfl ?_
      obtain ⟨o32, z33, k34, h⟩ := h
      refine u_getD (a := o32) (pc' := 124) dX10_has_121 rfl fl_TuneDoor_16 rfl (by decide) kd_2 rfl (z33) ?_
      refine u_getR (a := (o32 + 6)) (pc' := 127) dX10_has_124 rfl fl_TuneDoor_131 rfl (kHouse k34).1 k34 (kHouse k34).2.2.2.2.2.2.1 ?_
      refine u_iconst (pc' := 128) dX10_has_127 rfl ?_
      refine u_invV (q' := qX5_howMany) (As := [vI 2]) (st := []) (pc' := 131) dX10_has_128 rfl gX5_howMany wm_824 rfl rfl (Nat.le_trans (kHouse k34).1 (Nat.le_add_right _ _)) (kHouse k34).2.2.2.2.2.2.2.2.2.2.2.2.1 wm_637 wm_638 rfl (Nat.le_of_ble_eq_true rfl) (M0.mono h (fun v τ35 h => ?_))
      obtain ⟨r36, rfl, h⟩ := h
      show V0 E (d + 1) qX10_has 131 [some (vR 2), some (vI a0)] [vI r36] τ35 Q
      exact u_iret dX10_has_131 rfl h
    · have h := h.2.2.2.2.2.2.2.2.2.1 hc
      refine ⟨131, 132, by rw [hc]; rfl, by decide, ?_⟩
      refine u_aload_n (i := 0) (pc' := 133) dX10_has_132 rfl rfl rfl ?_
      obtain ⟨o37, z38, k39, h⟩ := h
      refine u_getD (a := o37) (pc' := 136) dX10_has_133 rfl fl_TuneDoor_16 rfl (by decide) kd_2 rfl (z38) ?_
      refine u_getI (z := (τ o37 5)) (pc' := 139) dX10_has_136 rfl fl_TuneDoor_141 rfl (by decide) (kHouse k39).1 k39 rfl (fun r40 => ?_)
      exact u_iret dX10_has_139 rfl h
    · have h := h.2.2.2.2.2.2.2.2.2.2 hc
      refine ⟨139, 140, by rw [hc]; rfl, by decide, ?_⟩
      refine u_aload_n (i := 0) (pc' := 141) dX10_has_140 rfl rfl rfl ?_
      obtain ⟨o41, z42, k43, h⟩ := h
      refine u_getD (a := o41) (pc' := 144) dX10_has_141 rfl fl_TuneDoor_16 rfl (by decide) kd_2 rfl (z42) ?_
      refine u_getI (z := (τ o41 6)) (pc' := 147) dX10_has_144 rfl fl_TuneDoor_144 rfl (by decide) (kHouse k43).1 k43 rfl (fun r44 => ?_)
      exact u_iret dX10_has_147 rfl h
theorem mX10_has {E : mm_Env} {d : Nat} {τ : mm_Mem} {Q : mm_Q0} {a0 : Int} (h : inR a0 ∧ ((a0 < 0 ∨ 9 < a0 → Q (some (vI (-1))) τ) ∧ (a0 = 0 → ∃ o2 : Nat, (τ 2 2) = (o2 : Int) ∧ KD o2 = some (.inr 2) ∧ Q (some (vI (τ o2 0))) τ) ∧ (a0 = 1 → ∃ o6 : Nat, (τ 2 2) = (o6 : Int) ∧ KD o6 = some (.inr 2) ∧ Q (some (vI (τ o6 1))) τ) ∧ (a0 = 2 → ∃ o10 : Nat, (τ 2 2) = (o10 : Int) ∧ KD o10 = some (.inr 2) ∧ Q (some (vI (τ o10 2))) τ) ∧ (a0 = 3 → ∃ o14 : Nat, (τ 2 2) = (o14 : Int) ∧ KD o14 = some (.inr 2) ∧ Q (some (vI (τ o14 3))) τ) ∧ (a0 = 4 → ∃ o18 : Nat, (τ 2 2) = (o18 : Int) ∧ KD o18 = some (.inr 2) ∧ Q (some (vI (τ o18 4))) τ) ∧ (a0 = 5 → ∃ o22 : Nat, (τ 2 2) = (o22 : Int) ∧ KD o22 = some (.inr 2) ∧ M0 E d qX5_howMany [vR (o22 + 6), vI 0] τ (fun v τ25 => ∃ r26 : Int, v = some (vI r26) ∧ Q (some (vI r26)) τ25)) ∧ (a0 = 6 → ∃ o27 : Nat, (τ 2 2) = (o27 : Int) ∧ KD o27 = some (.inr 2) ∧ M0 E d qX5_howMany [vR (o27 + 6), vI 1] τ (fun v τ30 => ∃ r31 : Int, v = some (vI r31) ∧ Q (some (vI r31)) τ30)) ∧ (a0 = 7 → ∃ o32 : Nat, (τ 2 2) = (o32 : Int) ∧ KD o32 = some (.inr 2) ∧ M0 E d qX5_howMany [vR (o32 + 6), vI 2] τ (fun v τ35 => ∃ r36 : Int, v = some (vI r36) ∧ Q (some (vI r36)) τ35)) ∧ (a0 = 8 → ∃ o37 : Nat, (τ 2 2) = (o37 : Int) ∧ KD o37 = some (.inr 2) ∧ Q (some (vI (τ o37 5))) τ) ∧ (a0 = 9 → ∃ o41 : Nat, (τ 2 2) = (o41 : Int) ∧ KD o41 = some (.inr 2) ∧ Q (some (vI (τ o41 6))) τ))) : M0 E (d + 1) qX10_has [vR 2, vI a0] τ Q := M0_of rfl (Nat.le_of_ble_eq_true rfl) [some (vR 2), some (vI a0)] rfl (bX10_has_0  h)
set_option maxRecDepth 20000 in
theorem bX10_letter_0 {E : mm_Env} {d : Nat} {τ : mm_Mem} {Q : mm_Q0} {a0 : Int} {a1 : Int} {a2 : Int} (h : M0 E d qX10_nameOf [vR 2, vI a0, vI a1] τ (fun v τ1 => ∃ r2 : Int, v = some (vI r2) ∧ V0 E (d + 1) qX10_letter 11 [none, none, none, some (vI a2), some (vI r2), some (vI 0)] [] τ1 Q)) : V0 E (d + 1) qX10_letter 0 [some (vR 2), some (vI a0), some (vI a1), some (vI a2), none, none] [] τ Q := by
  refine u_aload_n (i := 0) (pc' := 1) dX10_letter_0 rfl rfl rfl ?_
  refine u_iload_n (i := 1) (pc' := 2) dX10_letter_1 rfl rfl rfl ?_
  refine u_iload_n (i := 2) (pc' := 3) dX10_letter_2 rfl rfl rfl ?_
  refine u_invV (q' := qX10_nameOf) (As := [vI a0, vI a1]) (st := []) (pc' := 6) dX10_letter_3 rfl gX10_nameOf wm_829 rfl rfl (by decide) kd_2 wm_831 wp_42 rfl (Nat.le_of_ble_eq_true rfl) (M0.mono h (fun v τ1 h => ?_))
  obtain ⟨r2, rfl, h⟩ := h
  show V0 E (d + 1) qX10_letter 6 [some (vR 2), some (vI a0), some (vI a1), some (vI a2), none, none] [vI r2] τ1 Q
  refine s_istore (i := 4) (ls' := [some (vR 2), some (vI a0), some (vI a1), some (vI a2), some (vI r2), none]) (pc' := 8) dX10_letter_6 rfl (Nat.le_of_ble_eq_true rfl) rfl rfl ?_
  refine u_iconst (pc' := 9) dX10_letter_8 rfl ?_
  refine s_istore (i := 5) (ls' := [some (vR 2), some (vI a0), some (vI a1), some (vI a2), some (vI r2), some (vI 0)]) (pc' := 11) dX10_letter_9 rfl (Nat.le_of_ble_eq_true rfl) rfl rfl ?_
  exact u_less (ls' := [none, none, none, some (vI a2), some (vI r2), some (vI 0)]) ⟨rfl, ⟨rfl, ⟨rfl, trivial⟩⟩⟩ h
theorem mX10_letter {E : mm_Env} {d : Nat} {τ : mm_Mem} {Q : mm_Q0} {a0 : Int} {a1 : Int} {a2 : Int} (h : M0 E d qX10_nameOf [vR 2, vI a0, vI a1] τ (fun v τ1 => ∃ r2 : Int, v = some (vI r2) ∧ V0 E (d + 1) qX10_letter 11 [none, none, none, some (vI a2), some (vI r2), some (vI 0)] [] τ1 Q)) : M0 E (d + 1) qX10_letter [vR 2, vI a0, vI a1, vI a2] τ Q := M0_of rfl (Nat.le_of_ble_eq_true rfl) [some (vR 2), some (vI a0), some (vI a1), some (vI a2), none, none] rfl (bX10_letter_0  h)
set_option maxRecDepth 20000 in
theorem bX10_letter_11 {E : mm_Env} {d : Nat} {τ : mm_Mem} {Q : mm_Q0} {x3 : Int} {x4 : Int} {x5 : Int} (h : inR x5 ∧ ((6 ≤ x5 → inR x3 ∧ ((x3 < 0 → Q (some (vI (-1))) τ) ∧ (¬ x3 < 0 → ((x3 < x5 → Q (some (vI (96 + (mm_and (mm_shr x4 (5 * ((x5 - 1) - x3))) 31)))) τ) ∧ (¬ x3 < x5 → Q (some (vI (-1))) τ))))) ∧ (¬ 6 ≤ x5 → inR (mm_shr x4 (5 * x5)) ∧ (((mm_shr x4 (5 * x5)) ≤ 0 → inR x3 ∧ ((x3 < 0 → Q (some (vI (-1))) τ) ∧ (¬ x3 < 0 → ((x3 < x5 → Q (some (vI (96 + (mm_and (mm_shr x4 (5 * ((x5 - 1) - x3))) 31)))) τ) ∧ (¬ x3 < x5 → Q (some (vI (-1))) τ))))) ∧ (¬ (mm_shr x4 (5 * x5)) ≤ 0 → V0 E (d + 1) qX10_letter 11 [none, none, none, some (vI x3), some (vI x4), some (vI (x5 + 1))] [] τ Q))))) : V0 E (d + 1) qX10_letter 11 [none, none, none, some (vI x3), some (vI x4), some (vI x5)] [] τ Q := by
  refine u_iload (i := 5) (pc' := 13) dX10_letter_11 rfl rfl ?_
  refine u_bipush (pc' := 15) dX10_letter_13 rfl (by decide) ?_
  obtain ⟨c1, h⟩ := h
  refine u_icmp_ge (tgt := 34) (pc' := 18) dX10_letter_15 rfl (by decide) c1 ⟨by decide, by decide⟩ (fun hb => ?_) (fun hb => ?_)
  · have h := h.1 hb
    refine u_iload_n (i := 3) (pc' := 35) dX10_letter_34 rfl rfl rfl ?_
    obtain ⟨c2, h⟩ := h
    refine u_if_lt (tgt := 44) (pc' := 38) dX10_letter_35 rfl (by decide) c2 (fun hb => ?_) (fun hb => ?_)
    · have h := h.1 hb
      refine u_iconst (pc' := 45) dX10_letter_44 rfl ?_
      exact u_iret dX10_letter_45 rfl h
    · have h := h.2 hb
      refine u_iload_n (i := 3) (pc' := 39) dX10_letter_38 rfl rfl rfl ?_
      refine u_iload (i := 5) (pc' := 41) dX10_letter_39 rfl rfl ?_
      refine u_icmp_lt (tgt := 46) (pc' := 44) dX10_letter_41 rfl (by decide) c2 c1 (fun hb => ?_) (fun hb => ?_)
      · have h := h.1 hb
        refine u_bipush (pc' := 48) dX10_letter_46 rfl (by decide) ?_
        refine u_iload (i := 4) (pc' := 50) dX10_letter_48 rfl rfl ?_
        refine u_iconst (pc' := 51) dX10_letter_50 rfl ?_
        refine u_iload (i := 5) (pc' := 53) dX10_letter_51 rfl rfl ?_
        refine u_iconst (pc' := 54) dX10_letter_53 rfl ?_
        refine u_isub (pc' := 55) dX10_letter_54 rfl ?_
        refine u_iload_n (i := 3) (pc' := 56) dX10_letter_55 rfl rfl rfl ?_
        refine u_isub (pc' := 57) dX10_letter_56 rfl ?_
        refine u_imul (pc' := 58) dX10_letter_57 rfl ?_
        refine u_ishr (pc' := 59) dX10_letter_58 rfl ?_
        refine u_bipush (pc' := 61) dX10_letter_59 rfl (by decide) ?_
        refine u_iand (pc' := 62) dX10_letter_61 rfl ?_
        refine u_iadd (pc' := 63) dX10_letter_62 rfl ?_
        exact u_iret dX10_letter_63 rfl h
      · have h := h.2 hb
        refine u_iconst (pc' := 45) dX10_letter_44 rfl ?_
        exact u_iret dX10_letter_45 rfl h
  · have h := h.2 hb
    refine u_iload (i := 4) (pc' := 20) dX10_letter_18 rfl rfl ?_
    refine u_iconst (pc' := 21) dX10_letter_20 rfl ?_
    refine u_iload (i := 5) (pc' := 23) dX10_letter_21 rfl rfl ?_
    refine u_imul (pc' := 24) dX10_letter_23 rfl ?_
    refine u_ishr (pc' := 25) dX10_letter_24 rfl ?_
    obtain ⟨c3, h⟩ := h
    refine u_if_le (tgt := 34) (pc' := 28) dX10_letter_25 rfl (by decide) c3 (fun hb => ?_) (fun hb => ?_)
    · have h := h.1 hb
      refine u_iload_n (i := 3) (pc' := 35) dX10_letter_34 rfl rfl rfl ?_
      obtain ⟨c4, h⟩ := h
      refine u_if_lt (tgt := 44) (pc' := 38) dX10_letter_35 rfl (by decide) c4 (fun hb => ?_) (fun hb => ?_)
      · have h := h.1 hb
        refine u_iconst (pc' := 45) dX10_letter_44 rfl ?_
        exact u_iret dX10_letter_45 rfl h
      · have h := h.2 hb
        refine u_iload_n (i := 3) (pc' := 39) dX10_letter_38 rfl rfl rfl ?_
        refine u_iload (i := 5) (pc' := 41) dX10_letter_39 rfl rfl ?_
        refine u_icmp_lt (tgt := 46) (pc' := 44) dX10_letter_41 rfl (by decide) c4 c1 (fun hb => ?_) (fun hb => ?_)
        · have h := h.1 hb
          refine u_bipush (pc' := 48) dX10_letter_46 rfl (by decide) ?_
          refine u_iload (i := 4) (pc' := 50) dX10_letter_48 rfl rfl ?_
          refine u_iconst (pc' := 51) dX10_letter_50 rfl ?_
          refine u_iload (i := 5) (pc' := 53) dX10_letter_51 rfl rfl ?_
          refine u_iconst (pc' := 54) dX10_letter_53 rfl ?_
          refine u_isub (pc' := 55) dX10_letter_54 rfl ?_
          refine u_iload_n (i := 3) (pc' := 56) dX10_letter_55 rfl rfl rfl ?_
          refine u_isub (pc' := 57) dX10_letter_56 rfl ?_
          refine u_imul (pc' := 58) dX10_letter_57 rfl ?_
          refine u_ishr (pc' := 59) dX10_letter_58 rfl ?_
          refine u_bipush (pc' := 61) dX10_letter_59 rfl (by decide) ?_
          refine u_iand (pc' := 62) dX10_letter_61 rfl ?_
          refine u_iadd (pc' := 63) dX10_letter_62 rfl ?_
          exact u_iret dX10_letter_63 rfl h
        · have h := h.2 hb
          refine u_iconst (pc' := 45) dX10_letter_44 rfl ?_
          exact u_iret dX10_letter_45 rfl h
    · have h := h.2 hb
      refine s_iinc (i := 5) (ls' := [none, none, none, some (vI x3), some (vI x4), some (vI (x5 + 1))]) (pc' := 31) dX10_letter_28 rfl rfl (Nat.le_of_ble_eq_true rfl) rfl rfl ?_
      refine u_goto (tgt := 11) dX10_letter_31 (by decide) ?_
      exact u_less (ls' := [none, none, none, some (vI x3), some (vI x4), some (vI (x5 + 1))]) ⟨rfl, ⟨rfl, ⟨rfl, trivial⟩⟩⟩ h
set_option maxRecDepth 20000 in
theorem bX10_nameOf_0 {E : mm_Env} {d : Nat} {τ : mm_Mem} {Q : mm_Q0} {a0 : Int} {a1 : Int} (h : M0 E d qX10_doorAt [vR 2, vI a1] τ (fun v τ1 => ∃ o2 : Nat, v = some (vR o2) ∧ M0 E d qX10_personAt [vR 2, vI a1] τ1 (fun v τ3 => ∃ o4 : Nat, v = some (vR o4) ∧ inR a0 ∧ ((a0 ≠ 0 → V0 E (d + 1) qX10_nameOf 35 [none, some (vI a0), none, some (vR o2), some (vR o4)] [] τ3 Q) ∧ (a0 = 0 → M0 E d qX10_isTune [vR 2, vI a1] τ3 (fun v τ6 => ∃ b7 : Bool, v = some (vB b7) ∧ ((b7 = false → V0 E (d + 1) qX10_nameOf 35 [none, some (vI a0), none, some (vR o2), some (vR o4)] [] τ6 Q) ∧ (b7 = true → ∃ o8 : Nat, (τ6 2 2) = (o8 : Int) ∧ KD o8 = some (.inr 2) ∧ 0 ≤ a1 ∧ a1 < 3 ∧ Q (some (vI (τ6 (o8 + 1) a1.toNat))) τ6)))))))) : V0 E (d + 1) qX10_nameOf 0 [some (vR 2), some (vI a0), some (vI a1), none, none] [] τ Q := by
  refine u_aload_n (i := 0) (pc' := 1) dX10_nameOf_0 rfl rfl rfl ?_
  refine u_iload_n (i := 2) (pc' := 2) dX10_nameOf_1 rfl rfl rfl ?_
  refine u_invV (q' := qX10_doorAt) (As := [vI a1]) (st := []) (pc' := 5) dX10_nameOf_2 rfl gX10_doorAt wm_833 rfl rfl (by decide) kd_2 wm_835 wp_43 rfl (Nat.le_of_ble_eq_true rfl) (M0.mono h (fun v τ1 h => ?_))
  obtain ⟨o2, rfl, h⟩ := h
  show V0 E (d + 1) qX10_nameOf 5 [some (vR 2), some (vI a0), some (vI a1), none, none] [vR o2] τ1 Q
  refine s_astore_n (i := 3) (ls' := [some (vR 2), some (vI a0), some (vI a1), some (vR o2), none]) (pc' := 6) dX10_nameOf_5 rfl rfl (Nat.le_of_ble_eq_true rfl) rfl rfl ?_
  refine u_aload_n (i := 0) (pc' := 7) dX10_nameOf_6 rfl rfl rfl ?_
  refine u_iload_n (i := 2) (pc' := 8) dX10_nameOf_7 rfl rfl rfl ?_
  refine u_invV (q' := qX10_personAt) (As := [vI a1]) (st := []) (pc' := 11) dX10_nameOf_8 rfl gX10_personAt wm_837 rfl rfl (by decide) kd_2 wm_839 wp_44 rfl (Nat.le_of_ble_eq_true rfl) (M0.mono h (fun v τ3 h => ?_))
  obtain ⟨o4, rfl, h⟩ := h
  show V0 E (d + 1) qX10_nameOf 11 [some (vR 2), some (vI a0), some (vI a1), some (vR o2), none] [vR o4] τ3 Q
  refine s_astore (i := 4) (ls' := [some (vR 2), some (vI a0), some (vI a1), some (vR o2), some (vR o4)]) (pc' := 13) dX10_nameOf_11 rfl (Nat.le_of_ble_eq_true rfl) rfl rfl ?_
  refine u_iload_n (i := 1) (pc' := 14) dX10_nameOf_13 rfl rfl rfl ?_
  obtain ⟨c5, h⟩ := h
  refine u_if_ne (tgt := 35) (pc' := 17) dX10_nameOf_14 rfl (by decide) c5 (fun hb => ?_) (fun hb => ?_)
  · have h := h.1 hb
    exact u_less (ls' := [none, some (vI a0), none, some (vR o2), some (vR o4)]) ⟨rfl, ⟨rfl, ⟨rfl, trivial⟩⟩⟩ h
  · have h := h.2 hb
    refine u_aload_n (i := 0) (pc' := 18) dX10_nameOf_17 rfl rfl rfl ?_
    refine u_iload_n (i := 2) (pc' := 19) dX10_nameOf_18 rfl rfl rfl ?_
    refine u_invV (q' := qX10_isTune) (As := [vI a1]) (st := []) (pc' := 22) dX10_nameOf_19 rfl gX10_isTune wm_841 rfl rfl (by decide) kd_2 wm_843 wp_45 rfl (Nat.le_of_ble_eq_true rfl) (M0.mono h (fun v τ6 h => ?_))
    obtain ⟨b7, rfl, h⟩ := h
    show V0 E (d + 1) qX10_nameOf 22 [some (vR 2), some (vI a0), some (vI a1), some (vR o2), some (vR o4)] [vB b7] τ6 Q
    refine u_if_eq (tgt := 35) (pc' := 25) dX10_nameOf_22 rfl (by decide) (bI_R _) (fun hb => ?_) (fun hb => ?_)
    · have h := h.1 (bI_0.mp hb)
      exact u_less (ls' := [none, some (vI a0), none, some (vR o2), some (vR o4)]) ⟨rfl, ⟨rfl, ⟨rfl, trivial⟩⟩⟩ h
    · have h := h.2 (bI_n0.mp hb)
      refine u_aload_n (i := 0) (pc' := 26) dX10_nameOf_25 rfl rfl rfl ?_
      obtain ⟨o8, z9, k10, h⟩ := h
      refine u_getD (a := o8) (pc' := 29) dX10_nameOf_26 rfl fl_TuneDoor_16 rfl (by decide) kd_2 rfl (z9) ?_
      refine u_getR (a := (o8 + 1)) (pc' := 32) dX10_nameOf_29 rfl fl_TuneDoor_163 rfl (kHouse k10).1 k10 (kHouse k10).2.1 ?_
      refine u_iload_n (i := 2) (pc' := 33) dX10_nameOf_32 rfl rfl rfl ?_
      obtain ⟨c11, c12, h⟩ := h
      refine u_iaload (k := a1.toNat) (z := (τ6 (o8 + 1) a1.toNat)) (pc' := 34) dX10_nameOf_33 rfl (Nat.le_trans (kHouse k10).1 (Nat.le_add_right _ _)) (kHouse k10).2.2.2.2.2.2.2.1 c11 c12 (by decide) rfl rfl (fun r13 => ?_)
      exact u_iret dX10_nameOf_34 rfl h
theorem mX10_nameOf {E : mm_Env} {d : Nat} {τ : mm_Mem} {Q : mm_Q0} {a0 : Int} {a1 : Int} (h : M0 E d qX10_doorAt [vR 2, vI a1] τ (fun v τ1 => ∃ o2 : Nat, v = some (vR o2) ∧ M0 E d qX10_personAt [vR 2, vI a1] τ1 (fun v τ3 => ∃ o4 : Nat, v = some (vR o4) ∧ inR a0 ∧ ((a0 ≠ 0 → V0 E (d + 1) qX10_nameOf 35 [none, some (vI a0), none, some (vR o2), some (vR o4)] [] τ3 Q) ∧ (a0 = 0 → M0 E d qX10_isTune [vR 2, vI a1] τ3 (fun v τ6 => ∃ b7 : Bool, v = some (vB b7) ∧ ((b7 = false → V0 E (d + 1) qX10_nameOf 35 [none, some (vI a0), none, some (vR o2), some (vR o4)] [] τ6 Q) ∧ (b7 = true → ∃ o8 : Nat, (τ6 2 2) = (o8 : Int) ∧ KD o8 = some (.inr 2) ∧ 0 ≤ a1 ∧ a1 < 3 ∧ Q (some (vI (τ6 (o8 + 1) a1.toNat))) τ6)))))))) : M0 E (d + 1) qX10_nameOf [vR 2, vI a0, vI a1] τ Q := M0_of rfl (Nat.le_of_ble_eq_true rfl) [some (vR 2), some (vI a0), some (vI a1), none, none] rfl (bX10_nameOf_0  h)
set_option maxRecDepth 20000 in
theorem bX10_nameOf_35 {E : mm_Env} {d : Nat} {τ : mm_Mem} {Q : mm_Q0} {x1 : Int} {x3 : Nat} {x4 : Nat} (h : inR x1 ∧ ((x1 ≠ 1 → ((x1 ≠ 2 → Q (some (vI 0)) τ) ∧ (x1 = 2 → ((x4 = 0 → Q (some (vI 0)) τ) ∧ (¬ x4 = 0 → KD x4 = some (.inr 3) ∧ Q (some (vI (τ x4 0))) τ))))) ∧ (x1 = 1 → ((x3 = 0 → ((x1 ≠ 2 → Q (some (vI 0)) τ) ∧ (x1 = 2 → ((x4 = 0 → Q (some (vI 0)) τ) ∧ (¬ x4 = 0 → KD x4 = some (.inr 3) ∧ Q (some (vI (τ x4 0))) τ))))) ∧ (¬ x3 = 0 → KD x3 = some (.inr 0) ∧ Q (some (vI (τ x3 0))) τ))))) : V0 E (d + 1) qX10_nameOf 35 [none, some (vI x1), none, some (vR x3), some (vR x4)] [] τ Q := by
  refine u_iload_n (i := 1) (pc' := 36) dX10_nameOf_35 rfl rfl rfl ?_
  refine u_iconst (pc' := 37) dX10_nameOf_36 rfl ?_
  obtain ⟨c1, h⟩ := h
  refine u_icmp_ne (tgt := 49) (pc' := 40) dX10_nameOf_37 rfl (by decide) c1 ⟨by decide, by decide⟩ (fun hb => ?_) (fun hb => ?_)
  · have h := h.1 hb
    refine u_iload_n (i := 1) (pc' := 50) dX10_nameOf_49 rfl rfl rfl ?_
    refine u_iconst (pc' := 51) dX10_nameOf_50 rfl ?_
    refine u_icmp_ne (tgt := 67) (pc' := 54) dX10_nameOf_51 rfl (by decide) c1 ⟨by decide, by decide⟩ (fun hb => ?_) (fun hb => ?_)
    · have h := h.1 hb
      refine u_iconst (pc' := 68) dX10_nameOf_67 rfl ?_
      exact u_iret dX10_nameOf_68 rfl h
    · have h := h.2 hb
      refine u_aload (i := 4) (pc' := 56) dX10_nameOf_54 rfl rfl ?_
      refine u_ifnull (tgt := 67) (pc' := 59) dX10_nameOf_56 rfl (by decide) (fun hb => ?_) (fun hb => ?_)
      · have h := h.1 hb
        refine u_iconst (pc' := 68) dX10_nameOf_67 rfl ?_
        exact u_iret dX10_nameOf_68 rfl h
      · have h := h.2 hb
        refine u_aload (i := 4) (pc' := 61) dX10_nameOf_59 rfl rfl ?_
        obtain ⟨k2, h⟩ := h
        refine u_getI (z := (τ x4 0)) (pc' := 64) dX10_nameOf_61 rfl fl_TuneDoor_169 rfl (by decide) (kPerson k2) k2 rfl (fun r3 => ?_)
        refine u_goto (tgt := 68) dX10_nameOf_64 (by decide) ?_
        exact u_iret dX10_nameOf_68 rfl h
  · have h := h.2 hb
    refine u_aload_n (i := 3) (pc' := 41) dX10_nameOf_40 rfl rfl rfl ?_
    refine u_ifnull (tgt := 49) (pc' := 44) dX10_nameOf_41 rfl (by decide) (fun hb => ?_) (fun hb => ?_)
    · have h := h.1 hb
      refine u_iload_n (i := 1) (pc' := 50) dX10_nameOf_49 rfl rfl rfl ?_
      refine u_iconst (pc' := 51) dX10_nameOf_50 rfl ?_
      refine u_icmp_ne (tgt := 67) (pc' := 54) dX10_nameOf_51 rfl (by decide) c1 ⟨by decide, by decide⟩ (fun hb => ?_) (fun hb => ?_)
      · have h := h.1 hb
        refine u_iconst (pc' := 68) dX10_nameOf_67 rfl ?_
        exact u_iret dX10_nameOf_68 rfl h
      · have h := h.2 hb
        refine u_aload (i := 4) (pc' := 56) dX10_nameOf_54 rfl rfl ?_
        refine u_ifnull (tgt := 67) (pc' := 59) dX10_nameOf_56 rfl (by decide) (fun hb => ?_) (fun hb => ?_)
        · have h := h.1 hb
          refine u_iconst (pc' := 68) dX10_nameOf_67 rfl ?_
          exact u_iret dX10_nameOf_68 rfl h
        · have h := h.2 hb
          refine u_aload (i := 4) (pc' := 61) dX10_nameOf_59 rfl rfl ?_
          obtain ⟨k4, h⟩ := h
          refine u_getI (z := (τ x4 0)) (pc' := 64) dX10_nameOf_61 rfl fl_TuneDoor_169 rfl (by decide) (kPerson k4) k4 rfl (fun r5 => ?_)
          refine u_goto (tgt := 68) dX10_nameOf_64 (by decide) ?_
          exact u_iret dX10_nameOf_68 rfl h
    · have h := h.2 hb
      refine u_aload_n (i := 3) (pc' := 45) dX10_nameOf_44 rfl rfl rfl ?_
      obtain ⟨k6, h⟩ := h
      refine u_getI (z := (τ x3 0)) (pc' := 48) dX10_nameOf_45 rfl fl_TuneDoor_166 rfl (by decide) (kDoor k6).1 k6 rfl (fun r7 => ?_)
      exact u_iret dX10_nameOf_48 rfl h
set_option maxRecDepth 20000 in
theorem bX10_doorAt_0 {E : mm_Env} {d : Nat} {τ : mm_Mem} {Q : mm_Q0} {a0 : Int} (h : inR a0 ∧ ((a0 < 0 → Q (some (vR 0)) τ) ∧ (¬ a0 < 0 → ∃ o2 : Nat, (τ 2 2) = (o2 : Int) ∧ KD o2 = some (.inr 2) ∧ (((τ o2 3) ≤ a0 → Q (some (vR 0)) τ) ∧ (¬ (τ o2 3) ≤ a0 → ((4 ≤ a0 → Q (some (vR 0)) τ) ∧ (¬ 4 ≤ a0 → ∃ o6 : Nat, (τ 2 2) = (o6 : Int) ∧ KD o6 = some (.inr 2) ∧ 0 ≤ a0 ∧ a0 < 4 ∧ Q (some (vR (o6 + 14 + 4 * a0.toNat))) τ))))))) : V0 E d qX10_doorAt 0 [some (vR 2), some (vI a0)] [] τ Q := by
  refine u_iload_n (i := 1) (pc' := 1) dX10_doorAt_0 rfl rfl rfl ?_
  obtain ⟨c1, h⟩ := h
  refine u_if_lt (tgt := 32) (pc' := 4) dX10_doorAt_1 rfl (by decide) c1 (fun hb => ?_) (fun hb => ?_)
  · have h := h.1 hb
    refine u_null (pc' := 33) dX10_doorAt_32 rfl ?_
    exact u_aret dX10_doorAt_33 rfl h
  · have h := h.2 hb
    refine u_iload_n (i := 1) (pc' := 5) dX10_doorAt_4 rfl rfl rfl ?_
    refine u_aload_n (i := 0) (pc' := 6) dX10_doorAt_5 rfl rfl rfl ?_
    obtain ⟨o2, z3, k4, h⟩ := h
    refine u_getD (a := o2) (pc' := 9) dX10_doorAt_6 rfl fl_TuneDoor_16 rfl (by decide) kd_2 rfl (z3) ?_
    refine u_getI (z := (τ o2 3)) (pc' := 12) dX10_doorAt_9 rfl fl_TuneDoor_125 rfl (by decide) (kHouse k4).1 k4 rfl (fun r5 => ?_)
    refine u_icmp_ge (tgt := 32) (pc' := 15) dX10_doorAt_12 rfl (by decide) c1 r5 (fun hb => ?_) (fun hb => ?_)
    · have h := h.1 hb
      refine u_null (pc' := 33) dX10_doorAt_32 rfl ?_
      exact u_aret dX10_doorAt_33 rfl h
    · have h := h.2 hb
      refine u_iload_n (i := 1) (pc' := 16) dX10_doorAt_15 rfl rfl rfl ?_
      refine u_iconst (pc' := 17) dX10_doorAt_16 rfl ?_
      refine u_icmp_ge (tgt := 32) (pc' := 20) dX10_doorAt_17 rfl (by decide) c1 ⟨by decide, by decide⟩ (fun hb => ?_) (fun hb => ?_)
      · have h := h.1 hb
        refine u_null (pc' := 33) dX10_doorAt_32 rfl ?_
        exact u_aret dX10_doorAt_33 rfl h
      · have h := h.2 hb
        refine u_aload_n (i := 0) (pc' := 21) dX10_doorAt_20 rfl rfl rfl ?_
        obtain ⟨o6, z7, k8, h⟩ := h
        refine u_getD (a := o6) (pc' := 24) dX10_doorAt_21 rfl fl_TuneDoor_16 rfl (by decide) kd_2 rfl (z7) ?_
        refine u_getR (a := (o6 + 4)) (pc' := 27) dX10_doorAt_24 rfl fl_TuneDoor_172 rfl (kHouse k8).1 k8 (kHouse k8).2.2.2.2.1 ?_
        refine u_iload_n (i := 1) (pc' := 28) dX10_doorAt_27 rfl rfl rfl ?_
        obtain ⟨c9, c10, h⟩ := h
        have j11 : a0.toNat < 4 := by omega
        refine u_aaload_D (k := a0.toNat) (a := (o6 + 14 + 4 * a0.toNat)) (pc' := 29) dX10_doorAt_28 rfl (Nat.le_trans (kHouse k8).1 (Nat.le_add_right _ _)) (kHouse k8).2.2.2.2.2.2.2.2.2.2.1 c9 c10 (by decide) rfl (kHouseD k8 j11).1 ?_
        refine u_goto (tgt := 33) dX10_doorAt_29 (by decide) ?_
        exact u_aret dX10_doorAt_33 rfl h
theorem mX10_doorAt {E : mm_Env} {d : Nat} {τ : mm_Mem} {Q : mm_Q0} {a0 : Int} (h : inR a0 ∧ ((a0 < 0 → Q (some (vR 0)) τ) ∧ (¬ a0 < 0 → ∃ o2 : Nat, (τ 2 2) = (o2 : Int) ∧ KD o2 = some (.inr 2) ∧ (((τ o2 3) ≤ a0 → Q (some (vR 0)) τ) ∧ (¬ (τ o2 3) ≤ a0 → ((4 ≤ a0 → Q (some (vR 0)) τ) ∧ (¬ 4 ≤ a0 → ∃ o6 : Nat, (τ 2 2) = (o6 : Int) ∧ KD o6 = some (.inr 2) ∧ 0 ≤ a0 ∧ a0 < 4 ∧ Q (some (vR (o6 + 14 + 4 * a0.toNat))) τ))))))) : M0 E d qX10_doorAt [vR 2, vI a0] τ Q := M0_of rfl (Nat.le_of_ble_eq_true rfl) [some (vR 2), some (vI a0)] rfl (bX10_doorAt_0  h)
set_option maxRecDepth 20000 in
theorem bX10_personAt_0 {E : mm_Env} {d : Nat} {τ : mm_Mem} {Q : mm_Q0} {a0 : Int} (h : inR a0 ∧ ((a0 < 0 → Q (some (vR 0)) τ) ∧ (¬ a0 < 0 → ∃ o2 : Nat, (τ 2 2) = (o2 : Int) ∧ KD o2 = some (.inr 2) ∧ (((τ o2 4) ≤ a0 → Q (some (vR 0)) τ) ∧ (¬ (τ o2 4) ≤ a0 → ((4 ≤ a0 → Q (some (vR 0)) τ) ∧ (¬ 4 ≤ a0 → ∃ o6 : Nat, (τ 2 2) = (o6 : Int) ∧ KD o6 = some (.inr 2) ∧ 0 ≤ a0 ∧ a0 < 4 ∧ Q (some (vR (o6 + 30 + a0.toNat))) τ))))))) : V0 E d qX10_personAt 0 [some (vR 2), some (vI a0)] [] τ Q := by
  refine u_iload_n (i := 1) (pc' := 1) dX10_personAt_0 rfl rfl rfl ?_
  obtain ⟨c1, h⟩ := h
  refine u_if_lt (tgt := 32) (pc' := 4) dX10_personAt_1 rfl (by decide) c1 (fun hb => ?_) (fun hb => ?_)
  · have h := h.1 hb
    refine u_null (pc' := 33) dX10_personAt_32 rfl ?_
    exact u_aret dX10_personAt_33 rfl h
  · have h := h.2 hb
    refine u_iload_n (i := 1) (pc' := 5) dX10_personAt_4 rfl rfl rfl ?_
    refine u_aload_n (i := 0) (pc' := 6) dX10_personAt_5 rfl rfl rfl ?_
    obtain ⟨o2, z3, k4, h⟩ := h
    refine u_getD (a := o2) (pc' := 9) dX10_personAt_6 rfl fl_TuneDoor_16 rfl (by decide) kd_2 rfl (z3) ?_
    refine u_getI (z := (τ o2 4)) (pc' := 12) dX10_personAt_9 rfl fl_TuneDoor_128 rfl (by decide) (kHouse k4).1 k4 rfl (fun r5 => ?_)
    refine u_icmp_ge (tgt := 32) (pc' := 15) dX10_personAt_12 rfl (by decide) c1 r5 (fun hb => ?_) (fun hb => ?_)
    · have h := h.1 hb
      refine u_null (pc' := 33) dX10_personAt_32 rfl ?_
      exact u_aret dX10_personAt_33 rfl h
    · have h := h.2 hb
      refine u_iload_n (i := 1) (pc' := 16) dX10_personAt_15 rfl rfl rfl ?_
      refine u_iconst (pc' := 17) dX10_personAt_16 rfl ?_
      refine u_icmp_ge (tgt := 32) (pc' := 20) dX10_personAt_17 rfl (by decide) c1 ⟨by decide, by decide⟩ (fun hb => ?_) (fun hb => ?_)
      · have h := h.1 hb
        refine u_null (pc' := 33) dX10_personAt_32 rfl ?_
        exact u_aret dX10_personAt_33 rfl h
      · have h := h.2 hb
        refine u_aload_n (i := 0) (pc' := 21) dX10_personAt_20 rfl rfl rfl ?_
        obtain ⟨o6, z7, k8, h⟩ := h
        refine u_getD (a := o6) (pc' := 24) dX10_personAt_21 rfl fl_TuneDoor_16 rfl (by decide) kd_2 rfl (z7) ?_
        refine u_getR (a := (o6 + 5)) (pc' := 27) dX10_personAt_24 rfl fl_TuneDoor_176 rfl (kHouse k8).1 k8 (kHouse k8).2.2.2.2.2.1 ?_
        refine u_iload_n (i := 1) (pc' := 28) dX10_personAt_27 rfl rfl rfl ?_
        obtain ⟨c9, c10, h⟩ := h
        have j11 : a0.toNat < 4 := by omega
        refine u_aaload_P (k := a0.toNat) (a := (o6 + 30 + a0.toNat)) (pc' := 29) dX10_personAt_28 rfl (Nat.le_trans (kHouse k8).1 (Nat.le_add_right _ _)) (kHouse k8).2.2.2.2.2.2.2.2.2.2.2.1 c9 c10 (by decide) rfl (kHouseP k8 j11).1 ?_
        refine u_goto (tgt := 33) dX10_personAt_29 (by decide) ?_
        exact u_aret dX10_personAt_33 rfl h
theorem mX10_personAt {E : mm_Env} {d : Nat} {τ : mm_Mem} {Q : mm_Q0} {a0 : Int} (h : inR a0 ∧ ((a0 < 0 → Q (some (vR 0)) τ) ∧ (¬ a0 < 0 → ∃ o2 : Nat, (τ 2 2) = (o2 : Int) ∧ KD o2 = some (.inr 2) ∧ (((τ o2 4) ≤ a0 → Q (some (vR 0)) τ) ∧ (¬ (τ o2 4) ≤ a0 → ((4 ≤ a0 → Q (some (vR 0)) τ) ∧ (¬ 4 ≤ a0 → ∃ o6 : Nat, (τ 2 2) = (o6 : Int) ∧ KD o6 = some (.inr 2) ∧ 0 ≤ a0 ∧ a0 < 4 ∧ Q (some (vR (o6 + 30 + a0.toNat))) τ))))))) : M0 E d qX10_personAt [vR 2, vI a0] τ Q := M0_of rfl (Nat.le_of_ble_eq_true rfl) [some (vR 2), some (vI a0)] rfl (bX10_personAt_0  h)
set_option maxRecDepth 20000 in
theorem bX10_isTune_0 {E : mm_Env} {d : Nat} {τ : mm_Mem} {Q : mm_Q0} {a0 : Int} (h : inR a0 ∧ ((a0 < 0 → Q (some (vB false)) τ) ∧ (¬ a0 < 0 → ∃ o2 : Nat, (τ 2 2) = (o2 : Int) ∧ KD o2 = some (.inr 2) ∧ (((τ o2 2) ≤ a0 → Q (some (vB false)) τ) ∧ (¬ (τ o2 2) ≤ a0 → ((3 ≤ a0 → Q (some (vB false)) τ) ∧ (¬ 3 ≤ a0 → Q (some (vB true)) τ))))))) : V0 E d qX10_isTune 0 [some (vR 2), some (vI a0)] [] τ Q := by
  refine u_iload_n (i := 1) (pc' := 1) dX10_isTune_0 rfl rfl rfl ?_
  obtain ⟨c1, h⟩ := h
  refine u_if_lt (tgt := 24) (pc' := 4) dX10_isTune_1 rfl (by decide) c1 (fun hb => ?_) (fun hb => ?_)
  · have h := h.1 hb
    refine u_iconst (pc' := 25) dX10_isTune_24 rfl ?_
    exact u_zret (b := false) dX10_isTune_25 rfl rfl h
  · have h := h.2 hb
    refine u_iload_n (i := 1) (pc' := 5) dX10_isTune_4 rfl rfl rfl ?_
    refine u_aload_n (i := 0) (pc' := 6) dX10_isTune_5 rfl rfl rfl ?_
    obtain ⟨o2, z3, k4, h⟩ := h
    refine u_getD (a := o2) (pc' := 9) dX10_isTune_6 rfl fl_TuneDoor_16 rfl (by decide) kd_2 rfl (z3) ?_
    refine u_getI (z := (τ o2 2)) (pc' := 12) dX10_isTune_9 rfl fl_TuneDoor_122 rfl (by decide) (kHouse k4).1 k4 rfl (fun r5 => ?_)
    refine u_icmp_ge (tgt := 24) (pc' := 15) dX10_isTune_12 rfl (by decide) c1 r5 (fun hb => ?_) (fun hb => ?_)
    · have h := h.1 hb
      refine u_iconst (pc' := 25) dX10_isTune_24 rfl ?_
      exact u_zret (b := false) dX10_isTune_25 rfl rfl h
    · have h := h.2 hb
      refine u_iload_n (i := 1) (pc' := 16) dX10_isTune_15 rfl rfl rfl ?_
      refine u_iconst (pc' := 17) dX10_isTune_16 rfl ?_
      refine u_icmp_ge (tgt := 24) (pc' := 20) dX10_isTune_17 rfl (by decide) c1 ⟨by decide, by decide⟩ (fun hb => ?_) (fun hb => ?_)
      · have h := h.1 hb
        refine u_iconst (pc' := 25) dX10_isTune_24 rfl ?_
        exact u_zret (b := false) dX10_isTune_25 rfl rfl h
      · have h := h.2 hb
        refine u_iconst (pc' := 21) dX10_isTune_20 rfl ?_
        refine u_goto (tgt := 25) dX10_isTune_21 (by decide) ?_
        exact u_zret (b := true) dX10_isTune_25 rfl rfl h
theorem mX10_isTune {E : mm_Env} {d : Nat} {τ : mm_Mem} {Q : mm_Q0} {a0 : Int} (h : inR a0 ∧ ((a0 < 0 → Q (some (vB false)) τ) ∧ (¬ a0 < 0 → ∃ o2 : Nat, (τ 2 2) = (o2 : Int) ∧ KD o2 = some (.inr 2) ∧ (((τ o2 2) ≤ a0 → Q (some (vB false)) τ) ∧ (¬ (τ o2 2) ≤ a0 → ((3 ≤ a0 → Q (some (vB false)) τ) ∧ (¬ 3 ≤ a0 → Q (some (vB true)) τ))))))) : M0 E d qX10_isTune [vR 2, vI a0] τ Q := M0_of rfl (Nat.le_of_ble_eq_true rfl) [some (vR 2), some (vI a0)] rfl (bX10_isTune_0  h)
set_option maxRecDepth 20000 in
theorem bX10_door_0 {E : mm_Env} {d : Nat} {τ : mm_Mem} {Q : mm_Q0} {a0 : Int} {a1 : Int} (h : M0 E d qX10_doorAt [vR 2, vI a0] τ (fun v τ1 => ∃ o2 : Nat, v = some (vR o2) ∧ ((¬ o2 = 0 → inR a1 ∧ ((a1 < 0 ∨ 3 < a1 → Q (some (vI (-1))) τ1) ∧ (a1 = 0 → KD o2 = some (.inr 0) ∧ Q (some (vI (τ1 o2 1))) τ1) ∧ (a1 = 1 → KD o2 = some (.inr 0) ∧ Q (some (vI (τ1 o2 2))) τ1) ∧ (a1 = 2 → KD o2 = some (.inr 0) ∧ Q (some (vI (τ1 o2 3))) τ1) ∧ (a1 = 3 → KD o2 = some (.inr 0) ∧ Q (some (vI (τ1 o2 4))) τ1))) ∧ (o2 = 0 → Q (some (vI (-1))) τ1)))) : V0 E (d + 1) qX10_door 0 [some (vR 2), some (vI a0), some (vI a1), none] [] τ Q := by
  refine u_aload_n (i := 0) (pc' := 1) dX10_door_0 rfl rfl rfl ?_
  refine u_iload_n (i := 1) (pc' := 2) dX10_door_1 rfl rfl rfl ?_
  refine u_invV (q' := qX10_doorAt) (As := [vI a0]) (st := []) (pc' := 5) dX10_door_2 rfl gX10_doorAt wm_833 rfl rfl (by decide) kd_2 wm_835 wp_43 rfl (Nat.le_of_ble_eq_true rfl) (M0.mono h (fun v τ1 h => ?_))
  obtain ⟨o2, rfl, h⟩ := h
  show V0 E (d + 1) qX10_door 5 [some (vR 2), some (vI a0), some (vI a1), none] [vR o2] τ1 Q
  refine s_astore_n (i := 3) (ls' := [some (vR 2), some (vI a0), some (vI a1), some (vR o2)]) (pc' := 6) dX10_door_5 rfl rfl (Nat.le_of_ble_eq_true rfl) rfl rfl ?_
  refine u_aload_n (i := 3) (pc' := 7) dX10_door_6 rfl rfl rfl ?_
  refine u_ifnonnull (tgt := 12) (pc' := 10) dX10_door_7 rfl (by decide) (fun hb => ?_) (fun hb => ?_)
  · have h := h.1 hb
    refine u_iload_n (i := 2) (pc' := 13) dX10_door_12 rfl rfl rfl ?_
    obtain ⟨c3, h⟩ := h
    refine u_tableswitch (dt := 64) dX10_door_13 c3 (by decide) (fun hb => ?_) (fun hb hb2 => ?_)
    · have h := h.1 hb
      refine u_iconst (pc' := 65) dX10_door_64 rfl ?_
      exact u_iret dX10_door_65 rfl h
    · have hc : a1 = 0 ∨ a1 = 1 ∨ a1 = 2 ∨ a1 = 3 := by omega
      rcases hc with hc | hc | hc | hc
      · have h := h.2.1 hc
        refine ⟨31, 44, by rw [hc]; rfl, by decide, ?_⟩
        refine u_aload_n (i := 3) (pc' := 45) dX10_door_44 rfl rfl rfl ?_
        obtain ⟨k4, h⟩ := h
        refine u_getI (z := (τ1 o2 1)) (pc' := 48) dX10_door_45 rfl fl_TuneDoor_180 rfl (by decide) (kDoor k4).1 k4 rfl (fun r5 => ?_)
        exact u_iret dX10_door_48 rfl h
      · have h := h.2.2.1 hc
        refine ⟨36, 49, by rw [hc]; rfl, by decide, ?_⟩
        refine u_aload_n (i := 3) (pc' := 50) dX10_door_49 rfl rfl rfl ?_
        obtain ⟨k6, h⟩ := h
        refine u_getI (z := (τ1 o2 2)) (pc' := 53) dX10_door_50 rfl fl_TuneDoor_183 rfl (by decide) (kDoor k6).1 k6 rfl (fun r7 => ?_)
        exact u_iret dX10_door_53 rfl h
      · have h := h.2.2.2.1 hc
        refine ⟨41, 54, by rw [hc]; rfl, by decide, ?_⟩
        refine u_aload_n (i := 3) (pc' := 55) dX10_door_54 rfl rfl rfl ?_
        obtain ⟨k8, h⟩ := h
        refine u_getI (z := (τ1 o2 3)) (pc' := 58) dX10_door_55 rfl fl_TuneDoor_186 rfl (by decide) (kDoor k8).1 k8 rfl (fun r9 => ?_)
        exact u_iret dX10_door_58 rfl h
      · have h := h.2.2.2.2 hc
        refine ⟨46, 59, by rw [hc]; rfl, by decide, ?_⟩
        refine u_aload_n (i := 3) (pc' := 60) dX10_door_59 rfl rfl rfl ?_
        obtain ⟨k10, h⟩ := h
        refine u_getI (z := (τ1 o2 4)) (pc' := 63) dX10_door_60 rfl fl_TuneDoor_189 rfl (by decide) (kDoor k10).1 k10 rfl (fun r11 => ?_)
        exact u_iret dX10_door_63 rfl h
  · have h := h.2 hb
    refine u_iconst (pc' := 11) dX10_door_10 rfl ?_
    exact u_iret dX10_door_11 rfl h
theorem mX10_door {E : mm_Env} {d : Nat} {τ : mm_Mem} {Q : mm_Q0} {a0 : Int} {a1 : Int} (h : M0 E d qX10_doorAt [vR 2, vI a0] τ (fun v τ1 => ∃ o2 : Nat, v = some (vR o2) ∧ ((¬ o2 = 0 → inR a1 ∧ ((a1 < 0 ∨ 3 < a1 → Q (some (vI (-1))) τ1) ∧ (a1 = 0 → KD o2 = some (.inr 0) ∧ Q (some (vI (τ1 o2 1))) τ1) ∧ (a1 = 1 → KD o2 = some (.inr 0) ∧ Q (some (vI (τ1 o2 2))) τ1) ∧ (a1 = 2 → KD o2 = some (.inr 0) ∧ Q (some (vI (τ1 o2 3))) τ1) ∧ (a1 = 3 → KD o2 = some (.inr 0) ∧ Q (some (vI (τ1 o2 4))) τ1))) ∧ (o2 = 0 → Q (some (vI (-1))) τ1)))) : M0 E (d + 1) qX10_door [vR 2, vI a0, vI a1] τ Q := M0_of rfl (Nat.le_of_ble_eq_true rfl) [some (vR 2), some (vI a0), some (vI a1), none] rfl (bX10_door_0  h)
set_option maxRecDepth 20000 in
theorem bX10_person_0 {E : mm_Env} {d : Nat} {τ : mm_Mem} {Q : mm_Q0} {a0 : Int} {a1 : Int} (h : M0 E d qX10_personAt [vR 2, vI a0] τ (fun v τ1 => ∃ o2 : Nat, v = some (vR o2) ∧ ((¬ o2 = 0 → inR a1 ∧ ((a1 < 0 ∨ 6 < a1 → Q (some (vI (-1))) τ1) ∧ (a1 = 0 → KD o2 = some (.inr 3) ∧ Q (some (vI (τ1 o2 1))) τ1) ∧ (a1 = 1 → KD o2 = some (.inr 3) ∧ Q (some (vI (τ1 o2 2))) τ1) ∧ (a1 = 2 → KD o2 = some (.inr 3) ∧ Q (some (vI (τ1 o2 5))) τ1) ∧ (a1 = 3 → KD o2 = some (.inr 3) ∧ Q (some (vI (τ1 o2 3))) τ1) ∧ (a1 = 4 → KD o2 = some (.inr 3) ∧ Q (some (vI (τ1 o2 4))) τ1) ∧ (a1 = 5 → KD o2 = some (.inr 3) ∧ Q (some (vI (τ1 o2 6))) τ1) ∧ (a1 = 6 → KD o2 = some (.inr 3) ∧ Q (some (vI (τ1 o2 7))) τ1))) ∧ (o2 = 0 → Q (some (vI (-1))) τ1)))) : V0 E (d + 1) qX10_person 0 [some (vR 2), some (vI a0), some (vI a1), none] [] τ Q := by
  refine u_aload_n (i := 0) (pc' := 1) dX10_person_0 rfl rfl rfl ?_
  refine u_iload_n (i := 1) (pc' := 2) dX10_person_1 rfl rfl rfl ?_
  refine u_invV (q' := qX10_personAt) (As := [vI a0]) (st := []) (pc' := 5) dX10_person_2 rfl gX10_personAt wm_837 rfl rfl (by decide) kd_2 wm_839 wp_44 rfl (Nat.le_of_ble_eq_true rfl) (M0.mono h (fun v τ1 h => ?_))
  obtain ⟨o2, rfl, h⟩ := h
  show V0 E (d + 1) qX10_person 5 [some (vR 2), some (vI a0), some (vI a1), none] [vR o2] τ1 Q
  refine s_astore_n (i := 3) (ls' := [some (vR 2), some (vI a0), some (vI a1), some (vR o2)]) (pc' := 6) dX10_person_5 rfl rfl (Nat.le_of_ble_eq_true rfl) rfl rfl ?_
  refine u_aload_n (i := 3) (pc' := 7) dX10_person_6 rfl rfl rfl ?_
  refine u_ifnonnull (tgt := 12) (pc' := 10) dX10_person_7 rfl (by decide) (fun hb => ?_) (fun hb => ?_)
  · have h := h.1 hb
    refine u_iload_n (i := 2) (pc' := 13) dX10_person_12 rfl rfl rfl ?_
    obtain ⟨c3, h⟩ := h
    refine u_tableswitch (dt := 91) dX10_person_13 c3 (by decide) (fun hb => ?_) (fun hb hb2 => ?_)
    · have h := h.1 hb
      refine u_iconst (pc' := 92) dX10_person_91 rfl ?_
      exact u_iret dX10_person_92 rfl h
    · have hc : a1 = 0 ∨ a1 = 1 ∨ a1 = 2 ∨ a1 = 3 ∨ a1 = 4 ∨ a1 = 5 ∨ a1 = 6 := by omega
      rcases hc with hc | hc | hc | hc | hc | hc | hc
      · have h := h.2.1 hc
        refine ⟨43, 56, by rw [hc]; rfl, by decide, ?_⟩
        refine u_aload_n (i := 3) (pc' := 57) dX10_person_56 rfl rfl rfl ?_
        obtain ⟨k4, h⟩ := h
        refine u_getI (z := (τ1 o2 1)) (pc' := 60) dX10_person_57 rfl fl_TuneDoor_190 rfl (by decide) (kPerson k4) k4 rfl (fun r5 => ?_)
        exact u_iret dX10_person_60 rfl h
      · have h := h.2.2.1 hc
        refine ⟨48, 61, by rw [hc]; rfl, by decide, ?_⟩
        refine u_aload_n (i := 3) (pc' := 62) dX10_person_61 rfl rfl rfl ?_
        obtain ⟨k6, h⟩ := h
        refine u_getI (z := (τ1 o2 2)) (pc' := 65) dX10_person_62 rfl fl_TuneDoor_193 rfl (by decide) (kPerson k6) k6 rfl (fun r7 => ?_)
        exact u_iret dX10_person_65 rfl h
      · have h := h.2.2.2.1 hc
        refine ⟨53, 66, by rw [hc]; rfl, by decide, ?_⟩
        refine u_aload_n (i := 3) (pc' := 67) dX10_person_66 rfl rfl rfl ?_
        obtain ⟨k8, h⟩ := h
        refine u_getI (z := (τ1 o2 5)) (pc' := 70) dX10_person_67 rfl fl_TuneDoor_196 rfl (by decide) (kPerson k8) k8 rfl (fun r9 => ?_)
        exact u_iret dX10_person_70 rfl h
      · have h := h.2.2.2.2.1 hc
        refine ⟨58, 71, by rw [hc]; rfl, by decide, ?_⟩
        refine u_aload_n (i := 3) (pc' := 72) dX10_person_71 rfl rfl rfl ?_
        obtain ⟨k10, h⟩ := h
        refine u_getI (z := (τ1 o2 3)) (pc' := 75) dX10_person_72 rfl fl_TuneDoor_199 rfl (by decide) (kPerson k10) k10 rfl (fun r11 => ?_)
        exact u_iret dX10_person_75 rfl h
      · have h := h.2.2.2.2.2.1 hc
        refine ⟨63, 76, by rw [hc]; rfl, by decide, ?_⟩
        refine u_aload_n (i := 3) (pc' := 77) dX10_person_76 rfl rfl rfl ?_
        obtain ⟨k12, h⟩ := h
        refine u_getI (z := (τ1 o2 4)) (pc' := 80) dX10_person_77 rfl fl_TuneDoor_202 rfl (by decide) (kPerson k12) k12 rfl (fun r13 => ?_)
        exact u_iret dX10_person_80 rfl h
      · have h := h.2.2.2.2.2.2.1 hc
        refine ⟨68, 81, by rw [hc]; rfl, by decide, ?_⟩
        refine u_aload_n (i := 3) (pc' := 82) dX10_person_81 rfl rfl rfl ?_
        obtain ⟨k14, h⟩ := h
        refine u_getI (z := (τ1 o2 6)) (pc' := 85) dX10_person_82 rfl fl_TuneDoor_205 rfl (by decide) (kPerson k14) k14 rfl (fun r15 => ?_)
        exact u_iret dX10_person_85 rfl h
      · have h := h.2.2.2.2.2.2.2 hc
        refine ⟨73, 86, by rw [hc]; rfl, by decide, ?_⟩
        refine u_aload_n (i := 3) (pc' := 87) dX10_person_86 rfl rfl rfl ?_
        obtain ⟨k16, h⟩ := h
        refine u_getI (z := (τ1 o2 7)) (pc' := 90) dX10_person_87 rfl fl_TuneDoor_208 rfl (by decide) (kPerson k16) k16 rfl (fun r17 => ?_)
        exact u_iret dX10_person_90 rfl h
  · have h := h.2 hb
    refine u_iconst (pc' := 11) dX10_person_10 rfl ?_
    exact u_iret dX10_person_11 rfl h
theorem mX10_person {E : mm_Env} {d : Nat} {τ : mm_Mem} {Q : mm_Q0} {a0 : Int} {a1 : Int} (h : M0 E d qX10_personAt [vR 2, vI a0] τ (fun v τ1 => ∃ o2 : Nat, v = some (vR o2) ∧ ((¬ o2 = 0 → inR a1 ∧ ((a1 < 0 ∨ 6 < a1 → Q (some (vI (-1))) τ1) ∧ (a1 = 0 → KD o2 = some (.inr 3) ∧ Q (some (vI (τ1 o2 1))) τ1) ∧ (a1 = 1 → KD o2 = some (.inr 3) ∧ Q (some (vI (τ1 o2 2))) τ1) ∧ (a1 = 2 → KD o2 = some (.inr 3) ∧ Q (some (vI (τ1 o2 5))) τ1) ∧ (a1 = 3 → KD o2 = some (.inr 3) ∧ Q (some (vI (τ1 o2 3))) τ1) ∧ (a1 = 4 → KD o2 = some (.inr 3) ∧ Q (some (vI (τ1 o2 4))) τ1) ∧ (a1 = 5 → KD o2 = some (.inr 3) ∧ Q (some (vI (τ1 o2 6))) τ1) ∧ (a1 = 6 → KD o2 = some (.inr 3) ∧ Q (some (vI (τ1 o2 7))) τ1))) ∧ (o2 = 0 → Q (some (vI (-1))) τ1)))) : M0 E (d + 1) qX10_person [vR 2, vI a0, vI a1] τ Q := M0_of rfl (Nat.le_of_ble_eq_true rfl) [some (vR 2), some (vI a0), some (vI a1), none] rfl (bX10_person_0  h)
set_option maxRecDepth 20000 in
theorem bX10_note_0 {E : mm_Env} {d : Nat} {τ : mm_Mem} {Q : mm_Q0} {a0 : Int} {a1 : Int} {a2 : Int} (h : M0 E d qX10_isTune [vR 2, vI a0] τ (fun v τ1 => ∃ b2 : Bool, v = some (vB b2) ∧ ((b2 = false → Q (some (vI (-1))) τ1) ∧ (b2 = true → M0 E d qX10_isWhistle [vI a1] τ1 (fun v τ3 => ∃ b4 : Bool, v = some (vB b4) ∧ ((b4 = false → Q (some (vI (-1))) τ3) ∧ (b4 = true → inR a2 ∧ ((a2 < (-2) → Q (some (vI (-1))) τ3) ∧ (¬ a2 < (-2) → ∃ o6 : Nat, (τ3 2 2) = (o6 : Int) ∧ KD o6 = some (.inr 2) ∧ ((a2 < (τ3 o6 1) → ((a2 ≠ (-1) → ((a2 ≠ (-2) → M0 E d qX9_tuneAt [vR 78, vI a0, vI a1] τ3 (fun v τ10 => ∃ r11 : Int, v = some (vI r11) ∧ M0 E d qX9_noteIn [vI r11, vI a2] τ10 (fun v τ12 => ∃ r13 : Int, v = some (vI r13) ∧ Q (some (vI r13)) τ12))) ∧ (a2 = (-2) → M0 E d qX9_keptAt [vR 78, vI a0, vI a1] τ3 (fun v τ14 => ∃ r15 : Int, v = some (vI r15) ∧ Q (some (vI r15)) τ14)))) ∧ (a2 = (-1) → M0 E d qX9_numberAt [vR 78, vI a0, vI a1] τ3 (fun v τ16 => ∃ r17 : Int, v = some (vI r17) ∧ Q (some (vI r17)) τ16)))) ∧ (¬ a2 < (τ3 o6 1) → Q (some (vI (-1))) τ3))))))))))) : V0 E (d + 1) qX10_note 0 [some (vR 2), some (vI a0), some (vI a1), some (vI a2)] [] τ Q := by
  refine u_aload_n (i := 0) (pc' := 1) dX10_note_0 rfl rfl rfl ?_
  refine u_iload_n (i := 1) (pc' := 2) dX10_note_1 rfl rfl rfl ?_
  refine u_invV (q' := qX10_isTune) (As := [vI a0]) (st := []) (pc' := 5) dX10_note_2 rfl gX10_isTune wm_841 rfl rfl (by decide) kd_2 wm_843 wp_45 rfl (Nat.le_of_ble_eq_true rfl) (M0.mono h (fun v τ1 h => ?_))
  obtain ⟨b2, rfl, h⟩ := h
  show V0 E (d + 1) qX10_note 5 [some (vR 2), some (vI a0), some (vI a1), some (vI a2)] [vB b2] τ1 Q
  refine u_if_eq (tgt := 32) (pc' := 8) dX10_note_5 rfl (by decide) (bI_R _) (fun hb => ?_) (fun hb => ?_)
  · have h := h.1 (bI_0.mp hb)
    refine u_iconst (pc' := 33) dX10_note_32 rfl ?_
    exact u_iret dX10_note_33 rfl h
  · have h := h.2 (bI_n0.mp hb)
    refine u_iload_n (i := 2) (pc' := 9) dX10_note_8 rfl rfl rfl ?_
    refine u_invS (q' := qX10_isWhistle) (As := [vI a1]) (st := []) (pc' := 12) dX10_note_9 rfl gX10_isWhistle wm_857 wm_858 rfl (Nat.le_of_ble_eq_true rfl) (M0.mono h (fun v τ3 h => ?_))
    obtain ⟨b4, rfl, h⟩ := h
    show V0 E (d + 1) qX10_note 12 [some (vR 2), some (vI a0), some (vI a1), some (vI a2)] [vB b4] τ3 Q
    refine u_if_eq (tgt := 32) (pc' := 15) dX10_note_12 rfl (by decide) (bI_R _) (fun hb => ?_) (fun hb => ?_)
    · have h := h.1 (bI_0.mp hb)
      refine u_iconst (pc' := 33) dX10_note_32 rfl ?_
      exact u_iret dX10_note_33 rfl h
    · have h := h.2 (bI_n0.mp hb)
      refine u_iload_n (i := 3) (pc' := 16) dX10_note_15 rfl rfl rfl ?_
      refine u_bipush (pc' := 18) dX10_note_16 rfl (by decide) ?_
      obtain ⟨c5, h⟩ := h
      refine u_icmp_lt (tgt := 32) (pc' := 21) dX10_note_18 rfl (by decide) c5 ⟨by decide, by decide⟩ (fun hb => ?_) (fun hb => ?_)
      · have h := h.1 hb
        refine u_iconst (pc' := 33) dX10_note_32 rfl ?_
        exact u_iret dX10_note_33 rfl h
      · have h := h.2 hb
        refine u_iload_n (i := 3) (pc' := 22) dX10_note_21 rfl rfl rfl ?_
        refine u_aload_n (i := 0) (pc' := 23) dX10_note_22 rfl rfl rfl ?_
        obtain ⟨o6, z7, k8, h⟩ := h
        refine u_getD (a := o6) (pc' := 26) dX10_note_23 rfl fl_TuneDoor_16 rfl (by decide) kd_2 rfl (z7) ?_
        refine u_getI (z := (τ3 o6 1)) (pc' := 29) dX10_note_26 rfl fl_TuneDoor_119 rfl (by decide) (kHouse k8).1 k8 rfl (fun r9 => ?_)
        refine u_icmp_lt (tgt := 34) (pc' := 32) dX10_note_29 rfl (by decide) c5 r9 (fun hb => ?_) (fun hb => ?_)
        · have h := h.1 hb
          refine u_iload_n (i := 3) (pc' := 35) dX10_note_34 rfl rfl rfl ?_
          refine u_iconst (pc' := 36) dX10_note_35 rfl ?_
          refine u_icmp_ne (tgt := 49) (pc' := 39) dX10_note_36 rfl (by decide) c5 ⟨by decide, by decide⟩ (fun hb => ?_) (fun hb => ?_)
          · have h := h.1 hb
            refine u_iload_n (i := 3) (pc' := 50) dX10_note_49 rfl rfl rfl ?_
            refine u_bipush (pc' := 52) dX10_note_50 rfl (by decide) ?_
            refine u_icmp_ne (tgt := 67) (pc' := 55) dX10_note_52 rfl (by decide) c5 ⟨by decide, by decide⟩ (fun hb => ?_) (fun hb => ?_)
            · have h := h.1 hb
              refine u_aload_n (i := 0) (pc' := 68) dX10_note_67 rfl rfl rfl ?_
              refine u_getR (a := 78) (pc' := 71) dX10_note_68 rfl fl_TuneDoor_42 rfl (by decide) kd_2 rfl ?_
              refine u_iload_n (i := 1) (pc' := 72) dX10_note_71 rfl rfl rfl ?_
              refine u_iload_n (i := 2) (pc' := 73) dX10_note_72 rfl rfl rfl ?_
              refine u_invV (q' := qX9_tuneAt) (As := [vI a0, vI a1]) (st := []) (pc' := 76) dX10_note_73 rfl gX9_tuneAt wm_871 rfl rfl (by decide) kd_78 wm_872 wm_873 rfl (Nat.le_of_ble_eq_true rfl) (M0.mono h (fun v τ10 h => ?_))
              obtain ⟨r11, rfl, h⟩ := h
              show V0 E (d + 1) qX10_note 76 [some (vR 2), some (vI a0), some (vI a1), some (vI a2)] [vI r11] τ10 Q
              refine u_iload_n (i := 3) (pc' := 77) dX10_note_76 rfl rfl rfl ?_
              refine u_invS (q' := qX9_noteIn) (As := [vI r11, vI a2]) (st := []) (pc' := 80) dX10_note_77 rfl gX9_noteIn wm_875 wm_744 rfl (Nat.le_of_ble_eq_true rfl) (M0.mono h (fun v τ12 h => ?_))
              obtain ⟨r13, rfl, h⟩ := h
              show V0 E (d + 1) qX10_note 80 [some (vR 2), some (vI a0), some (vI a1), some (vI a2)] [vI r13] τ12 Q
              exact u_iret dX10_note_80 rfl h
            · have h := h.2 hb
              refine u_aload_n (i := 0) (pc' := 56) dX10_note_55 rfl rfl rfl ?_
              refine u_getR (a := 78) (pc' := 59) dX10_note_56 rfl fl_TuneDoor_42 rfl (by decide) kd_2 rfl ?_
              refine u_iload_n (i := 1) (pc' := 60) dX10_note_59 rfl rfl rfl ?_
              refine u_iload_n (i := 2) (pc' := 61) dX10_note_60 rfl rfl rfl ?_
              refine u_invV (q' := qX9_keptAt) (As := [vI a0, vI a1]) (st := []) (pc' := 64) dX10_note_61 rfl gX9_keptAt wm_867 rfl rfl (by decide) kd_78 wm_868 wm_869 rfl (Nat.le_of_ble_eq_true rfl) (M0.mono h (fun v τ14 h => ?_))
              obtain ⟨r15, rfl, h⟩ := h
              show V0 E (d + 1) qX10_note 64 [some (vR 2), some (vI a0), some (vI a1), some (vI a2)] [vI r15] τ14 Q
              refine u_goto (tgt := 80) dX10_note_64 (by decide) ?_
              exact u_iret dX10_note_80 rfl h
          · have h := h.2 hb
            refine u_aload_n (i := 0) (pc' := 40) dX10_note_39 rfl rfl rfl ?_
            refine u_getR (a := 78) (pc' := 43) dX10_note_40 rfl fl_TuneDoor_42 rfl (by decide) kd_2 rfl ?_
            refine u_iload_n (i := 1) (pc' := 44) dX10_note_43 rfl rfl rfl ?_
            refine u_iload_n (i := 2) (pc' := 45) dX10_note_44 rfl rfl rfl ?_
            refine u_invV (q' := qX9_numberAt) (As := [vI a0, vI a1]) (st := []) (pc' := 48) dX10_note_45 rfl gX9_numberAt wm_860 rfl rfl (by decide) kd_78 wm_861 wm_862 rfl (Nat.le_of_ble_eq_true rfl) (M0.mono h (fun v τ16 h => ?_))
            obtain ⟨r17, rfl, h⟩ := h
            show V0 E (d + 1) qX10_note 48 [some (vR 2), some (vI a0), some (vI a1), some (vI a2)] [vI r17] τ16 Q
            exact u_iret dX10_note_48 rfl h
        · have h := h.2 hb
          refine u_iconst (pc' := 33) dX10_note_32 rfl ?_
          exact u_iret dX10_note_33 rfl h
theorem mX10_note {E : mm_Env} {d : Nat} {τ : mm_Mem} {Q : mm_Q0} {a0 : Int} {a1 : Int} {a2 : Int} (h : M0 E d qX10_isTune [vR 2, vI a0] τ (fun v τ1 => ∃ b2 : Bool, v = some (vB b2) ∧ ((b2 = false → Q (some (vI (-1))) τ1) ∧ (b2 = true → M0 E d qX10_isWhistle [vI a1] τ1 (fun v τ3 => ∃ b4 : Bool, v = some (vB b4) ∧ ((b4 = false → Q (some (vI (-1))) τ3) ∧ (b4 = true → inR a2 ∧ ((a2 < (-2) → Q (some (vI (-1))) τ3) ∧ (¬ a2 < (-2) → ∃ o6 : Nat, (τ3 2 2) = (o6 : Int) ∧ KD o6 = some (.inr 2) ∧ ((a2 < (τ3 o6 1) → ((a2 ≠ (-1) → ((a2 ≠ (-2) → M0 E d qX9_tuneAt [vR 78, vI a0, vI a1] τ3 (fun v τ10 => ∃ r11 : Int, v = some (vI r11) ∧ M0 E d qX9_noteIn [vI r11, vI a2] τ10 (fun v τ12 => ∃ r13 : Int, v = some (vI r13) ∧ Q (some (vI r13)) τ12))) ∧ (a2 = (-2) → M0 E d qX9_keptAt [vR 78, vI a0, vI a1] τ3 (fun v τ14 => ∃ r15 : Int, v = some (vI r15) ∧ Q (some (vI r15)) τ14)))) ∧ (a2 = (-1) → M0 E d qX9_numberAt [vR 78, vI a0, vI a1] τ3 (fun v τ16 => ∃ r17 : Int, v = some (vI r17) ∧ Q (some (vI r17)) τ16)))) ∧ (¬ a2 < (τ3 o6 1) → Q (some (vI (-1))) τ3))))))))))) : M0 E (d + 1) qX10_note [vR 2, vI a0, vI a1, vI a2] τ Q := M0_of rfl (Nat.le_of_ble_eq_true rfl) [some (vR 2), some (vI a0), some (vI a1), some (vI a2)] rfl (bX10_note_0  h)
set_option maxRecDepth 20000 in
theorem bX10_isWhistle_0 {E : mm_Env} {d : Nat} {τ : mm_Mem} {Q : mm_Q0} {a0 : Int} (h : inR a0 ∧ ((a0 < 0 → Q (some (vB false)) τ) ∧ (¬ a0 < 0 → ((1000 ≤ a0 → Q (some (vB false)) τ) ∧ (¬ 1000 ≤ a0 → Q (some (vB true)) τ))))) : V0 E d qX10_isWhistle 0 [some (vI a0)] [] τ Q := by
  refine u_iload_n (i := 0) (pc' := 1) dX10_isWhistle_0 rfl rfl rfl ?_
  obtain ⟨c1, h⟩ := h
  refine u_if_lt (tgt := 15) (pc' := 4) dX10_isWhistle_1 rfl (by decide) c1 (fun hb => ?_) (fun hb => ?_)
  · have h := h.1 hb
    refine u_iconst (pc' := 16) dX10_isWhistle_15 rfl ?_
    exact u_zret (b := false) dX10_isWhistle_16 rfl rfl h
  · have h := h.2 hb
    refine u_iload_n (i := 0) (pc' := 5) dX10_isWhistle_4 rfl rfl rfl ?_
    refine u_sipush (pc' := 8) dX10_isWhistle_5 rfl (by decide) ?_
    refine u_icmp_ge (tgt := 15) (pc' := 11) dX10_isWhistle_8 rfl (by decide) c1 ⟨by decide, by decide⟩ (fun hb => ?_) (fun hb => ?_)
    · have h := h.1 hb
      refine u_iconst (pc' := 16) dX10_isWhistle_15 rfl ?_
      exact u_zret (b := false) dX10_isWhistle_16 rfl rfl h
    · have h := h.2 hb
      refine u_iconst (pc' := 12) dX10_isWhistle_11 rfl ?_
      refine u_goto (tgt := 16) dX10_isWhistle_12 (by decide) ?_
      exact u_zret (b := true) dX10_isWhistle_16 rfl rfl h
theorem mX10_isWhistle {E : mm_Env} {d : Nat} {τ : mm_Mem} {Q : mm_Q0} {a0 : Int} (h : inR a0 ∧ ((a0 < 0 → Q (some (vB false)) τ) ∧ (¬ a0 < 0 → ((1000 ≤ a0 → Q (some (vB false)) τ) ∧ (¬ 1000 ≤ a0 → Q (some (vB true)) τ))))) : M0 E d qX10_isWhistle [vI a0] τ Q := M0_of rfl (Nat.le_of_ble_eq_true rfl) [some (vI a0)] rfl (bX10_isWhistle_0  h)
set_option maxRecDepth 20000 in
theorem bX10_round_0 {E : mm_Env} {d : Nat} {τ : mm_Mem} {Q : mm_Q0} {a0 : Int} {a1 : Int} (h : M0 E d qX10_isTune [vR 2, vI a0] τ (fun v τ1 => ∃ b2 : Bool, v = some (vB b2) ∧ ((b2 = false → Q (some (vI (-1))) τ1) ∧ (b2 = true → inR a1 ∧ ((a1 < 0 → Q (some (vI (-1))) τ1) ∧ (¬ a1 < 0 → ((a1 ≤ 1 → M0 E d qX9_roundLength [vR 78, vI a0] τ1 (fun v τ4 => ∃ r5 : Int, v = some (vI r5) ∧ ((a1 = 1 → Q (some (vI r5)) τ4) ∧ (¬ a1 = 1 → inR r5 ∧ ((r5 ≠ (-1) → M0 E d qX9_roundStart [vR 78, vI a0, vI r5] τ4 (fun v τ7 => ∃ r8 : Int, v = some (vI r8) ∧ Q (some (vI r8)) τ7)) ∧ (r5 = (-1) → Q (some (vI r5)) τ4)))))) ∧ (¬ a1 ≤ 1 → Q (some (vI (-1))) τ1)))))))) : V0 E (d + 1) qX10_round 0 [some (vR 2), some (vI a0), some (vI a1), none] [] τ Q := by
  refine u_aload_n (i := 0) (pc' := 1) dX10_round_0 rfl rfl rfl ?_
  refine u_iload_n (i := 1) (pc' := 2) dX10_round_1 rfl rfl rfl ?_
  refine u_invV (q' := qX10_isTune) (As := [vI a0]) (st := []) (pc' := 5) dX10_round_2 rfl gX10_isTune wm_841 rfl rfl (by decide) kd_2 wm_843 wp_45 rfl (Nat.le_of_ble_eq_true rfl) (M0.mono h (fun v τ1 h => ?_))
  obtain ⟨b2, rfl, h⟩ := h
  show V0 E (d + 1) qX10_round 5 [some (vR 2), some (vI a0), some (vI a1), none] [vB b2] τ1 Q
  refine u_if_eq (tgt := 17) (pc' := 8) dX10_round_5 rfl (by decide) (bI_R _) (fun hb => ?_) (fun hb => ?_)
  · have h := h.1 (bI_0.mp hb)
    refine u_iconst (pc' := 18) dX10_round_17 rfl ?_
    exact u_iret dX10_round_18 rfl h
  · have h := h.2 (bI_n0.mp hb)
    refine u_iload_n (i := 2) (pc' := 9) dX10_round_8 rfl rfl rfl ?_
    obtain ⟨c3, h⟩ := h
    refine u_if_lt (tgt := 17) (pc' := 12) dX10_round_9 rfl (by decide) c3 (fun hb => ?_) (fun hb => ?_)
    · have h := h.1 hb
      refine u_iconst (pc' := 18) dX10_round_17 rfl ?_
      exact u_iret dX10_round_18 rfl h
    · have h := h.2 hb
      refine u_iload_n (i := 2) (pc' := 13) dX10_round_12 rfl rfl rfl ?_
      refine u_iconst (pc' := 14) dX10_round_13 rfl ?_
      refine u_icmp_le (tgt := 19) (pc' := 17) dX10_round_14 rfl (by decide) c3 ⟨by decide, by decide⟩ (fun hb => ?_) (fun hb => ?_)
      · have h := h.1 hb
        refine u_aload_n (i := 0) (pc' := 20) dX10_round_19 rfl rfl rfl ?_
        refine u_getR (a := 78) (pc' := 23) dX10_round_20 rfl fl_TuneDoor_42 rfl (by decide) kd_2 rfl ?_
        refine u_iload_n (i := 1) (pc' := 24) dX10_round_23 rfl rfl rfl ?_
        refine u_invV (q' := qX9_roundLength) (As := [vI a0]) (st := []) (pc' := 27) dX10_round_24 rfl gX9_roundLength wm_880 rfl rfl (by decide) kd_78 wm_881 wm_882 rfl (Nat.le_of_ble_eq_true rfl) (M0.mono h (fun v τ4 h => ?_))
        obtain ⟨r5, rfl, h⟩ := h
        show V0 E (d + 1) qX10_round 27 [some (vR 2), some (vI a0), some (vI a1), none] [vI r5] τ4 Q
        refine s_istore_n (i := 3) (ls' := [some (vR 2), some (vI a0), some (vI a1), some (vI r5)]) (pc' := 28) dX10_round_27 rfl rfl (Nat.le_of_ble_eq_true rfl) rfl rfl ?_
        refine u_iload_n (i := 2) (pc' := 29) dX10_round_28 rfl rfl rfl ?_
        refine u_iconst (pc' := 30) dX10_round_29 rfl ?_
        refine u_icmp_eq (tgt := 38) (pc' := 33) dX10_round_30 rfl (by decide) c3 ⟨by decide, by decide⟩ (fun hb => ?_) (fun hb => ?_)
        · have h := h.1 hb
          refine u_iload_n (i := 3) (pc' := 39) dX10_round_38 rfl rfl rfl ?_
          refine u_goto (tgt := 51) dX10_round_39 (by decide) ?_
          exact u_iret dX10_round_51 rfl h
        · have h := h.2 hb
          refine u_iload_n (i := 3) (pc' := 34) dX10_round_33 rfl rfl rfl ?_
          refine u_iconst (pc' := 35) dX10_round_34 rfl ?_
          obtain ⟨c6, h⟩ := h
          refine u_icmp_ne (tgt := 42) (pc' := 38) dX10_round_35 rfl (by decide) c6 ⟨by decide, by decide⟩ (fun hb => ?_) (fun hb => ?_)
          · have h := h.1 hb
            refine u_aload_n (i := 0) (pc' := 43) dX10_round_42 rfl rfl rfl ?_
            refine u_getR (a := 78) (pc' := 46) dX10_round_43 rfl fl_TuneDoor_42 rfl (by decide) kd_2 rfl ?_
            refine u_iload_n (i := 1) (pc' := 47) dX10_round_46 rfl rfl rfl ?_
            refine u_iload_n (i := 3) (pc' := 48) dX10_round_47 rfl rfl rfl ?_
            refine u_invV (q' := qX9_roundStart) (As := [vI a0, vI r5]) (st := []) (pc' := 51) dX10_round_48 rfl gX9_roundStart wm_884 rfl rfl (by decide) kd_78 wm_885 wm_886 rfl (Nat.le_of_ble_eq_true rfl) (M0.mono h (fun v τ7 h => ?_))
            obtain ⟨r8, rfl, h⟩ := h
            show V0 E (d + 1) qX10_round 51 [some (vR 2), some (vI a0), some (vI a1), some (vI r5)] [vI r8] τ7 Q
            exact u_iret dX10_round_51 rfl h
          · have h := h.2 hb
            refine u_iload_n (i := 3) (pc' := 39) dX10_round_38 rfl rfl rfl ?_
            refine u_goto (tgt := 51) dX10_round_39 (by decide) ?_
            exact u_iret dX10_round_51 rfl h
      · have h := h.2 hb
        refine u_iconst (pc' := 18) dX10_round_17 rfl ?_
        exact u_iret dX10_round_18 rfl h
theorem mX10_round {E : mm_Env} {d : Nat} {τ : mm_Mem} {Q : mm_Q0} {a0 : Int} {a1 : Int} (h : M0 E d qX10_isTune [vR 2, vI a0] τ (fun v τ1 => ∃ b2 : Bool, v = some (vB b2) ∧ ((b2 = false → Q (some (vI (-1))) τ1) ∧ (b2 = true → inR a1 ∧ ((a1 < 0 → Q (some (vI (-1))) τ1) ∧ (¬ a1 < 0 → ((a1 ≤ 1 → M0 E d qX9_roundLength [vR 78, vI a0] τ1 (fun v τ4 => ∃ r5 : Int, v = some (vI r5) ∧ ((a1 = 1 → Q (some (vI r5)) τ4) ∧ (¬ a1 = 1 → inR r5 ∧ ((r5 ≠ (-1) → M0 E d qX9_roundStart [vR 78, vI a0, vI r5] τ4 (fun v τ7 => ∃ r8 : Int, v = some (vI r8) ∧ Q (some (vI r8)) τ7)) ∧ (r5 = (-1) → Q (some (vI r5)) τ4)))))) ∧ (¬ a1 ≤ 1 → Q (some (vI (-1))) τ1)))))))) : M0 E (d + 1) qX10_round [vR 2, vI a0, vI a1] τ Q := M0_of rfl (Nat.le_of_ble_eq_true rfl) [some (vR 2), some (vI a0), some (vI a1), none] rfl (bX10_round_0  h)
set_option maxRecDepth 20000 in
theorem bX10_find_0 {E : mm_Env} {d : Nat} {τ : mm_Mem} {Q : mm_Q0} {a0 : Int} {a1 : Int} {a2 : Int} (h : M0 E d qX10_isTune [vR 2, vI a0] τ (fun v τ1 => ∃ b2 : Bool, v = some (vB b2) ∧ ((b2 = false → Q (some (vI (-1))) τ1) ∧ (b2 = true → M0 E d qX10_isWhistle [vI a1] τ1 (fun v τ3 => ∃ b4 : Bool, v = some (vB b4) ∧ ((b4 = true → V0 E (d + 1) qX10_find 20 [some (vR 2), some (vI a0), none, some (vI a2), some (vI a1)] [] τ3 Q) ∧ (b4 = false → Q (some (vI (-1))) τ3))))))) : V0 E (d + 1) qX10_find 0 [some (vR 2), some (vI a0), some (vI a1), some (vI a2), none] [] τ Q := by
  refine u_aload_n (i := 0) (pc' := 1) dX10_find_0 rfl rfl rfl ?_
  refine u_iload_n (i := 1) (pc' := 2) dX10_find_1 rfl rfl rfl ?_
  refine u_invV (q' := qX10_isTune) (As := [vI a0]) (st := []) (pc' := 5) dX10_find_2 rfl gX10_isTune wm_841 rfl rfl (by decide) kd_2 wm_843 wp_45 rfl (Nat.le_of_ble_eq_true rfl) (M0.mono h (fun v τ1 h => ?_))
  obtain ⟨b2, rfl, h⟩ := h
  show V0 E (d + 1) qX10_find 5 [some (vR 2), some (vI a0), some (vI a1), some (vI a2), none] [vB b2] τ1 Q
  refine u_if_eq (tgt := 15) (pc' := 8) dX10_find_5 rfl (by decide) (bI_R _) (fun hb => ?_) (fun hb => ?_)
  · have h := h.1 (bI_0.mp hb)
    refine u_iconst (pc' := 16) dX10_find_15 rfl ?_
    exact u_iret dX10_find_16 rfl h
  · have h := h.2 (bI_n0.mp hb)
    refine u_iload_n (i := 2) (pc' := 9) dX10_find_8 rfl rfl rfl ?_
    refine u_invS (q' := qX10_isWhistle) (As := [vI a1]) (st := []) (pc' := 12) dX10_find_9 rfl gX10_isWhistle wm_857 wm_858 rfl (Nat.le_of_ble_eq_true rfl) (M0.mono h (fun v τ3 h => ?_))
    obtain ⟨b4, rfl, h⟩ := h
    show V0 E (d + 1) qX10_find 12 [some (vR 2), some (vI a0), some (vI a1), some (vI a2), none] [vB b4] τ3 Q
    refine u_if_ne (tgt := 17) (pc' := 15) dX10_find_12 rfl (by decide) (bI_R _) (fun hb => ?_) (fun hb => ?_)
    · have h := h.1 (bI_n0.mp hb)
      refine u_iload_n (i := 2) (pc' := 18) dX10_find_17 rfl rfl rfl ?_
      refine s_istore (i := 4) (ls' := [some (vR 2), some (vI a0), some (vI a1), some (vI a2), some (vI a1)]) (pc' := 20) dX10_find_18 rfl (Nat.le_of_ble_eq_true rfl) rfl rfl ?_
      exact u_less (ls' := [some (vR 2), some (vI a0), none, some (vI a2), some (vI a1)]) ⟨rfl, ⟨rfl, ⟨rfl, ⟨rfl, trivial⟩⟩⟩⟩ h
    · have h := h.2 (bI_0.mp hb)
      refine u_iconst (pc' := 16) dX10_find_15 rfl ?_
      exact u_iret dX10_find_16 rfl h
theorem mX10_find {E : mm_Env} {d : Nat} {τ : mm_Mem} {Q : mm_Q0} {a0 : Int} {a1 : Int} {a2 : Int} (h : M0 E d qX10_isTune [vR 2, vI a0] τ (fun v τ1 => ∃ b2 : Bool, v = some (vB b2) ∧ ((b2 = false → Q (some (vI (-1))) τ1) ∧ (b2 = true → M0 E d qX10_isWhistle [vI a1] τ1 (fun v τ3 => ∃ b4 : Bool, v = some (vB b4) ∧ ((b4 = true → V0 E (d + 1) qX10_find 20 [some (vR 2), some (vI a0), none, some (vI a2), some (vI a1)] [] τ3 Q) ∧ (b4 = false → Q (some (vI (-1))) τ3))))))) : M0 E (d + 1) qX10_find [vR 2, vI a0, vI a1, vI a2] τ Q := M0_of rfl (Nat.le_of_ble_eq_true rfl) [some (vR 2), some (vI a0), some (vI a1), some (vI a2), none] rfl (bX10_find_0  h)
set_option maxRecDepth 20000 in
theorem bX10_find_20 {E : mm_Env} {d : Nat} {τ : mm_Mem} {Q : mm_Q0} {x1 : Int} {x3 : Int} {x4 : Int} (h : inR x4 ∧ ((1000 ≤ x4 → Q (some (vI (-1))) τ) ∧ (¬ 1000 ≤ x4 → M0 E d qX9_numberAt [vR 78, vI x1, vI x4] τ (fun v τ2 => ∃ r3 : Int, v = some (vI r3) ∧ inR r3 ∧ inR x3 ∧ ((r3 ≠ x3 → V0 E (d + 1) qX10_find 20 [some (vR 2), some (vI x1), none, some (vI x3), some (vI (x4 + 1))] [] τ2 Q) ∧ (r3 = x3 → Q (some (vI x4)) τ2)))))) : V0 E (d + 1) qX10_find 20 [some (vR 2), some (vI x1), none, some (vI x3), some (vI x4)] [] τ Q := by
  refine u_iload (i := 4) (pc' := 22) dX10_find_20 rfl rfl ?_
  refine u_sipush (pc' := 25) dX10_find_22 rfl (by decide) ?_
  obtain ⟨c1, h⟩ := h
  refine u_icmp_ge (tgt := 51) (pc' := 28) dX10_find_25 rfl (by decide) c1 ⟨by decide, by decide⟩ (fun hb => ?_) (fun hb => ?_)
  · have h := h.1 hb
    refine u_iconst (pc' := 52) dX10_find_51 rfl ?_
    exact u_iret dX10_find_52 rfl h
  · have h := h.2 hb
    refine u_aload_n (i := 0) (pc' := 29) dX10_find_28 rfl rfl rfl ?_
    refine u_getR (a := 78) (pc' := 32) dX10_find_29 rfl fl_TuneDoor_42 rfl (by decide) kd_2 rfl ?_
    refine u_iload_n (i := 1) (pc' := 33) dX10_find_32 rfl rfl rfl ?_
    refine u_iload (i := 4) (pc' := 35) dX10_find_33 rfl rfl ?_
    refine u_invV (q' := qX9_numberAt) (As := [vI x1, vI x4]) (st := []) (pc' := 38) dX10_find_35 rfl gX9_numberAt wm_860 rfl rfl (by decide) kd_78 wm_861 wm_862 rfl (Nat.le_of_ble_eq_true rfl) (M0.mono h (fun v τ2 h => ?_))
    obtain ⟨r3, rfl, h⟩ := h
    show V0 E (d + 1) qX10_find 38 [some (vR 2), some (vI x1), none, some (vI x3), some (vI x4)] [vI r3] τ2 Q
    refine u_iload_n (i := 3) (pc' := 39) dX10_find_38 rfl rfl rfl ?_
    obtain ⟨c4, c5, h⟩ := h
    refine u_icmp_ne (tgt := 45) (pc' := 42) dX10_find_39 rfl (by decide) c4 c5 (fun hb => ?_) (fun hb => ?_)
    · have h := h.1 hb
      refine s_iinc (i := 4) (ls' := [some (vR 2), some (vI x1), none, some (vI x3), some (vI (x4 + 1))]) (pc' := 48) dX10_find_45 rfl rfl (Nat.le_of_ble_eq_true rfl) rfl rfl ?_
      refine u_goto (tgt := 20) dX10_find_48 (by decide) ?_
      exact u_less (ls' := [some (vR 2), some (vI x1), none, some (vI x3), some (vI (x4 + 1))]) ⟨rfl, ⟨rfl, ⟨rfl, ⟨rfl, trivial⟩⟩⟩⟩ h
    · have h := h.2 hb
      refine u_iload (i := 4) (pc' := 44) dX10_find_42 rfl rfl ?_
      exact u_iret dX10_find_44 rfl h
set_option maxRecDepth 20000 in
theorem bX10_ear_0 {E : mm_Env} {d : Nat} {τ : mm_Mem} {Q : mm_Q0} {a0 : Int} {a1 : Int} {a2 : Int} (h : M0 E d qX10_doorAt [vR 2, vI a0] τ (fun v τ1 => ∃ o2 : Nat, v = some (vR o2) ∧ ((o2 = 0 → Q (some (vI (-1))) τ1) ∧ (¬ o2 = 0 → KD o2 = some (.inr 0) ∧ M0 E d qX0_hasEar [vR o2, vI a1] τ1 (fun v τ4 => ∃ b5 : Bool, v = some (vB b5) ∧ ((b5 = true → inR a2 ∧ ((a2 < 0 ∨ 2 < a2 → Q (some (vI (-1))) τ4) ∧ (a2 = 0 → 0 ≤ a1 ∧ a1 < 3 ∧ Q (some (vI (τ4 (o2 + 1) a1.toNat))) τ4) ∧ (a2 = 1 → 0 ≤ a1 ∧ a1 < 3 ∧ Q (some (vI (τ4 (o2 + 2) a1.toNat))) τ4) ∧ (a2 = 2 → 0 ≤ a1 ∧ a1 < 3 ∧ Q (some (vI (τ4 (o2 + 3) a1.toNat))) τ4))) ∧ (b5 = false → Q (some (vI (-1))) τ4))))))) : V0 E (d + 1) qX10_ear 0 [some (vR 2), some (vI a0), some (vI a1), some (vI a2), none] [] τ Q := by
  refine u_aload_n (i := 0) (pc' := 1) dX10_ear_0 rfl rfl rfl ?_
  refine u_iload_n (i := 1) (pc' := 2) dX10_ear_1 rfl rfl rfl ?_
  refine u_invV (q' := qX10_doorAt) (As := [vI a0]) (st := []) (pc' := 5) dX10_ear_2 rfl gX10_doorAt wm_833 rfl rfl (by decide) kd_2 wm_835 wp_43 rfl (Nat.le_of_ble_eq_true rfl) (M0.mono h (fun v τ1 h => ?_))
  obtain ⟨o2, rfl, h⟩ := h
  show V0 E (d + 1) qX10_ear 5 [some (vR 2), some (vI a0), some (vI a1), some (vI a2), none] [vR o2] τ1 Q
  refine s_astore (i := 4) (ls' := [some (vR 2), some (vI a0), some (vI a1), some (vI a2), some (vR o2)]) (pc' := 7) dX10_ear_5 rfl (Nat.le_of_ble_eq_true rfl) rfl rfl ?_
  refine u_aload (i := 4) (pc' := 9) dX10_ear_7 rfl rfl ?_
  refine u_ifnull (tgt := 21) (pc' := 12) dX10_ear_9 rfl (by decide) (fun hb => ?_) (fun hb => ?_)
  · have h := h.1 hb
    refine u_iconst (pc' := 22) dX10_ear_21 rfl ?_
    exact u_iret dX10_ear_22 rfl h
  · have h := h.2 hb
    refine u_aload (i := 4) (pc' := 14) dX10_ear_12 rfl rfl ?_
    refine u_iload_n (i := 2) (pc' := 15) dX10_ear_14 rfl rfl rfl ?_
    obtain ⟨k3, h⟩ := h
    refine u_invV (q' := qX0_hasEar) (As := [vI a1]) (st := []) (pc' := 18) dX10_ear_15 rfl gX0_hasEar wm_896 rfl rfl (kDoor k3).1 k3 wm_897 wm_898 rfl (Nat.le_of_ble_eq_true rfl) (M0.mono h (fun v τ4 h => ?_))
    obtain ⟨b5, rfl, h⟩ := h
    show V0 E (d + 1) qX10_ear 18 [some (vR 2), some (vI a0), some (vI a1), some (vI a2), some (vR o2)] [vB b5] τ4 Q
    refine u_if_ne (tgt := 23) (pc' := 21) dX10_ear_18 rfl (by decide) (bI_R _) (fun hb => ?_) (fun hb => ?_)
    · have h := h.1 (bI_n0.mp hb)
      refine u_iload_n (i := 3) (pc' := 24) dX10_ear_23 rfl rfl rfl ?_
      obtain ⟨c6, h⟩ := h
      refine u_tableswitch (dt := 76) dX10_ear_24 c6 (by decide) (fun hb => ?_) (fun hb hb2 => ?_)
      · have h := h.1 hb
        refine u_iconst (pc' := 77) dX10_ear_76 rfl ?_
        exact u_iret dX10_ear_77 rfl h
      · have hc : a2 = 0 ∨ a2 = 1 ∨ a2 = 2 := by omega
        rcases hc with hc | hc | hc
        · have h := h.2.1 hc
          refine ⟨28, 52, by rw [hc]; rfl, by decide, ?_⟩
          refine u_aload (i := 4) (pc' := 54) dX10_ear_52 rfl rfl ?_
          refine u_getR (a := (o2 + 1)) (pc' := 57) dX10_ear_54 rfl fl_TuneDoor_235 rfl (kDoor k3).1 k3 (kDoor k3).2.1 ?_
          refine u_iload_n (i := 2) (pc' := 58) dX10_ear_57 rfl rfl rfl ?_
          obtain ⟨c7, c8, h⟩ := h
          refine u_iaload (k := a1.toNat) (z := (τ4 (o2 + 1) a1.toNat)) (pc' := 59) dX10_ear_58 rfl (Nat.le_trans (kDoor k3).1 (Nat.le_add_right _ _)) (kDoor k3).2.2.2.2.1 c7 c8 (by decide) rfl rfl (fun r9 => ?_)
          exact u_iret dX10_ear_59 rfl h
        · have h := h.2.2.1 hc
          refine ⟨36, 60, by rw [hc]; rfl, by decide, ?_⟩
          refine u_aload (i := 4) (pc' := 62) dX10_ear_60 rfl rfl ?_
          refine u_getR (a := (o2 + 2)) (pc' := 65) dX10_ear_62 rfl fl_TuneDoor_237 rfl (kDoor k3).1 k3 (kDoor k3).2.2.1 ?_
          refine u_iload_n (i := 2) (pc' := 66) dX10_ear_65 rfl rfl rfl ?_
          obtain ⟨c10, c11, h⟩ := h
          refine u_iaload (k := a1.toNat) (z := (τ4 (o2 + 2) a1.toNat)) (pc' := 67) dX10_ear_66 rfl (Nat.le_trans (kDoor k3).1 (Nat.le_add_right _ _)) (kDoor k3).2.2.2.2.2.1 c10 c11 (by decide) rfl rfl (fun r12 => ?_)
          exact u_iret dX10_ear_67 rfl h
        · have h := h.2.2.2 hc
          refine ⟨44, 68, by rw [hc]; rfl, by decide, ?_⟩
          refine u_aload (i := 4) (pc' := 70) dX10_ear_68 rfl rfl ?_
          refine u_getR (a := (o2 + 3)) (pc' := 73) dX10_ear_70 rfl fl_TuneDoor_240 rfl (kDoor k3).1 k3 (kDoor k3).2.2.2.1 ?_
          refine u_iload_n (i := 2) (pc' := 74) dX10_ear_73 rfl rfl rfl ?_
          obtain ⟨c13, c14, h⟩ := h
          refine u_iaload (k := a1.toNat) (z := (τ4 (o2 + 3) a1.toNat)) (pc' := 75) dX10_ear_74 rfl (Nat.le_trans (kDoor k3).1 (Nat.le_add_right _ _)) (kDoor k3).2.2.2.2.2.2 c13 c14 (by decide) rfl rfl (fun r15 => ?_)
          exact u_iret dX10_ear_75 rfl h
    · have h := h.2 (bI_0.mp hb)
      refine u_iconst (pc' := 22) dX10_ear_21 rfl ?_
      exact u_iret dX10_ear_22 rfl h
theorem mX10_ear {E : mm_Env} {d : Nat} {τ : mm_Mem} {Q : mm_Q0} {a0 : Int} {a1 : Int} {a2 : Int} (h : M0 E d qX10_doorAt [vR 2, vI a0] τ (fun v τ1 => ∃ o2 : Nat, v = some (vR o2) ∧ ((o2 = 0 → Q (some (vI (-1))) τ1) ∧ (¬ o2 = 0 → KD o2 = some (.inr 0) ∧ M0 E d qX0_hasEar [vR o2, vI a1] τ1 (fun v τ4 => ∃ b5 : Bool, v = some (vB b5) ∧ ((b5 = true → inR a2 ∧ ((a2 < 0 ∨ 2 < a2 → Q (some (vI (-1))) τ4) ∧ (a2 = 0 → 0 ≤ a1 ∧ a1 < 3 ∧ Q (some (vI (τ4 (o2 + 1) a1.toNat))) τ4) ∧ (a2 = 1 → 0 ≤ a1 ∧ a1 < 3 ∧ Q (some (vI (τ4 (o2 + 2) a1.toNat))) τ4) ∧ (a2 = 2 → 0 ≤ a1 ∧ a1 < 3 ∧ Q (some (vI (τ4 (o2 + 3) a1.toNat))) τ4))) ∧ (b5 = false → Q (some (vI (-1))) τ4))))))) : M0 E (d + 1) qX10_ear [vR 2, vI a0, vI a1, vI a2] τ Q := M0_of rfl (Nat.le_of_ble_eq_true rfl) [some (vR 2), some (vI a0), some (vI a1), some (vI a2), none] rfl (bX10_ear_0  h)
set_option maxRecDepth 20000 in
theorem bX10_come_0 {E : mm_Env} {d : Nat} {τ : mm_Mem} {Q : mm_Q0} {a0 : Int} (h : M0 E d qX10_personAt [vR 2, vI a0] τ (fun v τ1 => ∃ o2 : Nat, v = some (vR o2) ∧ ((o2 = 0 → inR ((τ1 139 2) + 1) ∧ Q (some (vI (-2))) (wr τ1 139 2 ((τ1 139 2) + 1))) ∧ (¬ o2 = 0 → KD o2 = some (.inr 3) ∧ (((τ1 o2 5) < 1000 → M0 E d qX9_tuneAt [vR 78, vI (τ1 o2 2), vI (τ1 o2 5)] τ1 (fun v τ9 => ∃ r10 : Int, v = some (vI r10) ∧ M0 E d qX10_whistleAtDoor [vR 2, vR o2, vI r10] τ9 (fun v τ11 => ∃ r12 : Int, v = some (vI r12) ∧ Q (some (vI r12)) τ11))) ∧ (¬ (τ1 o2 5) < 1000 → inR ((τ1 139 2) + 1) ∧ Q (some (vI (-2))) (wr τ1 139 2 ((τ1 139 2) + 1)))))))) : V0 E (d + 1) qX10_come 0 [some (vR 2), some (vI a0), none] [] τ Q := by
  refine u_aload_n (i := 0) (pc' := 1) dX10_come_0 rfl rfl rfl ?_
  refine u_iload_n (i := 1) (pc' := 2) dX10_come_1 rfl rfl rfl ?_
  refine u_invV (q' := qX10_personAt) (As := [vI a0]) (st := []) (pc' := 5) dX10_come_2 rfl gX10_personAt wm_837 rfl rfl (by decide) kd_2 wm_839 wp_44 rfl (Nat.le_of_ble_eq_true rfl) (M0.mono h (fun v τ1 h => ?_))
  obtain ⟨o2, rfl, h⟩ := h
  show V0 E (d + 1) qX10_come 5 [some (vR 2), some (vI a0), none] [vR o2] τ1 Q
  refine s_astore_n (i := 2) (ls' := [some (vR 2), some (vI a0), some (vR o2)]) (pc' := 6) dX10_come_5 rfl rfl (Nat.le_of_ble_eq_true rfl) rfl rfl ?_
  refine u_aload_n (i := 2) (pc' := 7) dX10_come_6 rfl rfl rfl ?_
  refine u_ifnull (tgt := 20) (pc' := 10) dX10_come_7 rfl (by decide) (fun hb => ?_) (fun hb => ?_)
  · have h := h.1 hb
    refine u_aload_n (i := 0) (pc' := 21) dX10_come_20 rfl rfl rfl ?_
    refine u_getR (a := 139) (pc' := 24) dX10_come_21 rfl fl_TuneDoor_79 rfl (by decide) kd_2 rfl ?_
    refine u_iconst (pc' := 25) dX10_come_24 rfl ?_
    refine u_dup2 (pc' := 26) dX10_come_25 rfl (fun _ hh => by cases hh) (fun _ hh => by cases hh) ?_
    refine u_iaload (k := 2) (z := (τ1 139 2)) (pc' := 27) dX10_come_26 rfl (by decide) kd_139 (by decide) (by decide) (by decide) rfl rfl (fun r3 => ?_)
    refine u_iconst (pc' := 28) dX10_come_27 rfl ?_
    refine u_iadd (pc' := 29) dX10_come_28 rfl ?_
    obtain ⟨c4, h⟩ := h
    refine u_iastore (k := 2) (pc' := 30) dX10_come_29 rfl (by decide) kd_139 (by decide) (by decide) (by decide) rfl c4 ?_
    refine u_bipush (pc' := 32) dX10_come_30 rfl (by decide) ?_
    exact u_iret dX10_come_32 rfl h
  · have h := h.2 hb
    refine u_aload_n (i := 2) (pc' := 11) dX10_come_10 rfl rfl rfl ?_
    obtain ⟨k5, h⟩ := h
    refine u_getI (z := (τ1 o2 5)) (pc' := 14) dX10_come_11 rfl fl_TuneDoor_196 rfl (by decide) (kPerson k5) k5 rfl (fun r6 => ?_)
    refine u_sipush (pc' := 17) dX10_come_14 rfl (by decide) ?_
    refine u_icmp_lt (tgt := 33) (pc' := 20) dX10_come_17 rfl (by decide) r6 ⟨by decide, by decide⟩ (fun hb => ?_) (fun hb => ?_)
    · have h := h.1 hb
      refine u_aload_n (i := 0) (pc' := 34) dX10_come_33 rfl rfl rfl ?_
      refine u_aload_n (i := 2) (pc' := 35) dX10_come_34 rfl rfl rfl ?_
      refine u_aload_n (i := 0) (pc' := 36) dX10_come_35 rfl rfl rfl ?_
      refine u_getR (a := 78) (pc' := 39) dX10_come_36 rfl fl_TuneDoor_42 rfl (by decide) kd_2 rfl ?_
      refine u_aload_n (i := 2) (pc' := 40) dX10_come_39 rfl rfl rfl ?_
      refine u_getI (z := (τ1 o2 2)) (pc' := 43) dX10_come_40 rfl fl_TuneDoor_193 rfl (by decide) (kPerson k5) k5 rfl (fun r7 => ?_)
      refine u_aload_n (i := 2) (pc' := 44) dX10_come_43 rfl rfl rfl ?_
      refine u_getI (z := (τ1 o2 5)) (pc' := 47) dX10_come_44 rfl fl_TuneDoor_196 rfl (by decide) (kPerson k5) k5 rfl (fun r8 => ?_)
      refine u_invV (q' := qX9_tuneAt) (As := [vI (τ1 o2 2), vI (τ1 o2 5)]) (st := [vR o2, vR 2]) (pc' := 50) dX10_come_47 rfl gX9_tuneAt wm_871 rfl rfl (by decide) kd_78 wm_872 wm_873 rfl (Nat.le_of_ble_eq_true rfl) (M0.mono h (fun v τ9 h => ?_))
      obtain ⟨r10, rfl, h⟩ := h
      show V0 E (d + 1) qX10_come 50 [some (vR 2), some (vI a0), some (vR o2)] [vI r10, vR o2, vR 2] τ9 Q
      refine u_invV (q' := qX10_whistleAtDoor) (As := [vR o2, vI r10]) (st := []) (pc' := 53) dX10_come_50 rfl gX10_whistleAtDoor wm_904 rfl rfl (by decide) kd_2 wm_906 wp_46 rfl (Nat.le_of_ble_eq_true rfl) (M0.mono h (fun v τ11 h => ?_))
      obtain ⟨r12, rfl, h⟩ := h
      show V0 E (d + 1) qX10_come 53 [some (vR 2), some (vI a0), some (vR o2)] [vI r12] τ11 Q
      exact u_iret dX10_come_53 rfl h
    · have h := h.2 hb
      refine u_aload_n (i := 0) (pc' := 21) dX10_come_20 rfl rfl rfl ?_
      refine u_getR (a := 139) (pc' := 24) dX10_come_21 rfl fl_TuneDoor_79 rfl (by decide) kd_2 rfl ?_
      refine u_iconst (pc' := 25) dX10_come_24 rfl ?_
      refine u_dup2 (pc' := 26) dX10_come_25 rfl (fun _ hh => by cases hh) (fun _ hh => by cases hh) ?_
      refine u_iaload (k := 2) (z := (τ1 139 2)) (pc' := 27) dX10_come_26 rfl (by decide) kd_139 (by decide) (by decide) (by decide) rfl rfl (fun r13 => ?_)
      refine u_iconst (pc' := 28) dX10_come_27 rfl ?_
      refine u_iadd (pc' := 29) dX10_come_28 rfl ?_
      obtain ⟨c14, h⟩ := h
      refine u_iastore (k := 2) (pc' := 30) dX10_come_29 rfl (by decide) kd_139 (by decide) (by decide) (by decide) rfl c14 ?_
      refine u_bipush (pc' := 32) dX10_come_30 rfl (by decide) ?_
      exact u_iret dX10_come_32 rfl h
theorem mX10_come {E : mm_Env} {d : Nat} {τ : mm_Mem} {Q : mm_Q0} {a0 : Int} (h : M0 E d qX10_personAt [vR 2, vI a0] τ (fun v τ1 => ∃ o2 : Nat, v = some (vR o2) ∧ ((o2 = 0 → inR ((τ1 139 2) + 1) ∧ Q (some (vI (-2))) (wr τ1 139 2 ((τ1 139 2) + 1))) ∧ (¬ o2 = 0 → KD o2 = some (.inr 3) ∧ (((τ1 o2 5) < 1000 → M0 E d qX9_tuneAt [vR 78, vI (τ1 o2 2), vI (τ1 o2 5)] τ1 (fun v τ9 => ∃ r10 : Int, v = some (vI r10) ∧ M0 E d qX10_whistleAtDoor [vR 2, vR o2, vI r10] τ9 (fun v τ11 => ∃ r12 : Int, v = some (vI r12) ∧ Q (some (vI r12)) τ11))) ∧ (¬ (τ1 o2 5) < 1000 → inR ((τ1 139 2) + 1) ∧ Q (some (vI (-2))) (wr τ1 139 2 ((τ1 139 2) + 1)))))))) : M0 E (d + 1) qX10_come [vR 2, vI a0] τ Q := M0_of rfl (Nat.le_of_ble_eq_true rfl) [some (vR 2), some (vI a0), none] rfl (bX10_come_0  h)
set_option maxRecDepth 20000 in
theorem bX10_whistleAtDoor_0 {E : mm_Env} {d : Nat} {τ : mm_Mem} {Q : mm_Q0} {a0 : Nat} {a1 : Int} (k_a0 : KD a0 = some (.inr 3)) (h : M0 E d qX10_doorAt [vR 2, vI (τ a0 1)] τ (fun v τ2 => ∃ o3 : Nat, v = some (vR o3) ∧ ((¬ o3 = 0 → KD o3 = some (.inr 0) ∧ M0 E d qX0_hear [vR o3, vR 78, vI a1] τ2 (fun v τ5 => ∃ r6 : Int, v = some (vI r6) ∧ V0 E (d + 1) qX10_whistleAtDoor 26 [none, some (vR a0), none, none, none] [vI r6] τ5 Q)) ∧ (o3 = 0 → V0 E (d + 1) qX10_whistleAtDoor 26 [none, some (vR a0), none, none, none] [vI (-1)] τ2 Q)))) : V0 E (d + 1) qX10_whistleAtDoor 0 [some (vR 2), some (vR a0), some (vI a1), none, none] [] τ Q := by
  refine u_aload_n (i := 0) (pc' := 1) dX10_whistleAtDoor_0 rfl rfl rfl ?_
  refine u_aload_n (i := 1) (pc' := 2) dX10_whistleAtDoor_1 rfl rfl rfl ?_
  refine u_getI (z := (τ a0 1)) (pc' := 5) dX10_whistleAtDoor_2 rfl fl_TuneDoor_190 rfl (by decide) (kPerson k_a0) k_a0 rfl (fun r1 => ?_)
  refine u_invV (q' := qX10_doorAt) (As := [vI (τ a0 1)]) (st := []) (pc' := 8) dX10_whistleAtDoor_5 rfl gX10_doorAt wm_833 rfl rfl (by decide) kd_2 wm_835 wp_43 rfl (Nat.le_of_ble_eq_true rfl) (M0.mono h (fun v τ2 h => ?_))
  obtain ⟨o3, rfl, h⟩ := h
  show V0 E (d + 1) qX10_whistleAtDoor 8 [some (vR 2), some (vR a0), some (vI a1), none, none] [vR o3] τ2 Q
  refine s_astore_n (i := 3) (ls' := [some (vR 2), some (vR a0), some (vI a1), some (vR o3), none]) (pc' := 9) dX10_whistleAtDoor_8 rfl rfl (Nat.le_of_ble_eq_true rfl) rfl rfl ?_
  refine u_aload_n (i := 3) (pc' := 10) dX10_whistleAtDoor_9 rfl rfl rfl ?_
  refine u_ifnonnull (tgt := 17) (pc' := 13) dX10_whistleAtDoor_10 rfl (by decide) (fun hb => ?_) (fun hb => ?_)
  · have h := h.1 hb
    refine u_aload_n (i := 3) (pc' := 18) dX10_whistleAtDoor_17 rfl rfl rfl ?_
    refine u_aload_n (i := 0) (pc' := 19) dX10_whistleAtDoor_18 rfl rfl rfl ?_
    refine u_getR (a := 78) (pc' := 22) dX10_whistleAtDoor_19 rfl fl_TuneDoor_42 rfl (by decide) kd_2 rfl ?_
    refine u_iload_n (i := 2) (pc' := 23) dX10_whistleAtDoor_22 rfl rfl rfl ?_
    obtain ⟨k4, h⟩ := h
    refine u_invV (q' := qX0_hear) (As := [vR 78, vI a1]) (st := []) (pc' := 26) dX10_whistleAtDoor_23 rfl gX0_hear wm_908 rfl rfl (kDoor k4).1 k4 wm_909 wm_910 rfl (Nat.le_of_ble_eq_true rfl) (M0.mono h (fun v τ5 h => ?_))
    obtain ⟨r6, rfl, h⟩ := h
    show V0 E (d + 1) qX10_whistleAtDoor 26 [some (vR 2), some (vR a0), some (vI a1), some (vR o3), none] [vI r6] τ5 Q
    exact u_less (ls' := [none, some (vR a0), none, none, none]) ⟨rfl, trivial⟩ h
  · have h := h.2 hb
    refine u_iconst (pc' := 14) dX10_whistleAtDoor_13 rfl ?_
    refine u_goto (tgt := 26) dX10_whistleAtDoor_14 (by decide) ?_
    exact u_less (ls' := [none, some (vR a0), none, none, none]) ⟨rfl, trivial⟩ h
theorem mX10_whistleAtDoor {E : mm_Env} {d : Nat} {τ : mm_Mem} {Q : mm_Q0} {a0 : Nat} {a1 : Int} (k_a0 : KD a0 = some (.inr 3)) (h : M0 E d qX10_doorAt [vR 2, vI (τ a0 1)] τ (fun v τ2 => ∃ o3 : Nat, v = some (vR o3) ∧ ((¬ o3 = 0 → KD o3 = some (.inr 0) ∧ M0 E d qX0_hear [vR o3, vR 78, vI a1] τ2 (fun v τ5 => ∃ r6 : Int, v = some (vI r6) ∧ V0 E (d + 1) qX10_whistleAtDoor 26 [none, some (vR a0), none, none, none] [vI r6] τ5 Q)) ∧ (o3 = 0 → V0 E (d + 1) qX10_whistleAtDoor 26 [none, some (vR a0), none, none, none] [vI (-1)] τ2 Q)))) : M0 E (d + 1) qX10_whistleAtDoor [vR 2, vR a0, vI a1] τ Q := M0_of rfl (Nat.le_of_ble_eq_true rfl) [some (vR 2), some (vR a0), some (vI a1), none, none] rfl (bX10_whistleAtDoor_0 k_a0 h)
set_option maxRecDepth 20000 in
theorem bX10_whistleAtDoor_26 {E : mm_Env} {d : Nat} {τ : mm_Mem} {Q : mm_Q0} {x1 : Nat} {y0 : Int} (k_x1 : KD x1 = some (.inr 3)) (h : inR ((τ x1 5) + 1) ∧ inR y0 ∧ ((y0 ≠ (-1) → inR ((τ x1 6) + 1) ∧ Q (some (vI y0)) (wr (wr τ x1 5 ((τ x1 5) + 1)) x1 6 ((τ x1 6) + 1))) ∧ (y0 = (-1) → inR ((τ x1 7) + 1) ∧ Q (some (vI y0)) (wr (wr τ x1 5 ((τ x1 5) + 1)) x1 7 ((τ x1 7) + 1))))) : V0 E (d + 1) qX10_whistleAtDoor 26 [none, some (vR x1), none, none, none] [vI y0] τ Q := by
  refine s_istore (i := 4) (ls' := [none, some (vR x1), none, none, some (vI y0)]) (pc' := 28) dX10_whistleAtDoor_26 rfl (Nat.le_of_ble_eq_true rfl) rfl rfl ?_
  refine u_aload_n (i := 1) (pc' := 29) dX10_whistleAtDoor_28 rfl rfl rfl ?_
  refine u_dup (pc' := 30) dX10_whistleAtDoor_29 rfl (fun _ hh => by cases hh) ?_
  refine u_getI (z := (τ x1 5)) (pc' := 33) dX10_whistleAtDoor_30 rfl fl_TuneDoor_196 rfl (by decide) (kPerson k_x1) k_x1 rfl (fun r1 => ?_)
  refine u_iconst (pc' := 34) dX10_whistleAtDoor_33 rfl ?_
  refine u_iadd (pc' := 35) dX10_whistleAtDoor_34 rfl ?_
  obtain ⟨c2, h⟩ := h
  refine u_putI (pc' := 38) dX10_whistleAtDoor_35 rfl fl_TuneDoor_196 rfl rfl (by decide) (kPerson k_x1) k_x1 c2 ?_
  refine u_iload (i := 4) (pc' := 40) dX10_whistleAtDoor_38 rfl rfl ?_
  refine u_iconst (pc' := 41) dX10_whistleAtDoor_40 rfl ?_
  obtain ⟨c3, h⟩ := h
  refine u_icmp_ne (tgt := 57) (pc' := 44) dX10_whistleAtDoor_41 rfl (by decide) c3 ⟨by decide, by decide⟩ (fun hb => ?_) (fun hb => ?_)
  · have h := h.1 hb
    refine u_aload_n (i := 1) (pc' := 58) dX10_whistleAtDoor_57 rfl rfl rfl ?_
    refine u_dup (pc' := 59) dX10_whistleAtDoor_58 rfl (fun _ hh => by cases hh) ?_
    refine u_getI (z := (τ x1 6)) (pc' := 62) dX10_whistleAtDoor_59 rfl fl_TuneDoor_205 rfl (by decide) (kPerson k_x1) k_x1 (by simp [wr]) (fun r4 => ?_)
    refine u_iconst (pc' := 63) dX10_whistleAtDoor_62 rfl ?_
    refine u_iadd (pc' := 64) dX10_whistleAtDoor_63 rfl ?_
    obtain ⟨c5, h⟩ := h
    refine u_putI (pc' := 67) dX10_whistleAtDoor_64 rfl fl_TuneDoor_205 rfl rfl (by decide) (kPerson k_x1) k_x1 c5 ?_
    refine u_iload (i := 4) (pc' := 69) dX10_whistleAtDoor_67 rfl rfl ?_
    exact u_iret dX10_whistleAtDoor_69 rfl h
  · have h := h.2 hb
    refine u_aload_n (i := 1) (pc' := 45) dX10_whistleAtDoor_44 rfl rfl rfl ?_
    refine u_dup (pc' := 46) dX10_whistleAtDoor_45 rfl (fun _ hh => by cases hh) ?_
    refine u_getI (z := (τ x1 7)) (pc' := 49) dX10_whistleAtDoor_46 rfl fl_TuneDoor_208 rfl (by decide) (kPerson k_x1) k_x1 (by simp [wr]) (fun r6 => ?_)
    refine u_iconst (pc' := 50) dX10_whistleAtDoor_49 rfl ?_
    refine u_iadd (pc' := 51) dX10_whistleAtDoor_50 rfl ?_
    obtain ⟨c7, h⟩ := h
    refine u_putI (pc' := 54) dX10_whistleAtDoor_51 rfl fl_TuneDoor_208 rfl rfl (by decide) (kPerson k_x1) k_x1 c7 ?_
    refine u_goto (tgt := 67) dX10_whistleAtDoor_54 (by decide) ?_
    refine u_iload (i := 4) (pc' := 69) dX10_whistleAtDoor_67 rfl rfl ?_
    exact u_iret dX10_whistleAtDoor_69 rfl h
set_option maxRecDepth 20000 in
theorem bX10_slip_0 {E : mm_Env} {d : Nat} {τ : mm_Mem} {Q : mm_Q0} {a0 : Int} {a1 : Int} {a2 : Int} (h : M0 E d qX10_personAt [vR 2, vI a0] τ (fun v τ1 => ∃ o2 : Nat, v = some (vR o2) ∧ ((o2 = 0 → V0 E (d + 1) qX10_slip 83 [some (vR 2), none, some (vI a1), some (vI a2), some (vR o2), none] [vI 0] τ1 Q) ∧ (¬ o2 = 0 → KD o2 = some (.inr 3) ∧ ((1000 ≤ (τ1 o2 5) → V0 E (d + 1) qX10_slip 83 [some (vR 2), none, some (vI a1), some (vI a2), some (vR o2), none] [vI 0] τ1 Q) ∧ (¬ 1000 ≤ (τ1 o2 5) → inR a1 ∧ ((a1 < 0 → V0 E (d + 1) qX10_slip 83 [some (vR 2), none, some (vI a1), some (vI a2), some (vR o2), none] [vI 0] τ1 Q) ∧ (¬ a1 < 0 → ∃ o6 : Nat, (τ1 2 2) = (o6 : Int) ∧ KD o6 = some (.inr 2) ∧ (((τ1 o6 1) ≤ a1 → V0 E (d + 1) qX10_slip 83 [some (vR 2), none, some (vI a1), some (vI a2), some (vR o2), none] [vI 0] τ1 Q) ∧ (¬ (τ1 o6 1) ≤ a1 → inR a2 ∧ ((a2 < 0 → V0 E (d + 1) qX10_slip 83 [some (vR 2), none, some (vI a1), some (vI a2), some (vR o2), none] [vI 0] τ1 Q) ∧ (¬ a2 < 0 → ∃ o11 : Nat, (τ1 2 2) = (o11 : Int) ∧ KD o11 = some (.inr 2) ∧ (((τ1 o11 0) ≤ a2 → V0 E (d + 1) qX10_slip 83 [some (vR 2), none, some (vI a1), some (vI a2), some (vR o2), none] [vI 0] τ1 Q) ∧ (¬ (τ1 o11 0) ≤ a2 → M0 E d qX9_tuneAt [vR 78, vI (τ1 o2 2), vI (τ1 o2 5)] τ1 (fun v τ17 => ∃ r18 : Int, v = some (vI r18) ∧ M0 E d qX9_noteIn [vI r18, vI a1] τ17 (fun v τ19 => ∃ r20 : Int, v = some (vI r20) ∧ inR r20 ∧ ((r20 = a2 → V0 E (d + 1) qX10_slip 83 [some (vR 2), none, some (vI a1), some (vI a2), some (vR o2), none] [vI 0] τ19 Q) ∧ (¬ r20 = a2 → V0 E (d + 1) qX10_slip 83 [some (vR 2), none, some (vI a1), some (vI a2), some (vR o2), none] [vI 1] τ19 Q)))))))))))))))))) : V0 E (d + 1) qX10_slip 0 [some (vR 2), some (vI a0), some (vI a1), some (vI a2), none, none] [] τ Q := by
  refine u_aload_n (i := 0) (pc' := 1) dX10_slip_0 rfl rfl rfl ?_
  refine u_iload_n (i := 1) (pc' := 2) dX10_slip_1 rfl rfl rfl ?_
  refine u_invV (q' := qX10_personAt) (As := [vI a0]) (st := []) (pc' := 5) dX10_slip_2 rfl gX10_personAt wm_837 rfl rfl (by decide) kd_2 wm_839 wp_44 rfl (Nat.le_of_ble_eq_true rfl) (M0.mono h (fun v τ1 h => ?_))
  obtain ⟨o2, rfl, h⟩ := h
  show V0 E (d + 1) qX10_slip 5 [some (vR 2), some (vI a0), some (vI a1), some (vI a2), none, none] [vR o2] τ1 Q
  refine s_astore (i := 4) (ls' := [some (vR 2), some (vI a0), some (vI a1), some (vI a2), some (vR o2), none]) (pc' := 7) dX10_slip_5 rfl (Nat.le_of_ble_eq_true rfl) rfl rfl ?_
  refine u_aload (i := 4) (pc' := 9) dX10_slip_7 rfl rfl ?_
  refine u_ifnull (tgt := 82) (pc' := 12) dX10_slip_9 rfl (by decide) (fun hb => ?_) (fun hb => ?_)
  · have h := h.1 hb
    refine u_iconst (pc' := 83) dX10_slip_82 rfl ?_
    exact u_less (ls' := [some (vR 2), none, some (vI a1), some (vI a2), some (vR o2), none]) ⟨rfl, ⟨rfl, ⟨rfl, ⟨rfl, trivial⟩⟩⟩⟩ h
  · have h := h.2 hb
    refine u_aload (i := 4) (pc' := 14) dX10_slip_12 rfl rfl ?_
    obtain ⟨k3, h⟩ := h
    refine u_getI (z := (τ1 o2 5)) (pc' := 17) dX10_slip_14 rfl fl_TuneDoor_196 rfl (by decide) (kPerson k3) k3 rfl (fun r4 => ?_)
    refine u_sipush (pc' := 20) dX10_slip_17 rfl (by decide) ?_
    refine u_icmp_ge (tgt := 82) (pc' := 23) dX10_slip_20 rfl (by decide) r4 ⟨by decide, by decide⟩ (fun hb => ?_) (fun hb => ?_)
    · have h := h.1 hb
      refine u_iconst (pc' := 83) dX10_slip_82 rfl ?_
      exact u_less (ls' := [some (vR 2), none, some (vI a1), some (vI a2), some (vR o2), none]) ⟨rfl, ⟨rfl, ⟨rfl, ⟨rfl, trivial⟩⟩⟩⟩ h
    · have h := h.2 hb
      refine u_iload_n (i := 2) (pc' := 24) dX10_slip_23 rfl rfl rfl ?_
      obtain ⟨c5, h⟩ := h
      refine u_if_lt (tgt := 82) (pc' := 27) dX10_slip_24 rfl (by decide) c5 (fun hb => ?_) (fun hb => ?_)
      · have h := h.1 hb
        refine u_iconst (pc' := 83) dX10_slip_82 rfl ?_
        exact u_less (ls' := [some (vR 2), none, some (vI a1), some (vI a2), some (vR o2), none]) ⟨rfl, ⟨rfl, ⟨rfl, ⟨rfl, trivial⟩⟩⟩⟩ h
      · have h := h.2 hb
        refine u_iload_n (i := 2) (pc' := 28) dX10_slip_27 rfl rfl rfl ?_
        refine u_aload_n (i := 0) (pc' := 29) dX10_slip_28 rfl rfl rfl ?_
        obtain ⟨o6, z7, k8, h⟩ := h
        refine u_getD (a := o6) (pc' := 32) dX10_slip_29 rfl fl_TuneDoor_16 rfl (by decide) kd_2 rfl (z7) ?_
        refine u_getI (z := (τ1 o6 1)) (pc' := 35) dX10_slip_32 rfl fl_TuneDoor_119 rfl (by decide) (kHouse k8).1 k8 rfl (fun r9 => ?_)
        refine u_icmp_ge (tgt := 82) (pc' := 38) dX10_slip_35 rfl (by decide) c5 r9 (fun hb => ?_) (fun hb => ?_)
        · have h := h.1 hb
          refine u_iconst (pc' := 83) dX10_slip_82 rfl ?_
          exact u_less (ls' := [some (vR 2), none, some (vI a1), some (vI a2), some (vR o2), none]) ⟨rfl, ⟨rfl, ⟨rfl, ⟨rfl, trivial⟩⟩⟩⟩ h
        · have h := h.2 hb
          refine u_iload_n (i := 3) (pc' := 39) dX10_slip_38 rfl rfl rfl ?_
          obtain ⟨c10, h⟩ := h
          refine u_if_lt (tgt := 82) (pc' := 42) dX10_slip_39 rfl (by decide) c10 (fun hb => ?_) (fun hb => ?_)
          · have h := h.1 hb
            refine u_iconst (pc' := 83) dX10_slip_82 rfl ?_
            exact u_less (ls' := [some (vR 2), none, some (vI a1), some (vI a2), some (vR o2), none]) ⟨rfl, ⟨rfl, ⟨rfl, ⟨rfl, trivial⟩⟩⟩⟩ h
          · have h := h.2 hb
            refine u_iload_n (i := 3) (pc' := 43) dX10_slip_42 rfl rfl rfl ?_
            refine u_aload_n (i := 0) (pc' := 44) dX10_slip_43 rfl rfl rfl ?_
            obtain ⟨o11, z12, k13, h⟩ := h
            refine u_getD (a := o11) (pc' := 47) dX10_slip_44 rfl fl_TuneDoor_16 rfl (by decide) kd_2 rfl (z12) ?_
            refine u_getI (z := (τ1 o11 0)) (pc' := 50) dX10_slip_47 rfl fl_TuneDoor_116 rfl (by decide) (kHouse k13).1 k13 rfl (fun r14 => ?_)
            refine u_icmp_ge (tgt := 82) (pc' := 53) dX10_slip_50 rfl (by decide) c10 r14 (fun hb => ?_) (fun hb => ?_)
            · have h := h.1 hb
              refine u_iconst (pc' := 83) dX10_slip_82 rfl ?_
              exact u_less (ls' := [some (vR 2), none, some (vI a1), some (vI a2), some (vR o2), none]) ⟨rfl, ⟨rfl, ⟨rfl, ⟨rfl, trivial⟩⟩⟩⟩ h
            · have h := h.2 hb
              refine u_aload_n (i := 0) (pc' := 54) dX10_slip_53 rfl rfl rfl ?_
              refine u_getR (a := 78) (pc' := 57) dX10_slip_54 rfl fl_TuneDoor_42 rfl (by decide) kd_2 rfl ?_
              refine u_aload (i := 4) (pc' := 59) dX10_slip_57 rfl rfl ?_
              refine u_getI (z := (τ1 o2 2)) (pc' := 62) dX10_slip_59 rfl fl_TuneDoor_193 rfl (by decide) (kPerson k3) k3 rfl (fun r15 => ?_)
              refine u_aload (i := 4) (pc' := 64) dX10_slip_62 rfl rfl ?_
              refine u_getI (z := (τ1 o2 5)) (pc' := 67) dX10_slip_64 rfl fl_TuneDoor_196 rfl (by decide) (kPerson k3) k3 rfl (fun r16 => ?_)
              refine u_invV (q' := qX9_tuneAt) (As := [vI (τ1 o2 2), vI (τ1 o2 5)]) (st := []) (pc' := 70) dX10_slip_67 rfl gX9_tuneAt wm_871 rfl rfl (by decide) kd_78 wm_872 wm_873 rfl (Nat.le_of_ble_eq_true rfl) (M0.mono h (fun v τ17 h => ?_))
              obtain ⟨r18, rfl, h⟩ := h
              show V0 E (d + 1) qX10_slip 70 [some (vR 2), some (vI a0), some (vI a1), some (vI a2), some (vR o2), none] [vI r18] τ17 Q
              refine u_iload_n (i := 2) (pc' := 71) dX10_slip_70 rfl rfl rfl ?_
              refine u_invS (q' := qX9_noteIn) (As := [vI r18, vI a1]) (st := []) (pc' := 74) dX10_slip_71 rfl gX9_noteIn wm_875 wm_744 rfl (Nat.le_of_ble_eq_true rfl) (M0.mono h (fun v τ19 h => ?_))
              obtain ⟨r20, rfl, h⟩ := h
              show V0 E (d + 1) qX10_slip 74 [some (vR 2), some (vI a0), some (vI a1), some (vI a2), some (vR o2), none] [vI r20] τ19 Q
              refine u_iload_n (i := 3) (pc' := 75) dX10_slip_74 rfl rfl rfl ?_
              obtain ⟨c21, h⟩ := h
              refine u_icmp_eq (tgt := 82) (pc' := 78) dX10_slip_75 rfl (by decide) c21 c10 (fun hb => ?_) (fun hb => ?_)
              · have h := h.1 hb
                refine u_iconst (pc' := 83) dX10_slip_82 rfl ?_
                exact u_less (ls' := [some (vR 2), none, some (vI a1), some (vI a2), some (vR o2), none]) ⟨rfl, ⟨rfl, ⟨rfl, ⟨rfl, trivial⟩⟩⟩⟩ h
              · have h := h.2 hb
                refine u_iconst (pc' := 79) dX10_slip_78 rfl ?_
                refine u_goto (tgt := 83) dX10_slip_79 (by decide) ?_
                exact u_less (ls' := [some (vR 2), none, some (vI a1), some (vI a2), some (vR o2), none]) ⟨rfl, ⟨rfl, ⟨rfl, ⟨rfl, trivial⟩⟩⟩⟩ h
theorem mX10_slip {E : mm_Env} {d : Nat} {τ : mm_Mem} {Q : mm_Q0} {a0 : Int} {a1 : Int} {a2 : Int} (h : M0 E d qX10_personAt [vR 2, vI a0] τ (fun v τ1 => ∃ o2 : Nat, v = some (vR o2) ∧ ((o2 = 0 → V0 E (d + 1) qX10_slip 83 [some (vR 2), none, some (vI a1), some (vI a2), some (vR o2), none] [vI 0] τ1 Q) ∧ (¬ o2 = 0 → KD o2 = some (.inr 3) ∧ ((1000 ≤ (τ1 o2 5) → V0 E (d + 1) qX10_slip 83 [some (vR 2), none, some (vI a1), some (vI a2), some (vR o2), none] [vI 0] τ1 Q) ∧ (¬ 1000 ≤ (τ1 o2 5) → inR a1 ∧ ((a1 < 0 → V0 E (d + 1) qX10_slip 83 [some (vR 2), none, some (vI a1), some (vI a2), some (vR o2), none] [vI 0] τ1 Q) ∧ (¬ a1 < 0 → ∃ o6 : Nat, (τ1 2 2) = (o6 : Int) ∧ KD o6 = some (.inr 2) ∧ (((τ1 o6 1) ≤ a1 → V0 E (d + 1) qX10_slip 83 [some (vR 2), none, some (vI a1), some (vI a2), some (vR o2), none] [vI 0] τ1 Q) ∧ (¬ (τ1 o6 1) ≤ a1 → inR a2 ∧ ((a2 < 0 → V0 E (d + 1) qX10_slip 83 [some (vR 2), none, some (vI a1), some (vI a2), some (vR o2), none] [vI 0] τ1 Q) ∧ (¬ a2 < 0 → ∃ o11 : Nat, (τ1 2 2) = (o11 : Int) ∧ KD o11 = some (.inr 2) ∧ (((τ1 o11 0) ≤ a2 → V0 E (d + 1) qX10_slip 83 [some (vR 2), none, some (vI a1), some (vI a2), some (vR o2), none] [vI 0] τ1 Q) ∧ (¬ (τ1 o11 0) ≤ a2 → M0 E d qX9_tuneAt [vR 78, vI (τ1 o2 2), vI (τ1 o2 5)] τ1 (fun v τ17 => ∃ r18 : Int, v = some (vI r18) ∧ M0 E d qX9_noteIn [vI r18, vI a1] τ17 (fun v τ19 => ∃ r20 : Int, v = some (vI r20) ∧ inR r20 ∧ ((r20 = a2 → V0 E (d + 1) qX10_slip 83 [some (vR 2), none, some (vI a1), some (vI a2), some (vR o2), none] [vI 0] τ19 Q) ∧ (¬ r20 = a2 → V0 E (d + 1) qX10_slip 83 [some (vR 2), none, some (vI a1), some (vI a2), some (vR o2), none] [vI 1] τ19 Q)))))))))))))))))) : M0 E (d + 1) qX10_slip [vR 2, vI a0, vI a1, vI a2] τ Q := M0_of rfl (Nat.le_of_ble_eq_true rfl) [some (vR 2), some (vI a0), some (vI a1), some (vI a2), none, none] rfl (bX10_slip_0  h)
set_option maxRecDepth 20000 in
theorem bX10_slip_83 {E : mm_Env} {d : Nat} {τ : mm_Mem} {Q : mm_Q0} {x2 : Int} {x3 : Int} {x4 : Nat} {y0 : Int} (h : inR y0 ∧ ((y0 ≠ 0 → KD x4 = some (.inr 3) ∧ M0 E d qX9_tuneAt [vR 78, vI (τ x4 2), vI (τ x4 5)] τ (fun v τ5 => ∃ r6 : Int, v = some (vI r6) ∧ M0 E d qX9_withNote [vI r6, vI x2, vI x3] τ5 (fun v τ7 => ∃ r8 : Int, v = some (vI r8) ∧ M0 E d qX10_whistleAtDoor [vR 2, vR x4, vI r8] τ7 (fun v τ9 => ∃ r10 : Int, v = some (vI r10) ∧ Q (some (vI r10)) τ9)))) ∧ (y0 = 0 → inR ((τ 139 2) + 1) ∧ Q (some (vI (-2))) (wr τ 139 2 ((τ 139 2) + 1))))) : V0 E (d + 1) qX10_slip 83 [some (vR 2), none, some (vI x2), some (vI x3), some (vR x4), none] [vI y0] τ Q := by
  refine s_istore (i := 5) (ls' := [some (vR 2), none, some (vI x2), some (vI x3), some (vR x4), some (vI y0)]) (pc' := 85) dX10_slip_83 rfl (Nat.le_of_ble_eq_true rfl) rfl rfl ?_
  refine u_iload (i := 5) (pc' := 87) dX10_slip_85 rfl rfl ?_
  obtain ⟨c1, h⟩ := h
  refine u_if_ne (tgt := 103) (pc' := 90) dX10_slip_87 rfl (by decide) c1 (fun hb => ?_) (fun hb => ?_)
  · have h := h.1 hb
    refine u_aload_n (i := 0) (pc' := 104) dX10_slip_103 rfl rfl rfl ?_
    refine u_aload (i := 4) (pc' := 106) dX10_slip_104 rfl rfl ?_
    refine u_aload_n (i := 0) (pc' := 107) dX10_slip_106 rfl rfl rfl ?_
    refine u_getR (a := 78) (pc' := 110) dX10_slip_107 rfl fl_TuneDoor_42 rfl (by decide) kd_2 rfl ?_
    refine u_aload (i := 4) (pc' := 112) dX10_slip_110 rfl rfl ?_
    obtain ⟨k2, h⟩ := h
    refine u_getI (z := (τ x4 2)) (pc' := 115) dX10_slip_112 rfl fl_TuneDoor_193 rfl (by decide) (kPerson k2) k2 rfl (fun r3 => ?_)
    refine u_aload (i := 4) (pc' := 117) dX10_slip_115 rfl rfl ?_
    refine u_getI (z := (τ x4 5)) (pc' := 120) dX10_slip_117 rfl fl_TuneDoor_196 rfl (by decide) (kPerson k2) k2 rfl (fun r4 => ?_)
    refine u_invV (q' := qX9_tuneAt) (As := [vI (τ x4 2), vI (τ x4 5)]) (st := [vR x4, vR 2]) (pc' := 123) dX10_slip_120 rfl gX9_tuneAt wm_871 rfl rfl (by decide) kd_78 wm_872 wm_873 rfl (Nat.le_of_ble_eq_true rfl) (M0.mono h (fun v τ5 h => ?_))
    obtain ⟨r6, rfl, h⟩ := h
    show V0 E (d + 1) qX10_slip 123 [some (vR 2), none, some (vI x2), some (vI x3), some (vR x4), some (vI y0)] [vI r6, vR x4, vR 2] τ5 Q
    refine u_iload_n (i := 2) (pc' := 124) dX10_slip_123 rfl rfl rfl ?_
    refine u_iload_n (i := 3) (pc' := 125) dX10_slip_124 rfl rfl rfl ?_
    refine u_invS (q' := qX9_withNote) (As := [vI r6, vI x2, vI x3]) (st := [vR x4, vR 2]) (pc' := 128) dX10_slip_125 rfl gX9_withNote wm_944 wm_630 rfl (Nat.le_of_ble_eq_true rfl) (M0.mono h (fun v τ7 h => ?_))
    obtain ⟨r8, rfl, h⟩ := h
    show V0 E (d + 1) qX10_slip 128 [some (vR 2), none, some (vI x2), some (vI x3), some (vR x4), some (vI y0)] [vI r8, vR x4, vR 2] τ7 Q
    refine u_invV (q' := qX10_whistleAtDoor) (As := [vR x4, vI r8]) (st := []) (pc' := 131) dX10_slip_128 rfl gX10_whistleAtDoor wm_904 rfl rfl (by decide) kd_2 wm_906 wp_46 rfl (Nat.le_of_ble_eq_true rfl) (M0.mono h (fun v τ9 h => ?_))
    obtain ⟨r10, rfl, h⟩ := h
    show V0 E (d + 1) qX10_slip 131 [some (vR 2), none, some (vI x2), some (vI x3), some (vR x4), some (vI y0)] [vI r10] τ9 Q
    exact u_iret dX10_slip_131 rfl h
  · have h := h.2 hb
    refine u_aload_n (i := 0) (pc' := 91) dX10_slip_90 rfl rfl rfl ?_
    refine u_getR (a := 139) (pc' := 94) dX10_slip_91 rfl fl_TuneDoor_79 rfl (by decide) kd_2 rfl ?_
    refine u_iconst (pc' := 95) dX10_slip_94 rfl ?_
    refine u_dup2 (pc' := 96) dX10_slip_95 rfl (fun _ hh => by cases hh) (fun _ hh => by cases hh) ?_
    refine u_iaload (k := 2) (z := (τ 139 2)) (pc' := 97) dX10_slip_96 rfl (by decide) kd_139 (by decide) (by decide) (by decide) rfl rfl (fun r11 => ?_)
    refine u_iconst (pc' := 98) dX10_slip_97 rfl ?_
    refine u_iadd (pc' := 99) dX10_slip_98 rfl ?_
    obtain ⟨c12, h⟩ := h
    refine u_iastore (k := 2) (pc' := 100) dX10_slip_99 rfl (by decide) kd_139 (by decide) (by decide) (by decide) rfl c12 ?_
    refine u_bipush (pc' := 102) dX10_slip_100 rfl (by decide) ?_
    exact u_iret dX10_slip_102 rfl h
set_option maxRecDepth 20000 in
theorem bX10_waste_0 {E : mm_Env} {d : Nat} {τ : mm_Mem} {Q : mm_Q0} {a0 : Int} {a1 : Int} (h : M0 E d qX10_personAt [vR 2, vI a0] τ (fun v τ1 => ∃ o2 : Nat, v = some (vR o2) ∧ ((o2 = 0 → inR ((τ1 139 2) + 1) ∧ Q (some (vI (-1))) (wr τ1 139 2 ((τ1 139 2) + 1))) ∧ (¬ o2 = 0 → inR a1 ∧ ((a1 < 1 → inR ((τ1 139 2) + 1) ∧ Q (some (vI (-1))) (wr τ1 139 2 ((τ1 139 2) + 1))) ∧ (¬ a1 < 1 → ((99 < a1 → inR ((τ1 139 2) + 1) ∧ Q (some (vI (-1))) (wr τ1 139 2 ((τ1 139 2) + 1))) ∧ (¬ 99 < a1 → KD o2 = some (.inr 3) ∧ inR ((τ1 o2 5) + a1) ∧ ((((τ1 o2 5) + a1) ≤ 1000 → Q (some (vI ((τ1 o2 5) + a1))) (wr τ1 o2 5 ((τ1 o2 5) + a1))) ∧ (¬ ((τ1 o2 5) + a1) ≤ 1000 → inR ((τ1 139 2) + 1) ∧ Q (some (vI (-1))) (wr τ1 139 2 ((τ1 139 2) + 1)))))))))))) : V0 E (d + 1) qX10_waste 0 [some (vR 2), some (vI a0), some (vI a1), none] [] τ Q := by
  refine u_aload_n (i := 0) (pc' := 1) dX10_waste_0 rfl rfl rfl ?_
  refine u_iload_n (i := 1) (pc' := 2) dX10_waste_1 rfl rfl rfl ?_
  refine u_invV (q' := qX10_personAt) (As := [vI a0]) (st := []) (pc' := 5) dX10_waste_2 rfl gX10_personAt wm_837 rfl rfl (by decide) kd_2 wm_839 wp_44 rfl (Nat.le_of_ble_eq_true rfl) (M0.mono h (fun v τ1 h => ?_))
  obtain ⟨o2, rfl, h⟩ := h
  show V0 E (d + 1) qX10_waste 5 [some (vR 2), some (vI a0), some (vI a1), none] [vR o2] τ1 Q
  refine s_astore_n (i := 3) (ls' := [some (vR 2), some (vI a0), some (vI a1), some (vR o2)]) (pc' := 6) dX10_waste_5 rfl rfl (Nat.le_of_ble_eq_true rfl) rfl rfl ?_
  refine u_aload_n (i := 3) (pc' := 7) dX10_waste_6 rfl rfl rfl ?_
  refine u_ifnull (tgt := 33) (pc' := 10) dX10_waste_7 rfl (by decide) (fun hb => ?_) (fun hb => ?_)
  · have h := h.1 hb
    refine u_aload_n (i := 0) (pc' := 34) dX10_waste_33 rfl rfl rfl ?_
    refine u_getR (a := 139) (pc' := 37) dX10_waste_34 rfl fl_TuneDoor_79 rfl (by decide) kd_2 rfl ?_
    refine u_iconst (pc' := 38) dX10_waste_37 rfl ?_
    refine u_dup2 (pc' := 39) dX10_waste_38 rfl (fun _ hh => by cases hh) (fun _ hh => by cases hh) ?_
    refine u_iaload (k := 2) (z := (τ1 139 2)) (pc' := 40) dX10_waste_39 rfl (by decide) kd_139 (by decide) (by decide) (by decide) rfl rfl (fun r3 => ?_)
    refine u_iconst (pc' := 41) dX10_waste_40 rfl ?_
    refine u_iadd (pc' := 42) dX10_waste_41 rfl ?_
    obtain ⟨c4, h⟩ := h
    refine u_iastore (k := 2) (pc' := 43) dX10_waste_42 rfl (by decide) kd_139 (by decide) (by decide) (by decide) rfl c4 ?_
    refine u_iconst (pc' := 44) dX10_waste_43 rfl ?_
    exact u_iret dX10_waste_44 rfl h
  · have h := h.2 hb
    refine u_iload_n (i := 2) (pc' := 11) dX10_waste_10 rfl rfl rfl ?_
    refine u_iconst (pc' := 12) dX10_waste_11 rfl ?_
    obtain ⟨c5, h⟩ := h
    refine u_icmp_lt (tgt := 33) (pc' := 15) dX10_waste_12 rfl (by decide) c5 ⟨by decide, by decide⟩ (fun hb => ?_) (fun hb => ?_)
    · have h := h.1 hb
      refine u_aload_n (i := 0) (pc' := 34) dX10_waste_33 rfl rfl rfl ?_
      refine u_getR (a := 139) (pc' := 37) dX10_waste_34 rfl fl_TuneDoor_79 rfl (by decide) kd_2 rfl ?_
      refine u_iconst (pc' := 38) dX10_waste_37 rfl ?_
      refine u_dup2 (pc' := 39) dX10_waste_38 rfl (fun _ hh => by cases hh) (fun _ hh => by cases hh) ?_
      refine u_iaload (k := 2) (z := (τ1 139 2)) (pc' := 40) dX10_waste_39 rfl (by decide) kd_139 (by decide) (by decide) (by decide) rfl rfl (fun r6 => ?_)
      refine u_iconst (pc' := 41) dX10_waste_40 rfl ?_
      refine u_iadd (pc' := 42) dX10_waste_41 rfl ?_
      obtain ⟨c7, h⟩ := h
      refine u_iastore (k := 2) (pc' := 43) dX10_waste_42 rfl (by decide) kd_139 (by decide) (by decide) (by decide) rfl c7 ?_
      refine u_iconst (pc' := 44) dX10_waste_43 rfl ?_
      exact u_iret dX10_waste_44 rfl h
    · have h := h.2 hb
      refine u_iload_n (i := 2) (pc' := 16) dX10_waste_15 rfl rfl rfl ?_
      refine u_bipush (pc' := 18) dX10_waste_16 rfl (by decide) ?_
      refine u_icmp_gt (tgt := 33) (pc' := 21) dX10_waste_18 rfl (by decide) c5 ⟨by decide, by decide⟩ (fun hb => ?_) (fun hb => ?_)
      · have h := h.1 hb
        refine u_aload_n (i := 0) (pc' := 34) dX10_waste_33 rfl rfl rfl ?_
        refine u_getR (a := 139) (pc' := 37) dX10_waste_34 rfl fl_TuneDoor_79 rfl (by decide) kd_2 rfl ?_
        refine u_iconst (pc' := 38) dX10_waste_37 rfl ?_
        refine u_dup2 (pc' := 39) dX10_waste_38 rfl (fun _ hh => by cases hh) (fun _ hh => by cases hh) ?_
        refine u_iaload (k := 2) (z := (τ1 139 2)) (pc' := 40) dX10_waste_39 rfl (by decide) kd_139 (by decide) (by decide) (by decide) rfl rfl (fun r8 => ?_)
        refine u_iconst (pc' := 41) dX10_waste_40 rfl ?_
        refine u_iadd (pc' := 42) dX10_waste_41 rfl ?_
        obtain ⟨c9, h⟩ := h
        refine u_iastore (k := 2) (pc' := 43) dX10_waste_42 rfl (by decide) kd_139 (by decide) (by decide) (by decide) rfl c9 ?_
        refine u_iconst (pc' := 44) dX10_waste_43 rfl ?_
        exact u_iret dX10_waste_44 rfl h
      · have h := h.2 hb
        refine u_aload_n (i := 3) (pc' := 22) dX10_waste_21 rfl rfl rfl ?_
        obtain ⟨k10, h⟩ := h
        refine u_getI (z := (τ1 o2 5)) (pc' := 25) dX10_waste_22 rfl fl_TuneDoor_196 rfl (by decide) (kPerson k10) k10 rfl (fun r11 => ?_)
        refine u_iload_n (i := 2) (pc' := 26) dX10_waste_25 rfl rfl rfl ?_
        refine u_iadd (pc' := 27) dX10_waste_26 rfl ?_
        refine u_sipush (pc' := 30) dX10_waste_27 rfl (by decide) ?_
        obtain ⟨c12, h⟩ := h
        refine u_icmp_le (tgt := 45) (pc' := 33) dX10_waste_30 rfl (by decide) c12 ⟨by decide, by decide⟩ (fun hb => ?_) (fun hb => ?_)
        · have h := h.1 hb
          refine u_aload_n (i := 3) (pc' := 46) dX10_waste_45 rfl rfl rfl ?_
          refine u_dup (pc' := 47) dX10_waste_46 rfl (fun _ hh => by cases hh) ?_
          refine u_getI (z := (τ1 o2 5)) (pc' := 50) dX10_waste_47 rfl fl_TuneDoor_196 rfl (by decide) (kPerson k10) k10 rfl (fun r13 => ?_)
          refine u_iload_n (i := 2) (pc' := 51) dX10_waste_50 rfl rfl rfl ?_
          refine u_iadd (pc' := 52) dX10_waste_51 rfl ?_
          refine u_putI (pc' := 55) dX10_waste_52 rfl fl_TuneDoor_196 rfl rfl (by decide) (kPerson k10) k10 c12 ?_
          refine u_aload_n (i := 3) (pc' := 56) dX10_waste_55 rfl rfl rfl ?_
          refine u_getI (z := ((τ1 o2 5) + a1)) (pc' := 59) dX10_waste_56 rfl fl_TuneDoor_196 rfl (by decide) (kPerson k10) k10 (by simp [wr]) (fun r14 => ?_)
          exact u_iret dX10_waste_59 rfl h
        · have h := h.2 hb
          refine u_aload_n (i := 0) (pc' := 34) dX10_waste_33 rfl rfl rfl ?_
          refine u_getR (a := 139) (pc' := 37) dX10_waste_34 rfl fl_TuneDoor_79 rfl (by decide) kd_2 rfl ?_
          refine u_iconst (pc' := 38) dX10_waste_37 rfl ?_
          refine u_dup2 (pc' := 39) dX10_waste_38 rfl (fun _ hh => by cases hh) (fun _ hh => by cases hh) ?_
          refine u_iaload (k := 2) (z := (τ1 139 2)) (pc' := 40) dX10_waste_39 rfl (by decide) kd_139 (by decide) (by decide) (by decide) rfl rfl (fun r15 => ?_)
          refine u_iconst (pc' := 41) dX10_waste_40 rfl ?_
          refine u_iadd (pc' := 42) dX10_waste_41 rfl ?_
          obtain ⟨c16, h⟩ := h
          refine u_iastore (k := 2) (pc' := 43) dX10_waste_42 rfl (by decide) kd_139 (by decide) (by decide) (by decide) rfl c16 ?_
          refine u_iconst (pc' := 44) dX10_waste_43 rfl ?_
          exact u_iret dX10_waste_44 rfl h
theorem mX10_waste {E : mm_Env} {d : Nat} {τ : mm_Mem} {Q : mm_Q0} {a0 : Int} {a1 : Int} (h : M0 E d qX10_personAt [vR 2, vI a0] τ (fun v τ1 => ∃ o2 : Nat, v = some (vR o2) ∧ ((o2 = 0 → inR ((τ1 139 2) + 1) ∧ Q (some (vI (-1))) (wr τ1 139 2 ((τ1 139 2) + 1))) ∧ (¬ o2 = 0 → inR a1 ∧ ((a1 < 1 → inR ((τ1 139 2) + 1) ∧ Q (some (vI (-1))) (wr τ1 139 2 ((τ1 139 2) + 1))) ∧ (¬ a1 < 1 → ((99 < a1 → inR ((τ1 139 2) + 1) ∧ Q (some (vI (-1))) (wr τ1 139 2 ((τ1 139 2) + 1))) ∧ (¬ 99 < a1 → KD o2 = some (.inr 3) ∧ inR ((τ1 o2 5) + a1) ∧ ((((τ1 o2 5) + a1) ≤ 1000 → Q (some (vI ((τ1 o2 5) + a1))) (wr τ1 o2 5 ((τ1 o2 5) + a1))) ∧ (¬ ((τ1 o2 5) + a1) ≤ 1000 → inR ((τ1 139 2) + 1) ∧ Q (some (vI (-1))) (wr τ1 139 2 ((τ1 139 2) + 1)))))))))))) : M0 E (d + 1) qX10_waste [vR 2, vI a0, vI a1] τ Q := M0_of rfl (Nat.le_of_ble_eq_true rfl) [some (vR 2), some (vI a0), some (vI a1), none] rfl (bX10_waste_0  h)
set_option maxRecDepth 20000 in
theorem bX10_listen_0 {E : mm_Env} {d : Nat} {τ : mm_Mem} {Q : mm_Q0} {a0 : Int} (h : M0 E d qX10_doorAt [vR 2, vI a0] τ (fun v τ1 => ∃ o2 : Nat, v = some (vR o2) ∧ M0 E d qX10_takeTape [vR 2] τ1 (fun v τ3 => ∃ r4 : Int, v = some (vI r4) ∧ M0 E d qX10_tapedTune [vR 2, vI r4] τ3 (fun v τ5 => ∃ r6 : Int, v = some (vI r6) ∧ ((o2 = 0 → inR ((τ5 139 2) + 1) ∧ Q (some (vI (-2))) (wr τ5 139 2 ((τ5 139 2) + 1))) ∧ (¬ o2 = 0 → inR r6 ∧ ((r6 ≠ (-1) → KD o2 = some (.inr 0) ∧ M0 E d qX0_hear [vR o2, vR 78, vI r6] τ5 (fun v τ11 => ∃ r12 : Int, v = some (vI r12) ∧ Q (some (vI r12)) τ11)) ∧ (r6 = (-1) → inR ((τ5 139 2) + 1) ∧ Q (some (vI (-2))) (wr τ5 139 2 ((τ5 139 2) + 1)))))))))) : V0 E (d + 1) qX10_listen 0 [some (vR 2), some (vI a0), none, none] [] τ Q := by
  refine u_aload_n (i := 0) (pc' := 1) dX10_listen_0 rfl rfl rfl ?_
  refine u_iload_n (i := 1) (pc' := 2) dX10_listen_1 rfl rfl rfl ?_
  refine u_invV (q' := qX10_doorAt) (As := [vI a0]) (st := []) (pc' := 5) dX10_listen_2 rfl gX10_doorAt wm_833 rfl rfl (by decide) kd_2 wm_835 wp_43 rfl (Nat.le_of_ble_eq_true rfl) (M0.mono h (fun v τ1 h => ?_))
  obtain ⟨o2, rfl, h⟩ := h
  show V0 E (d + 1) qX10_listen 5 [some (vR 2), some (vI a0), none, none] [vR o2] τ1 Q
  refine s_astore_n (i := 2) (ls' := [some (vR 2), some (vI a0), some (vR o2), none]) (pc' := 6) dX10_listen_5 rfl rfl (Nat.le_of_ble_eq_true rfl) rfl rfl ?_
  refine u_aload_n (i := 0) (pc' := 7) dX10_listen_6 rfl rfl rfl ?_
  refine u_aload_n (i := 0) (pc' := 8) dX10_listen_7 rfl rfl rfl ?_
  refine u_invV (q' := qX10_takeTape) (As := []) (st := [vR 2]) (pc' := 11) dX10_listen_8 rfl gX10_takeTape wm_521 rfl rfl (by decide) kd_2 wm_523 wp_1 rfl (Nat.le_of_ble_eq_true rfl) (M0.mono h (fun v τ3 h => ?_))
  obtain ⟨r4, rfl, h⟩ := h
  show V0 E (d + 1) qX10_listen 11 [some (vR 2), some (vI a0), some (vR o2), none] [vI r4, vR 2] τ3 Q
  refine u_invV (q' := qX10_tapedTune) (As := [vI r4]) (st := []) (pc' := 14) dX10_listen_11 rfl gX10_tapedTune wm_953 rfl rfl (by decide) kd_2 wm_955 wp_49 rfl (Nat.le_of_ble_eq_true rfl) (M0.mono h (fun v τ5 h => ?_))
  obtain ⟨r6, rfl, h⟩ := h
  show V0 E (d + 1) qX10_listen 14 [some (vR 2), some (vI a0), some (vR o2), none] [vI r6] τ5 Q
  refine s_istore_n (i := 3) (ls' := [some (vR 2), some (vI a0), some (vR o2), some (vI r6)]) (pc' := 15) dX10_listen_14 rfl rfl (Nat.le_of_ble_eq_true rfl) rfl rfl ?_
  refine u_aload_n (i := 2) (pc' := 16) dX10_listen_15 rfl rfl rfl ?_
  refine u_ifnull (tgt := 24) (pc' := 19) dX10_listen_16 rfl (by decide) (fun hb => ?_) (fun hb => ?_)
  · have h := h.1 hb
    refine u_aload_n (i := 0) (pc' := 25) dX10_listen_24 rfl rfl rfl ?_
    refine u_getR (a := 139) (pc' := 28) dX10_listen_25 rfl fl_TuneDoor_79 rfl (by decide) kd_2 rfl ?_
    refine u_iconst (pc' := 29) dX10_listen_28 rfl ?_
    refine u_dup2 (pc' := 30) dX10_listen_29 rfl (fun _ hh => by cases hh) (fun _ hh => by cases hh) ?_
    refine u_iaload (k := 2) (z := (τ5 139 2)) (pc' := 31) dX10_listen_30 rfl (by decide) kd_139 (by decide) (by decide) (by decide) rfl rfl (fun r7 => ?_)
    refine u_iconst (pc' := 32) dX10_listen_31 rfl ?_
    refine u_iadd (pc' := 33) dX10_listen_32 rfl ?_
    obtain ⟨c8, h⟩ := h
    refine u_iastore (k := 2) (pc' := 34) dX10_listen_33 rfl (by decide) kd_139 (by decide) (by decide) (by decide) rfl c8 ?_
    refine u_bipush (pc' := 36) dX10_listen_34 rfl (by decide) ?_
    exact u_iret dX10_listen_36 rfl h
  · have h := h.2 hb
    refine u_iload_n (i := 3) (pc' := 20) dX10_listen_19 rfl rfl rfl ?_
    refine u_iconst (pc' := 21) dX10_listen_20 rfl ?_
    obtain ⟨c9, h⟩ := h
    refine u_icmp_ne (tgt := 37) (pc' := 24) dX10_listen_21 rfl (by decide) c9 ⟨by decide, by decide⟩ (fun hb => ?_) (fun hb => ?_)
    · have h := h.1 hb
      refine u_aload_n (i := 2) (pc' := 38) dX10_listen_37 rfl rfl rfl ?_
      refine u_aload_n (i := 0) (pc' := 39) dX10_listen_38 rfl rfl rfl ?_
      refine u_getR (a := 78) (pc' := 42) dX10_listen_39 rfl fl_TuneDoor_42 rfl (by decide) kd_2 rfl ?_
      refine u_iload_n (i := 3) (pc' := 43) dX10_listen_42 rfl rfl rfl ?_
      obtain ⟨k10, h⟩ := h
      refine u_invV (q' := qX0_hear) (As := [vR 78, vI r6]) (st := []) (pc' := 46) dX10_listen_43 rfl gX0_hear wm_908 rfl rfl (kDoor k10).1 k10 wm_909 wm_910 rfl (Nat.le_of_ble_eq_true rfl) (M0.mono h (fun v τ11 h => ?_))
      obtain ⟨r12, rfl, h⟩ := h
      show V0 E (d + 1) qX10_listen 46 [some (vR 2), some (vI a0), some (vR o2), some (vI r6)] [vI r12] τ11 Q
      exact u_iret dX10_listen_46 rfl h
    · have h := h.2 hb
      refine u_aload_n (i := 0) (pc' := 25) dX10_listen_24 rfl rfl rfl ?_
      refine u_getR (a := 139) (pc' := 28) dX10_listen_25 rfl fl_TuneDoor_79 rfl (by decide) kd_2 rfl ?_
      refine u_iconst (pc' := 29) dX10_listen_28 rfl ?_
      refine u_dup2 (pc' := 30) dX10_listen_29 rfl (fun _ hh => by cases hh) (fun _ hh => by cases hh) ?_
      refine u_iaload (k := 2) (z := (τ5 139 2)) (pc' := 31) dX10_listen_30 rfl (by decide) kd_139 (by decide) (by decide) (by decide) rfl rfl (fun r13 => ?_)
      refine u_iconst (pc' := 32) dX10_listen_31 rfl ?_
      refine u_iadd (pc' := 33) dX10_listen_32 rfl ?_
      obtain ⟨c14, h⟩ := h
      refine u_iastore (k := 2) (pc' := 34) dX10_listen_33 rfl (by decide) kd_139 (by decide) (by decide) (by decide) rfl c14 ?_
      refine u_bipush (pc' := 36) dX10_listen_34 rfl (by decide) ?_
      exact u_iret dX10_listen_36 rfl h
theorem mX10_listen {E : mm_Env} {d : Nat} {τ : mm_Mem} {Q : mm_Q0} {a0 : Int} (h : M0 E d qX10_doorAt [vR 2, vI a0] τ (fun v τ1 => ∃ o2 : Nat, v = some (vR o2) ∧ M0 E d qX10_takeTape [vR 2] τ1 (fun v τ3 => ∃ r4 : Int, v = some (vI r4) ∧ M0 E d qX10_tapedTune [vR 2, vI r4] τ3 (fun v τ5 => ∃ r6 : Int, v = some (vI r6) ∧ ((o2 = 0 → inR ((τ5 139 2) + 1) ∧ Q (some (vI (-2))) (wr τ5 139 2 ((τ5 139 2) + 1))) ∧ (¬ o2 = 0 → inR r6 ∧ ((r6 ≠ (-1) → KD o2 = some (.inr 0) ∧ M0 E d qX0_hear [vR o2, vR 78, vI r6] τ5 (fun v τ11 => ∃ r12 : Int, v = some (vI r12) ∧ Q (some (vI r12)) τ11)) ∧ (r6 = (-1) → inR ((τ5 139 2) + 1) ∧ Q (some (vI (-2))) (wr τ5 139 2 ((τ5 139 2) + 1)))))))))) : M0 E (d + 1) qX10_listen [vR 2, vI a0] τ Q := M0_of rfl (Nat.le_of_ble_eq_true rfl) [some (vR 2), some (vI a0), none, none] rfl (bX10_listen_0  h)
set_option maxRecDepth 20000 in
theorem bX10_tapedTune_0 {E : mm_Env} {d : Nat} {τ : mm_Mem} {Q : mm_Q0} {a0 : Int} (h : ∃ o1 : Nat, (τ 2 2) = (o1 : Int) ∧ KD o1 = some (.inr 2) ∧ inR a0 ∧ ((a0 = (τ o1 1) → V0 E (d + 1) qX10_tapedTune 17 [some (vR 2), some (vI a0), some (vI 0), some (vI 0)] [] τ Q) ∧ (¬ a0 = (τ o1 1) → Q (some (vI (-1))) τ))) : V0 E (d + 1) qX10_tapedTune 0 [some (vR 2), some (vI a0), none, none] [] τ Q := by
  refine u_iload_n (i := 1) (pc' := 1) dX10_tapedTune_0 rfl rfl rfl ?_
  refine u_aload_n (i := 0) (pc' := 2) dX10_tapedTune_1 rfl rfl rfl ?_
  obtain ⟨o1, z2, k3, h⟩ := h
  refine u_getD (a := o1) (pc' := 5) dX10_tapedTune_2 rfl fl_TuneDoor_16 rfl (by decide) kd_2 rfl (z2) ?_
  refine u_getI (z := (τ o1 1)) (pc' := 8) dX10_tapedTune_5 rfl fl_TuneDoor_119 rfl (by decide) (kHouse k3).1 k3 rfl (fun r4 => ?_)
  obtain ⟨c5, h⟩ := h
  refine u_icmp_eq (tgt := 13) (pc' := 11) dX10_tapedTune_8 rfl (by decide) c5 r4 (fun hb => ?_) (fun hb => ?_)
  · have h := h.1 hb
    refine u_iconst (pc' := 14) dX10_tapedTune_13 rfl ?_
    refine s_istore_n (i := 2) (ls' := [some (vR 2), some (vI a0), some (vI 0), none]) (pc' := 15) dX10_tapedTune_14 rfl rfl (Nat.le_of_ble_eq_true rfl) rfl rfl ?_
    refine u_iconst (pc' := 16) dX10_tapedTune_15 rfl ?_
    refine s_istore_n (i := 3) (ls' := [some (vR 2), some (vI a0), some (vI 0), some (vI 0)]) (pc' := 17) dX10_tapedTune_16 rfl rfl (Nat.le_of_ble_eq_true rfl) rfl rfl ?_
    exact u_less (ls' := [some (vR 2), some (vI a0), some (vI 0), some (vI 0)]) ⟨rfl, ⟨rfl, ⟨rfl, ⟨rfl, trivial⟩⟩⟩⟩ h
  · have h := h.2 hb
    refine u_iconst (pc' := 12) dX10_tapedTune_11 rfl ?_
    exact u_iret dX10_tapedTune_12 rfl h
theorem mX10_tapedTune {E : mm_Env} {d : Nat} {τ : mm_Mem} {Q : mm_Q0} {a0 : Int} (h : ∃ o1 : Nat, (τ 2 2) = (o1 : Int) ∧ KD o1 = some (.inr 2) ∧ inR a0 ∧ ((a0 = (τ o1 1) → V0 E (d + 1) qX10_tapedTune 17 [some (vR 2), some (vI a0), some (vI 0), some (vI 0)] [] τ Q) ∧ (¬ a0 = (τ o1 1) → Q (some (vI (-1))) τ))) : M0 E (d + 1) qX10_tapedTune [vR 2, vI a0] τ Q := M0_of rfl (Nat.le_of_ble_eq_true rfl) [some (vR 2), some (vI a0), none, none] rfl (bX10_tapedTune_0  h)
set_option maxRecDepth 20000 in
theorem bX10_tapedTune_17 {E : mm_Env} {d : Nat} {τ : mm_Mem} {Q : mm_Q0} {x1 : Int} {x2 : Int} {x3 : Int} (h : inR x3 ∧ inR x1 ∧ ((x1 ≤ x3 → Q (some (vI x2)) τ) ∧ (¬ x1 ≤ x3 → 0 ≤ x3 ∧ x3 < 1600 ∧ ∃ o6 : Nat, (τ 2 2) = (o6 : Int) ∧ KD o6 = some (.inr 2) ∧ (((τ 3 x3.toNat) < (τ o6 0) → 0 ≤ x3 ∧ x3 < 1600 ∧ M0 E d qX9_withNote [vI x2, vI x3, vI (τ 3 x3.toNat)] τ (fun v τ13 => ∃ r14 : Int, v = some (vI r14) ∧ V0 E (d + 1) qX10_tapedTune 17 [some (vR 2), some (vI x1), some (vI r14), some (vI (x3 + 1))] [] τ13 Q)) ∧ (¬ (τ 3 x3.toNat) < (τ o6 0) → Q (some (vI (-1))) τ))))) : V0 E (d + 1) qX10_tapedTune 17 [some (vR 2), some (vI x1), some (vI x2), some (vI x3)] [] τ Q := by
  refine u_iload_n (i := 3) (pc' := 18) dX10_tapedTune_17 rfl rfl rfl ?_
  refine u_iload_n (i := 1) (pc' := 19) dX10_tapedTune_18 rfl rfl rfl ?_
  obtain ⟨c1, c2, h⟩ := h
  refine u_icmp_ge (tgt := 58) (pc' := 22) dX10_tapedTune_19 rfl (by decide) c1 c2 (fun hb => ?_) (fun hb => ?_)
  · have h := h.1 hb
    refine u_iload_n (i := 2) (pc' := 59) dX10_tapedTune_58 rfl rfl rfl ?_
    exact u_iret dX10_tapedTune_59 rfl h
  · have h := h.2 hb
    refine u_aload_n (i := 0) (pc' := 23) dX10_tapedTune_22 rfl rfl rfl ?_
    refine u_getR (a := 3) (pc' := 26) dX10_tapedTune_23 rfl fl_TuneDoor_9 rfl (by decide) kd_2 rfl ?_
    refine u_iload_n (i := 3) (pc' := 27) dX10_tapedTune_26 rfl rfl rfl ?_
    obtain ⟨c3, c4, h⟩ := h
    refine u_iaload (k := x3.toNat) (z := (τ 3 x3.toNat)) (pc' := 28) dX10_tapedTune_27 rfl (by decide) kd_3 c3 c4 (by decide) rfl rfl (fun r5 => ?_)
    refine u_aload_n (i := 0) (pc' := 29) dX10_tapedTune_28 rfl rfl rfl ?_
    obtain ⟨o6, z7, k8, h⟩ := h
    refine u_getD (a := o6) (pc' := 32) dX10_tapedTune_29 rfl fl_TuneDoor_16 rfl (by decide) kd_2 rfl (z7) ?_
    refine u_getI (z := (τ o6 0)) (pc' := 35) dX10_tapedTune_32 rfl fl_TuneDoor_116 rfl (by decide) (kHouse k8).1 k8 rfl (fun r9 => ?_)
    refine u_icmp_lt (tgt := 40) (pc' := 38) dX10_tapedTune_35 rfl (by decide) r5 r9 (fun hb => ?_) (fun hb => ?_)
    · have h := h.1 hb
      refine u_iload_n (i := 2) (pc' := 41) dX10_tapedTune_40 rfl rfl rfl ?_
      refine u_iload_n (i := 3) (pc' := 42) dX10_tapedTune_41 rfl rfl rfl ?_
      refine u_aload_n (i := 0) (pc' := 43) dX10_tapedTune_42 rfl rfl rfl ?_
      refine u_getR (a := 3) (pc' := 46) dX10_tapedTune_43 rfl fl_TuneDoor_9 rfl (by decide) kd_2 rfl ?_
      refine u_iload_n (i := 3) (pc' := 47) dX10_tapedTune_46 rfl rfl rfl ?_
      obtain ⟨c10, c11, h⟩ := h
      refine u_iaload (k := x3.toNat) (z := (τ 3 x3.toNat)) (pc' := 48) dX10_tapedTune_47 rfl (by decide) kd_3 c10 c11 (by decide) rfl rfl (fun r12 => ?_)
      refine u_invS (q' := qX9_withNote) (As := [vI x2, vI x3, vI (τ 3 x3.toNat)]) (st := []) (pc' := 51) dX10_tapedTune_48 rfl gX9_withNote wm_944 wm_630 rfl (Nat.le_of_ble_eq_true rfl) (M0.mono h (fun v τ13 h => ?_))
      obtain ⟨r14, rfl, h⟩ := h
      show V0 E (d + 1) qX10_tapedTune 51 [some (vR 2), some (vI x1), some (vI x2), some (vI x3)] [vI r14] τ13 Q
      refine s_istore_n (i := 2) (ls' := [some (vR 2), some (vI x1), some (vI r14), some (vI x3)]) (pc' := 52) dX10_tapedTune_51 rfl rfl (Nat.le_of_ble_eq_true rfl) rfl rfl ?_
      refine s_iinc (i := 3) (ls' := [some (vR 2), some (vI x1), some (vI r14), some (vI (x3 + 1))]) (pc' := 55) dX10_tapedTune_52 rfl rfl (Nat.le_of_ble_eq_true rfl) rfl rfl ?_
      refine u_goto (tgt := 17) dX10_tapedTune_55 (by decide) ?_
      exact u_less (ls' := [some (vR 2), some (vI x1), some (vI r14), some (vI (x3 + 1))]) ⟨rfl, ⟨rfl, ⟨rfl, ⟨rfl, trivial⟩⟩⟩⟩ h
    · have h := h.2 hb
      refine u_iconst (pc' := 39) dX10_tapedTune_38 rfl ?_
      exact u_iret dX10_tapedTune_39 rfl h
set_option maxRecDepth 20000 in
theorem bX10_opened_0 {E : mm_Env} {d : Nat} {τ : mm_Mem} {Q : mm_Q0} {a0 : Int} {a1 : Int} (h : M0 E d qX10_doorAt [vR 2, vI a0] τ (fun v τ1 => ∃ o2 : Nat, v = some (vR o2) ∧ ((¬ o2 = 0 → inR a1 ∧ ((a1 < 0 ∨ 2 < a1 → Q (some (vI (-1))) τ1) ∧ (a1 = 0 → KD o2 = some (.inr 0) ∧ Q (some (vI (τ1 o2 5))) τ1) ∧ (a1 = 1 → KD o2 = some (.inr 0) ∧ Q (some (vI (τ1 o2 6))) τ1) ∧ (a1 = 2 → KD o2 = some (.inr 0) ∧ Q (some (vI (τ1 o2 7))) τ1))) ∧ (o2 = 0 → Q (some (vI (-1))) τ1)))) : V0 E (d + 1) qX10_opened 0 [some (vR 2), some (vI a0), some (vI a1), none] [] τ Q := by
  refine u_aload_n (i := 0) (pc' := 1) dX10_opened_0 rfl rfl rfl ?_
  refine u_iload_n (i := 1) (pc' := 2) dX10_opened_1 rfl rfl rfl ?_
  refine u_invV (q' := qX10_doorAt) (As := [vI a0]) (st := []) (pc' := 5) dX10_opened_2 rfl gX10_doorAt wm_833 rfl rfl (by decide) kd_2 wm_835 wp_43 rfl (Nat.le_of_ble_eq_true rfl) (M0.mono h (fun v τ1 h => ?_))
  obtain ⟨o2, rfl, h⟩ := h
  show V0 E (d + 1) qX10_opened 5 [some (vR 2), some (vI a0), some (vI a1), none] [vR o2] τ1 Q
  refine s_astore_n (i := 3) (ls' := [some (vR 2), some (vI a0), some (vI a1), some (vR o2)]) (pc' := 6) dX10_opened_5 rfl rfl (Nat.le_of_ble_eq_true rfl) rfl rfl ?_
  refine u_aload_n (i := 3) (pc' := 7) dX10_opened_6 rfl rfl rfl ?_
  refine u_ifnonnull (tgt := 12) (pc' := 10) dX10_opened_7 rfl (by decide) (fun hb => ?_) (fun hb => ?_)
  · have h := h.1 hb
    refine u_iload_n (i := 2) (pc' := 13) dX10_opened_12 rfl rfl rfl ?_
    obtain ⟨c3, h⟩ := h
    refine u_tableswitch (dt := 55) dX10_opened_13 c3 (by decide) (fun hb => ?_) (fun hb hb2 => ?_)
    · have h := h.1 hb
      refine u_iconst (pc' := 56) dX10_opened_55 rfl ?_
      exact u_iret dX10_opened_56 rfl h
    · have hc : a1 = 0 ∨ a1 = 1 ∨ a1 = 2 := by omega
      rcases hc with hc | hc | hc
      · have h := h.2.1 hc
        refine ⟨27, 40, by rw [hc]; rfl, by decide, ?_⟩
        refine u_aload_n (i := 3) (pc' := 41) dX10_opened_40 rfl rfl rfl ?_
        obtain ⟨k4, h⟩ := h
        refine u_getI (z := (τ1 o2 5)) (pc' := 44) dX10_opened_41 rfl fl_TuneDoor_258 rfl (by decide) (kDoor k4).1 k4 rfl (fun r5 => ?_)
        exact u_iret dX10_opened_44 rfl h
      · have h := h.2.2.1 hc
        refine ⟨32, 45, by rw [hc]; rfl, by decide, ?_⟩
        refine u_aload_n (i := 3) (pc' := 46) dX10_opened_45 rfl rfl rfl ?_
        obtain ⟨k6, h⟩ := h
        refine u_getI (z := (τ1 o2 6)) (pc' := 49) dX10_opened_46 rfl fl_TuneDoor_261 rfl (by decide) (kDoor k6).1 k6 rfl (fun r7 => ?_)
        exact u_iret dX10_opened_49 rfl h
      · have h := h.2.2.2 hc
        refine ⟨37, 50, by rw [hc]; rfl, by decide, ?_⟩
        refine u_aload_n (i := 3) (pc' := 51) dX10_opened_50 rfl rfl rfl ?_
        obtain ⟨k8, h⟩ := h
        refine u_getI (z := (τ1 o2 7)) (pc' := 54) dX10_opened_51 rfl fl_TuneDoor_264 rfl (by decide) (kDoor k8).1 k8 rfl (fun r9 => ?_)
        exact u_iret dX10_opened_54 rfl h
  · have h := h.2 hb
    refine u_iconst (pc' := 11) dX10_opened_10 rfl ?_
    exact u_iret dX10_opened_11 rfl h
theorem mX10_opened {E : mm_Env} {d : Nat} {τ : mm_Mem} {Q : mm_Q0} {a0 : Int} {a1 : Int} (h : M0 E d qX10_doorAt [vR 2, vI a0] τ (fun v τ1 => ∃ o2 : Nat, v = some (vR o2) ∧ ((¬ o2 = 0 → inR a1 ∧ ((a1 < 0 ∨ 2 < a1 → Q (some (vI (-1))) τ1) ∧ (a1 = 0 → KD o2 = some (.inr 0) ∧ Q (some (vI (τ1 o2 5))) τ1) ∧ (a1 = 1 → KD o2 = some (.inr 0) ∧ Q (some (vI (τ1 o2 6))) τ1) ∧ (a1 = 2 → KD o2 = some (.inr 0) ∧ Q (some (vI (τ1 o2 7))) τ1))) ∧ (o2 = 0 → Q (some (vI (-1))) τ1)))) : M0 E (d + 1) qX10_opened [vR 2, vI a0, vI a1] τ Q := M0_of rfl (Nat.le_of_ble_eq_true rfl) [some (vR 2), some (vI a0), some (vI a1), none] rfl (bX10_opened_0  h)
set_option maxRecDepth 20000 in
theorem bX10_apart_0 {E : mm_Env} {d : Nat} {τ : mm_Mem} {Q : mm_Q0} {a0 : Int} (h : M0 E d qX10_personAt [vR 2, vI a0] τ (fun v τ1 => ∃ o2 : Nat, v = some (vR o2) ∧ ((¬ o2 = 0 → KD o2 = some (.inr 3) ∧ M0 E d qX10_doorAt [vR 2, vI (τ1 o2 1)] τ1 (fun v τ5 => ∃ o6 : Nat, v = some (vR o6) ∧ ((o6 = 0 → Q (some (vI (-10000))) τ5) ∧ (¬ o6 = 0 → KD o6 = some (.inr 0) ∧ M0 E d qX0_hasEar [vR o6, vI (τ5 o2 2)] τ5 (fun v τ9 => ∃ b10 : Bool, v = some (vB b10) ∧ ((b10 = true → 0 ≤ (τ9 o2 2) ∧ (τ9 o2 2) < 3 ∧ Q (some (vI ((τ9 o2 5) - (τ9 (o6 + 1) (τ9 o2 2).toNat)))) τ9) ∧ (b10 = false → Q (some (vI (-10000))) τ9))))))) ∧ (o2 = 0 → Q (some (vI (-10000))) τ1)))) : V0 E (d + 1) qX10_apart 0 [some (vR 2), some (vI a0), none, none] [] τ Q := by
  refine u_aload_n (i := 0) (pc' := 1) dX10_apart_0 rfl rfl rfl ?_
  refine u_iload_n (i := 1) (pc' := 2) dX10_apart_1 rfl rfl rfl ?_
  refine u_invV (q' := qX10_personAt) (As := [vI a0]) (st := []) (pc' := 5) dX10_apart_2 rfl gX10_personAt wm_837 rfl rfl (by decide) kd_2 wm_839 wp_44 rfl (Nat.le_of_ble_eq_true rfl) (M0.mono h (fun v τ1 h => ?_))
  obtain ⟨o2, rfl, h⟩ := h
  show V0 E (d + 1) qX10_apart 5 [some (vR 2), some (vI a0), none, none] [vR o2] τ1 Q
  refine s_astore_n (i := 2) (ls' := [some (vR 2), some (vI a0), some (vR o2), none]) (pc' := 6) dX10_apart_5 rfl rfl (Nat.le_of_ble_eq_true rfl) rfl rfl ?_
  refine u_aload_n (i := 2) (pc' := 7) dX10_apart_6 rfl rfl rfl ?_
  refine u_ifnonnull (tgt := 14) (pc' := 10) dX10_apart_7 rfl (by decide) (fun hb => ?_) (fun hb => ?_)
  · have h := h.1 hb
    refine u_aload_n (i := 0) (pc' := 15) dX10_apart_14 rfl rfl rfl ?_
    refine u_aload_n (i := 2) (pc' := 16) dX10_apart_15 rfl rfl rfl ?_
    obtain ⟨k3, h⟩ := h
    refine u_getI (z := (τ1 o2 1)) (pc' := 19) dX10_apart_16 rfl fl_TuneDoor_190 rfl (by decide) (kPerson k3) k3 rfl (fun r4 => ?_)
    refine u_invV (q' := qX10_doorAt) (As := [vI (τ1 o2 1)]) (st := []) (pc' := 22) dX10_apart_19 rfl gX10_doorAt wm_833 rfl rfl (by decide) kd_2 wm_835 wp_43 rfl (Nat.le_of_ble_eq_true rfl) (M0.mono h (fun v τ5 h => ?_))
    obtain ⟨o6, rfl, h⟩ := h
    show V0 E (d + 1) qX10_apart 22 [some (vR 2), some (vI a0), some (vR o2), none] [vR o6] τ5 Q
    refine s_astore_n (i := 3) (ls' := [some (vR 2), some (vI a0), some (vR o2), some (vR o6)]) (pc' := 23) dX10_apart_22 rfl rfl (Nat.le_of_ble_eq_true rfl) rfl rfl ?_
    refine u_aload_n (i := 3) (pc' := 24) dX10_apart_23 rfl rfl rfl ?_
    refine u_ifnull (tgt := 38) (pc' := 27) dX10_apart_24 rfl (by decide) (fun hb => ?_) (fun hb => ?_)
    · have h := h.1 hb
      refine u_sipush (pc' := 41) dX10_apart_38 rfl (by decide) ?_
      refine u_goto (tgt := 58) dX10_apart_41 (by decide) ?_
      exact u_iret dX10_apart_58 rfl h
    · have h := h.2 hb
      refine u_aload_n (i := 3) (pc' := 28) dX10_apart_27 rfl rfl rfl ?_
      refine u_aload_n (i := 2) (pc' := 29) dX10_apart_28 rfl rfl rfl ?_
      refine u_getI (z := (τ5 o2 2)) (pc' := 32) dX10_apart_29 rfl fl_TuneDoor_193 rfl (by decide) (kPerson k3) k3 rfl (fun r7 => ?_)
      obtain ⟨k8, h⟩ := h
      refine u_invV (q' := qX0_hasEar) (As := [vI (τ5 o2 2)]) (st := []) (pc' := 35) dX10_apart_32 rfl gX0_hasEar wm_896 rfl rfl (kDoor k8).1 k8 wm_897 wm_898 rfl (Nat.le_of_ble_eq_true rfl) (M0.mono h (fun v τ9 h => ?_))
      obtain ⟨b10, rfl, h⟩ := h
      show V0 E (d + 1) qX10_apart 35 [some (vR 2), some (vI a0), some (vR o2), some (vR o6)] [vB b10] τ9 Q
      refine u_if_ne (tgt := 44) (pc' := 38) dX10_apart_35 rfl (by decide) (bI_R _) (fun hb => ?_) (fun hb => ?_)
      · have h := h.1 (bI_n0.mp hb)
        refine u_aload_n (i := 2) (pc' := 45) dX10_apart_44 rfl rfl rfl ?_
        refine u_getI (z := (τ9 o2 5)) (pc' := 48) dX10_apart_45 rfl fl_TuneDoor_196 rfl (by decide) (kPerson k3) k3 rfl (fun r11 => ?_)
        refine u_aload_n (i := 3) (pc' := 49) dX10_apart_48 rfl rfl rfl ?_
        refine u_getR (a := (o6 + 1)) (pc' := 52) dX10_apart_49 rfl fl_TuneDoor_235 rfl (kDoor k8).1 k8 (kDoor k8).2.1 ?_
        refine u_aload_n (i := 2) (pc' := 53) dX10_apart_52 rfl rfl rfl ?_
        refine u_getI (z := (τ9 o2 2)) (pc' := 56) dX10_apart_53 rfl fl_TuneDoor_193 rfl (by decide) (kPerson k3) k3 rfl (fun r12 => ?_)
        obtain ⟨c13, c14, h⟩ := h
        refine u_iaload (k := (τ9 o2 2).toNat) (z := (τ9 (o6 + 1) (τ9 o2 2).toNat)) (pc' := 57) dX10_apart_56 rfl (Nat.le_trans (kDoor k8).1 (Nat.le_add_right _ _)) (kDoor k8).2.2.2.2.1 c13 c14 (by decide) rfl rfl (fun r15 => ?_)
        refine u_isub (pc' := 58) dX10_apart_57 rfl ?_
        exact u_iret dX10_apart_58 rfl h
      · have h := h.2 (bI_0.mp hb)
        refine u_sipush (pc' := 41) dX10_apart_38 rfl (by decide) ?_
        refine u_goto (tgt := 58) dX10_apart_41 (by decide) ?_
        exact u_iret dX10_apart_58 rfl h
  · have h := h.2 hb
    refine u_null (pc' := 11) dX10_apart_10 rfl ?_
    refine u_goto (tgt := 22) dX10_apart_11 (by decide) ?_
    refine s_astore_n (i := 3) (ls' := [some (vR 2), some (vI a0), some (vR o2), some (vR 0)]) (pc' := 23) dX10_apart_22 rfl rfl (Nat.le_of_ble_eq_true rfl) rfl rfl ?_
    refine u_aload_n (i := 3) (pc' := 24) dX10_apart_23 rfl rfl rfl ?_
    refine u_ifnull (tgt := 38) (pc' := 27) dX10_apart_24 rfl (by decide) (fun _ => ?_) (fun hb => absurd rfl hb)
    refine u_sipush (pc' := 41) dX10_apart_38 rfl (by decide) ?_
    refine u_goto (tgt := 58) dX10_apart_41 (by decide) ?_
    exact u_iret dX10_apart_58 rfl h
theorem mX10_apart {E : mm_Env} {d : Nat} {τ : mm_Mem} {Q : mm_Q0} {a0 : Int} (h : M0 E d qX10_personAt [vR 2, vI a0] τ (fun v τ1 => ∃ o2 : Nat, v = some (vR o2) ∧ ((¬ o2 = 0 → KD o2 = some (.inr 3) ∧ M0 E d qX10_doorAt [vR 2, vI (τ1 o2 1)] τ1 (fun v τ5 => ∃ o6 : Nat, v = some (vR o6) ∧ ((o6 = 0 → Q (some (vI (-10000))) τ5) ∧ (¬ o6 = 0 → KD o6 = some (.inr 0) ∧ M0 E d qX0_hasEar [vR o6, vI (τ5 o2 2)] τ5 (fun v τ9 => ∃ b10 : Bool, v = some (vB b10) ∧ ((b10 = true → 0 ≤ (τ9 o2 2) ∧ (τ9 o2 2) < 3 ∧ Q (some (vI ((τ9 o2 5) - (τ9 (o6 + 1) (τ9 o2 2).toNat)))) τ9) ∧ (b10 = false → Q (some (vI (-10000))) τ9))))))) ∧ (o2 = 0 → Q (some (vI (-10000))) τ1)))) : M0 E (d + 1) qX10_apart [vR 2, vI a0] τ Q := M0_of rfl (Nat.le_of_ble_eq_true rfl) [some (vR 2), some (vI a0), none, none] rfl (bX10_apart_0  h)
set_option maxRecDepth 20000 in
theorem bX10_mend_0 {E : mm_Env} {d : Nat} {τ : mm_Mem} {Q : mm_Q0} {a0 : Int} (h : M0 E d qX10_personAt [vR 2, vI a0] τ (fun v τ1 => ∃ o2 : Nat, v = some (vR o2) ∧ ((o2 = 0 → Q (some (vI (-1))) τ1) ∧ (¬ o2 = 0 → KD o2 = some (.inr 3) ∧ M0 E d qX10_tryAt [vR 2, vI (τ1 o2 1)] τ1 (fun v τ5 => ∃ b6 : Bool, v = some (vB b6) ∧ ((b6 = true → V0 E (d + 1) qX10_mend 25 [some (vR 2), none, some (vR o2), some (vI 1)] [] τ5 Q) ∧ (b6 = false → Q (some (vI (-1))) τ5))))))) : V0 E (d + 1) qX10_mend 0 [some (vR 2), some (vI a0), none, none] [] τ Q := by
  refine u_aload_n (i := 0) (pc' := 1) dX10_mend_0 rfl rfl rfl ?_
  refine u_iload_n (i := 1) (pc' := 2) dX10_mend_1 rfl rfl rfl ?_
  refine u_invV (q' := qX10_personAt) (As := [vI a0]) (st := []) (pc' := 5) dX10_mend_2 rfl gX10_personAt wm_837 rfl rfl (by decide) kd_2 wm_839 wp_44 rfl (Nat.le_of_ble_eq_true rfl) (M0.mono h (fun v τ1 h => ?_))
  obtain ⟨o2, rfl, h⟩ := h
  show V0 E (d + 1) qX10_mend 5 [some (vR 2), some (vI a0), none, none] [vR o2] τ1 Q
  refine s_astore_n (i := 2) (ls' := [some (vR 2), some (vI a0), some (vR o2), none]) (pc' := 6) dX10_mend_5 rfl rfl (Nat.le_of_ble_eq_true rfl) rfl rfl ?_
  refine u_aload_n (i := 2) (pc' := 7) dX10_mend_6 rfl rfl rfl ?_
  refine u_ifnull (tgt := 21) (pc' := 10) dX10_mend_7 rfl (by decide) (fun hb => ?_) (fun hb => ?_)
  · have h := h.1 hb
    refine u_iconst (pc' := 22) dX10_mend_21 rfl ?_
    exact u_iret dX10_mend_22 rfl h
  · have h := h.2 hb
    refine u_aload_n (i := 0) (pc' := 11) dX10_mend_10 rfl rfl rfl ?_
    refine u_aload_n (i := 2) (pc' := 12) dX10_mend_11 rfl rfl rfl ?_
    obtain ⟨k3, h⟩ := h
    refine u_getI (z := (τ1 o2 1)) (pc' := 15) dX10_mend_12 rfl fl_TuneDoor_190 rfl (by decide) (kPerson k3) k3 rfl (fun r4 => ?_)
    refine u_invV (q' := qX10_tryAt) (As := [vI (τ1 o2 1)]) (st := []) (pc' := 18) dX10_mend_15 rfl gX10_tryAt wm_969 rfl rfl (by decide) kd_2 wm_971 wp_50 rfl (Nat.le_of_ble_eq_true rfl) (M0.mono h (fun v τ5 h => ?_))
    obtain ⟨b6, rfl, h⟩ := h
    show V0 E (d + 1) qX10_mend 18 [some (vR 2), some (vI a0), some (vR o2), none] [vB b6] τ5 Q
    refine u_if_ne (tgt := 23) (pc' := 21) dX10_mend_18 rfl (by decide) (bI_R _) (fun hb => ?_) (fun hb => ?_)
    · have h := h.1 (bI_n0.mp hb)
      refine u_iconst (pc' := 24) dX10_mend_23 rfl ?_
      refine s_istore_n (i := 3) (ls' := [some (vR 2), some (vI a0), some (vR o2), some (vI 1)]) (pc' := 25) dX10_mend_24 rfl rfl (Nat.le_of_ble_eq_true rfl) rfl rfl ?_
      exact u_less (ls' := [some (vR 2), none, some (vR o2), some (vI 1)]) ⟨rfl, ⟨rfl, ⟨rfl, trivial⟩⟩⟩ h
    · have h := h.2 (bI_0.mp hb)
      refine u_iconst (pc' := 22) dX10_mend_21 rfl ?_
      exact u_iret dX10_mend_22 rfl h
theorem mX10_mend {E : mm_Env} {d : Nat} {τ : mm_Mem} {Q : mm_Q0} {a0 : Int} (h : M0 E d qX10_personAt [vR 2, vI a0] τ (fun v τ1 => ∃ o2 : Nat, v = some (vR o2) ∧ ((o2 = 0 → Q (some (vI (-1))) τ1) ∧ (¬ o2 = 0 → KD o2 = some (.inr 3) ∧ M0 E d qX10_tryAt [vR 2, vI (τ1 o2 1)] τ1 (fun v τ5 => ∃ b6 : Bool, v = some (vB b6) ∧ ((b6 = true → V0 E (d + 1) qX10_mend 25 [some (vR 2), none, some (vR o2), some (vI 1)] [] τ5 Q) ∧ (b6 = false → Q (some (vI (-1))) τ5))))))) : M0 E (d + 1) qX10_mend [vR 2, vI a0] τ Q := M0_of rfl (Nat.le_of_ble_eq_true rfl) [some (vR 2), some (vI a0), none, none] rfl (bX10_mend_0  h)
set_option maxRecDepth 20000 in
theorem bX10_mend_25 {E : mm_Env} {d : Nat} {τ : mm_Mem} {Q : mm_Q0} {x2 : Nat} {x3 : Int} (h : inR x3 ∧ ((50 < x3 → Q (some (vI (-1))) τ) ∧ (¬ 50 < x3 → KD x2 = some (.inr 3) ∧ M0 E d qX10_trialOpens [vR 2, vI (τ x2 2), vI (((τ x2 5) + x3) - 1)] τ (fun v τ5 => ∃ b6 : Bool, v = some (vB b6) ∧ ((b6 = false → V0 E (d + 1) qX10_mend 25 [some (vR 2), none, some (vR x2), some (vI (x3 + 1))] [] τ5 Q) ∧ (b6 = true → Q (some (vI x3)) τ5)))))) : V0 E (d + 1) qX10_mend 25 [some (vR 2), none, some (vR x2), some (vI x3)] [] τ Q := by
  refine u_iload_n (i := 3) (pc' := 26) dX10_mend_25 rfl rfl rfl ?_
  refine u_bipush (pc' := 28) dX10_mend_26 rfl (by decide) ?_
  obtain ⟨c1, h⟩ := h
  refine u_icmp_gt (tgt := 58) (pc' := 31) dX10_mend_28 rfl (by decide) c1 ⟨by decide, by decide⟩ (fun hb => ?_) (fun hb => ?_)
  · have h := h.1 hb
    refine u_iconst (pc' := 59) dX10_mend_58 rfl ?_
    exact u_iret dX10_mend_59 rfl h
  · have h := h.2 hb
    refine u_aload_n (i := 0) (pc' := 32) dX10_mend_31 rfl rfl rfl ?_
    refine u_aload_n (i := 2) (pc' := 33) dX10_mend_32 rfl rfl rfl ?_
    obtain ⟨k2, h⟩ := h
    refine u_getI (z := (τ x2 2)) (pc' := 36) dX10_mend_33 rfl fl_TuneDoor_193 rfl (by decide) (kPerson k2) k2 rfl (fun r3 => ?_)
    refine u_aload_n (i := 2) (pc' := 37) dX10_mend_36 rfl rfl rfl ?_
    refine u_getI (z := (τ x2 5)) (pc' := 40) dX10_mend_37 rfl fl_TuneDoor_196 rfl (by decide) (kPerson k2) k2 rfl (fun r4 => ?_)
    refine u_iload_n (i := 3) (pc' := 41) dX10_mend_40 rfl rfl rfl ?_
    refine u_iadd (pc' := 42) dX10_mend_41 rfl ?_
    refine u_iconst (pc' := 43) dX10_mend_42 rfl ?_
    refine u_isub (pc' := 44) dX10_mend_43 rfl ?_
    refine u_invV (q' := qX10_trialOpens) (As := [vI (τ x2 2), vI (((τ x2 5) + x3) - 1)]) (st := []) (pc' := 47) dX10_mend_44 rfl gX10_trialOpens wm_977 rfl rfl (by decide) kd_2 wm_979 wp_51 rfl (Nat.le_of_ble_eq_true rfl) (M0.mono h (fun v τ5 h => ?_))
    obtain ⟨b6, rfl, h⟩ := h
    show V0 E (d + 1) qX10_mend 47 [some (vR 2), none, some (vR x2), some (vI x3)] [vB b6] τ5 Q
    refine u_if_eq (tgt := 52) (pc' := 50) dX10_mend_47 rfl (by decide) (bI_R _) (fun hb => ?_) (fun hb => ?_)
    · have h := h.1 (bI_0.mp hb)
      refine s_iinc (i := 3) (ls' := [some (vR 2), none, some (vR x2), some (vI (x3 + 1))]) (pc' := 55) dX10_mend_52 rfl rfl (Nat.le_of_ble_eq_true rfl) rfl rfl ?_
      refine u_goto (tgt := 25) dX10_mend_55 (by decide) ?_
      exact u_less (ls' := [some (vR 2), none, some (vR x2), some (vI (x3 + 1))]) ⟨rfl, ⟨rfl, ⟨rfl, trivial⟩⟩⟩ h
    · have h := h.2 (bI_n0.mp hb)
      refine u_iload_n (i := 3) (pc' := 51) dX10_mend_50 rfl rfl rfl ?_
      exact u_iret dX10_mend_51 rfl h
set_option maxRecDepth 20000 in
theorem bX10_tryAt_0 {E : mm_Env} {d : Nat} {τ : mm_Mem} {Q : mm_Q0} {a0 : Int} (h : M0 E d qX10_doorAt [vR 2, vI a0] τ (fun v τ1 => ∃ o2 : Nat, v = some (vR o2) ∧ ((¬ o2 = 0 → M0 E d qX0_copyFrom [vR 91, vR o2] τ1 (fun v τ3 => v = none ∧ Q (some (vB true)) τ3)) ∧ (o2 = 0 → Q (some (vB false)) τ1)))) : V0 E (d + 1) qX10_tryAt 0 [some (vR 2), some (vI a0), none] [] τ Q := by
  refine u_aload_n (i := 0) (pc' := 1) dX10_tryAt_0 rfl rfl rfl ?_
  refine u_iload_n (i := 1) (pc' := 2) dX10_tryAt_1 rfl rfl rfl ?_
  refine u_invV (q' := qX10_doorAt) (As := [vI a0]) (st := []) (pc' := 5) dX10_tryAt_2 rfl gX10_doorAt wm_833 rfl rfl (by decide) kd_2 wm_835 wp_43 rfl (Nat.le_of_ble_eq_true rfl) (M0.mono h (fun v τ1 h => ?_))
  obtain ⟨o2, rfl, h⟩ := h
  show V0 E (d + 1) qX10_tryAt 5 [some (vR 2), some (vI a0), none] [vR o2] τ1 Q
  refine s_astore_n (i := 2) (ls' := [some (vR 2), some (vI a0), some (vR o2)]) (pc' := 6) dX10_tryAt_5 rfl rfl (Nat.le_of_ble_eq_true rfl) rfl rfl ?_
  refine u_aload_n (i := 2) (pc' := 7) dX10_tryAt_6 rfl rfl rfl ?_
  refine u_ifnonnull (tgt := 12) (pc' := 10) dX10_tryAt_7 rfl (by decide) (fun hb => ?_) (fun hb => ?_)
  · have h := h.1 hb
    refine u_aload_n (i := 0) (pc' := 13) dX10_tryAt_12 rfl rfl rfl ?_
    refine u_getR (a := 91) (pc' := 16) dX10_tryAt_13 rfl fl_TuneDoor_49 rfl (by decide) kd_2 rfl ?_
    refine u_aload_n (i := 2) (pc' := 17) dX10_tryAt_16 rfl rfl rfl ?_
    refine u_invV (q' := qX0_copyFrom) (As := [vR o2]) (st := []) (pc' := 20) dX10_tryAt_17 rfl gX0_copyFrom wm_973 rfl rfl (by decide) kd_91 wm_974 wm_975 rfl (Nat.le_of_ble_eq_true rfl) (M0.mono h (fun v τ3 h => ?_))
    obtain ⟨rfl, h⟩ := h
    show V0 E (d + 1) qX10_tryAt 20 [some (vR 2), some (vI a0), some (vR o2)] [] τ3 Q
    refine u_iconst (pc' := 21) dX10_tryAt_20 rfl ?_
    exact u_zret (b := true) dX10_tryAt_21 rfl rfl h
  · have h := h.2 hb
    refine u_iconst (pc' := 11) dX10_tryAt_10 rfl ?_
    exact u_zret (b := false) dX10_tryAt_11 rfl rfl h
theorem mX10_tryAt {E : mm_Env} {d : Nat} {τ : mm_Mem} {Q : mm_Q0} {a0 : Int} (h : M0 E d qX10_doorAt [vR 2, vI a0] τ (fun v τ1 => ∃ o2 : Nat, v = some (vR o2) ∧ ((¬ o2 = 0 → M0 E d qX0_copyFrom [vR 91, vR o2] τ1 (fun v τ3 => v = none ∧ Q (some (vB true)) τ3)) ∧ (o2 = 0 → Q (some (vB false)) τ1)))) : M0 E (d + 1) qX10_tryAt [vR 2, vI a0] τ Q := M0_of rfl (Nat.le_of_ble_eq_true rfl) [some (vR 2), some (vI a0), none] rfl (bX10_tryAt_0  h)
set_option maxRecDepth 20000 in
theorem bX10_trialOpens_0 {E : mm_Env} {d : Nat} {τ : mm_Mem} {Q : mm_Q0} {a0 : Int} {a1 : Int} (h : M0 E d qX10_isWhistle [vI a1] τ (fun v τ1 => ∃ b2 : Bool, v = some (vB b2) ∧ ((b2 = false → Q (some (vB false)) τ1) ∧ (b2 = true → M0 E d qX9_tuneAt [vR 78, vI a0, vI a1] τ1 (fun v τ3 => ∃ r4 : Int, v = some (vI r4) ∧ M0 E d qX0_hear [vR 91, vR 78, vI r4] τ3 (fun v τ5 => ∃ r6 : Int, v = some (vI r6) ∧ inR r6 ∧ ((r6 = (-1) → Q (some (vB false)) τ5) ∧ (¬ r6 = (-1) → Q (some (vB true)) τ5)))))))) : V0 E (d + 1) qX10_trialOpens 0 [some (vR 2), some (vI a0), some (vI a1)] [] τ Q := by
  refine u_iload_n (i := 2) (pc' := 1) dX10_trialOpens_0 rfl rfl rfl ?_
  refine u_invS (q' := qX10_isWhistle) (As := [vI a1]) (st := []) (pc' := 4) dX10_trialOpens_1 rfl gX10_isWhistle wm_857 wm_858 rfl (Nat.le_of_ble_eq_true rfl) (M0.mono h (fun v τ1 h => ?_))
  obtain ⟨b2, rfl, h⟩ := h
  show V0 E (d + 1) qX10_trialOpens 4 [some (vR 2), some (vI a0), some (vI a1)] [vB b2] τ1 Q
  refine u_if_eq (tgt := 35) (pc' := 7) dX10_trialOpens_4 rfl (by decide) (bI_R _) (fun hb => ?_) (fun hb => ?_)
  · have h := h.1 (bI_0.mp hb)
    refine u_iconst (pc' := 36) dX10_trialOpens_35 rfl ?_
    exact u_zret (b := false) dX10_trialOpens_36 rfl rfl h
  · have h := h.2 (bI_n0.mp hb)
    refine u_aload_n (i := 0) (pc' := 8) dX10_trialOpens_7 rfl rfl rfl ?_
    refine u_getR (a := 91) (pc' := 11) dX10_trialOpens_8 rfl fl_TuneDoor_49 rfl (by decide) kd_2 rfl ?_
    refine u_aload_n (i := 0) (pc' := 12) dX10_trialOpens_11 rfl rfl rfl ?_
    refine u_getR (a := 78) (pc' := 15) dX10_trialOpens_12 rfl fl_TuneDoor_42 rfl (by decide) kd_2 rfl ?_
    refine u_aload_n (i := 0) (pc' := 16) dX10_trialOpens_15 rfl rfl rfl ?_
    refine u_getR (a := 78) (pc' := 19) dX10_trialOpens_16 rfl fl_TuneDoor_42 rfl (by decide) kd_2 rfl ?_
    refine u_iload_n (i := 1) (pc' := 20) dX10_trialOpens_19 rfl rfl rfl ?_
    refine u_iload_n (i := 2) (pc' := 21) dX10_trialOpens_20 rfl rfl rfl ?_
    refine u_invV (q' := qX9_tuneAt) (As := [vI a0, vI a1]) (st := [vR 78, vR 91]) (pc' := 24) dX10_trialOpens_21 rfl gX9_tuneAt wm_871 rfl rfl (by decide) kd_78 wm_872 wm_873 rfl (Nat.le_of_ble_eq_true rfl) (M0.mono h (fun v τ3 h => ?_))
    obtain ⟨r4, rfl, h⟩ := h
    show V0 E (d + 1) qX10_trialOpens 24 [some (vR 2), some (vI a0), some (vI a1)] [vI r4, vR 78, vR 91] τ3 Q
    refine u_invV (q' := qX0_hear) (As := [vR 78, vI r4]) (st := []) (pc' := 27) dX10_trialOpens_24 rfl gX0_hear wm_908 rfl rfl (by decide) kd_91 wm_909 wm_910 rfl (Nat.le_of_ble_eq_true rfl) (M0.mono h (fun v τ5 h => ?_))
    obtain ⟨r6, rfl, h⟩ := h
    show V0 E (d + 1) qX10_trialOpens 27 [some (vR 2), some (vI a0), some (vI a1)] [vI r6] τ5 Q
    refine u_iconst (pc' := 28) dX10_trialOpens_27 rfl ?_
    obtain ⟨c7, h⟩ := h
    refine u_icmp_eq (tgt := 35) (pc' := 31) dX10_trialOpens_28 rfl (by decide) c7 ⟨by decide, by decide⟩ (fun hb => ?_) (fun hb => ?_)
    · have h := h.1 hb
      refine u_iconst (pc' := 36) dX10_trialOpens_35 rfl ?_
      exact u_zret (b := false) dX10_trialOpens_36 rfl rfl h
    · have h := h.2 hb
      refine u_iconst (pc' := 32) dX10_trialOpens_31 rfl ?_
      refine u_goto (tgt := 36) dX10_trialOpens_32 (by decide) ?_
      exact u_zret (b := true) dX10_trialOpens_36 rfl rfl h
theorem mX10_trialOpens {E : mm_Env} {d : Nat} {τ : mm_Mem} {Q : mm_Q0} {a0 : Int} {a1 : Int} (h : M0 E d qX10_isWhistle [vI a1] τ (fun v τ1 => ∃ b2 : Bool, v = some (vB b2) ∧ ((b2 = false → Q (some (vB false)) τ1) ∧ (b2 = true → M0 E d qX9_tuneAt [vR 78, vI a0, vI a1] τ1 (fun v τ3 => ∃ r4 : Int, v = some (vI r4) ∧ M0 E d qX0_hear [vR 91, vR 78, vI r4] τ3 (fun v τ5 => ∃ r6 : Int, v = some (vI r6) ∧ inR r6 ∧ ((r6 = (-1) → Q (some (vB false)) τ5) ∧ (¬ r6 = (-1) → Q (some (vB true)) τ5)))))))) : M0 E (d + 1) qX10_trialOpens [vR 2, vI a0, vI a1] τ Q := M0_of rfl (Nat.le_of_ble_eq_true rfl) [some (vR 2), some (vI a0), some (vI a1)] rfl (bX10_trialOpens_0  h)
set_option maxRecDepth 20000 in
theorem bX10_would_0 {E : mm_Env} {d : Nat} {τ : mm_Mem} {Q : mm_Q0} {a0 : Int} (h : M0 E d qX10_doorAt [vR 2, vI a0] τ (fun v τ1 => ∃ o2 : Nat, v = some (vR o2) ∧ ((¬ o2 = 0 → V0 E (d + 1) qX10_would 14 [some (vR 2), some (vI a0), some (vI 0), some (vI 0), none] [] τ1 Q) ∧ (o2 = 0 → Q (some (vI (-1))) τ1)))) : V0 E (d + 1) qX10_would 0 [some (vR 2), some (vI a0), none, none, none] [] τ Q := by
  refine u_aload_n (i := 0) (pc' := 1) dX10_would_0 rfl rfl rfl ?_
  refine u_iload_n (i := 1) (pc' := 2) dX10_would_1 rfl rfl rfl ?_
  refine u_invV (q' := qX10_doorAt) (As := [vI a0]) (st := []) (pc' := 5) dX10_would_2 rfl gX10_doorAt wm_833 rfl rfl (by decide) kd_2 wm_835 wp_43 rfl (Nat.le_of_ble_eq_true rfl) (M0.mono h (fun v τ1 h => ?_))
  obtain ⟨o2, rfl, h⟩ := h
  show V0 E (d + 1) qX10_would 5 [some (vR 2), some (vI a0), none, none, none] [vR o2] τ1 Q
  refine u_ifnonnull (tgt := 10) (pc' := 8) dX10_would_5 rfl (by decide) (fun hb => ?_) (fun hb => ?_)
  · have h := h.1 hb
    refine u_iconst (pc' := 11) dX10_would_10 rfl ?_
    refine s_istore_n (i := 2) (ls' := [some (vR 2), some (vI a0), some (vI 0), none, none]) (pc' := 12) dX10_would_11 rfl rfl (Nat.le_of_ble_eq_true rfl) rfl rfl ?_
    refine u_iconst (pc' := 13) dX10_would_12 rfl ?_
    refine s_istore_n (i := 3) (ls' := [some (vR 2), some (vI a0), some (vI 0), some (vI 0), none]) (pc' := 14) dX10_would_13 rfl rfl (Nat.le_of_ble_eq_true rfl) rfl rfl ?_
    exact u_less (ls' := [some (vR 2), some (vI a0), some (vI 0), some (vI 0), none]) ⟨rfl, ⟨rfl, ⟨rfl, ⟨rfl, trivial⟩⟩⟩⟩ h
  · have h := h.2 hb
    refine u_iconst (pc' := 9) dX10_would_8 rfl ?_
    exact u_iret dX10_would_9 rfl h
theorem mX10_would {E : mm_Env} {d : Nat} {τ : mm_Mem} {Q : mm_Q0} {a0 : Int} (h : M0 E d qX10_doorAt [vR 2, vI a0] τ (fun v τ1 => ∃ o2 : Nat, v = some (vR o2) ∧ ((¬ o2 = 0 → V0 E (d + 1) qX10_would 14 [some (vR 2), some (vI a0), some (vI 0), some (vI 0), none] [] τ1 Q) ∧ (o2 = 0 → Q (some (vI (-1))) τ1)))) : M0 E (d + 1) qX10_would [vR 2, vI a0] τ Q := M0_of rfl (Nat.le_of_ble_eq_true rfl) [some (vR 2), some (vI a0), none, none, none] rfl (bX10_would_0  h)
set_option maxRecDepth 20000 in
theorem bX10_would_14 {E : mm_Env} {d : Nat} {τ : mm_Mem} {Q : mm_Q0} {x1 : Int} {x2 : Int} {x3 : Int} (h : inR x3 ∧ ((4 ≤ x3 → Q (some (vI x2)) τ) ∧ (¬ 4 ≤ x3 → M0 E d qX10_personAt [vR 2, vI x3] τ (fun v τ2 => ∃ o3 : Nat, v = some (vR o3) ∧ ((o3 = 0 → V0 E (d + 1) qX10_would 14 [some (vR 2), some (vI x1), some (vI x2), some (vI (x3 + 1)), none] [] τ2 Q) ∧ (¬ o3 = 0 → KD o3 = some (.inr 3) ∧ inR x1 ∧ (((τ2 o3 1) ≠ x1 → V0 E (d + 1) qX10_would 14 [some (vR 2), some (vI x1), some (vI x2), some (vI (x3 + 1)), none] [] τ2 Q) ∧ ((τ2 o3 1) = x1 → M0 E d qX10_tryAt [vR 2, vI x1] τ2 (fun v τ7 => ∃ b8 : Bool, v = some (vB b8) ∧ ((b8 = false → V0 E (d + 1) qX10_would 14 [some (vR 2), some (vI x1), some (vI x2), some (vI (x3 + 1)), none] [] τ7 Q) ∧ (b8 = true → M0 E d qX10_trialOpens [vR 2, vI (τ7 o3 2), vI (τ7 o3 5)] τ7 (fun v τ11 => ∃ b12 : Bool, v = some (vB b12) ∧ ((b12 = false → V0 E (d + 1) qX10_would 14 [some (vR 2), some (vI x1), some (vI x2), some (vI (x3 + 1)), none] [] τ11 Q) ∧ (b12 = true → V0 E (d + 1) qX10_would 14 [some (vR 2), some (vI x1), some (vI (mm_or x2 (mm_shl 1 x3))), some (vI (x3 + 1)), none] [] τ11 Q)))))))))))))) : V0 E (d + 1) qX10_would 14 [some (vR 2), some (vI x1), some (vI x2), some (vI x3), none] [] τ Q := by
  refine u_iload_n (i := 3) (pc' := 15) dX10_would_14 rfl rfl rfl ?_
  refine u_iconst (pc' := 16) dX10_would_15 rfl ?_
  obtain ⟨c1, h⟩ := h
  refine u_icmp_ge (tgt := 77) (pc' := 19) dX10_would_16 rfl (by decide) c1 ⟨by decide, by decide⟩ (fun hb => ?_) (fun hb => ?_)
  · have h := h.1 hb
    refine u_iload_n (i := 2) (pc' := 78) dX10_would_77 rfl rfl rfl ?_
    exact u_iret dX10_would_78 rfl h
  · have h := h.2 hb
    refine u_aload_n (i := 0) (pc' := 20) dX10_would_19 rfl rfl rfl ?_
    refine u_iload_n (i := 3) (pc' := 21) dX10_would_20 rfl rfl rfl ?_
    refine u_invV (q' := qX10_personAt) (As := [vI x3]) (st := []) (pc' := 24) dX10_would_21 rfl gX10_personAt wm_837 rfl rfl (by decide) kd_2 wm_839 wp_44 rfl (Nat.le_of_ble_eq_true rfl) (M0.mono h (fun v τ2 h => ?_))
    obtain ⟨o3, rfl, h⟩ := h
    show V0 E (d + 1) qX10_would 24 [some (vR 2), some (vI x1), some (vI x2), some (vI x3), none] [vR o3] τ2 Q
    refine s_astore (i := 4) (ls' := [some (vR 2), some (vI x1), some (vI x2), some (vI x3), some (vR o3)]) (pc' := 26) dX10_would_24 rfl (Nat.le_of_ble_eq_true rfl) rfl rfl ?_
    refine u_aload (i := 4) (pc' := 28) dX10_would_26 rfl rfl ?_
    refine u_ifnull (tgt := 71) (pc' := 31) dX10_would_28 rfl (by decide) (fun hb => ?_) (fun hb => ?_)
    · have h := h.1 hb
      refine s_iinc (i := 3) (ls' := [some (vR 2), some (vI x1), some (vI x2), some (vI (x3 + 1)), some (vR o3)]) (pc' := 74) dX10_would_71 rfl rfl (Nat.le_of_ble_eq_true rfl) rfl rfl ?_
      refine u_goto (tgt := 14) dX10_would_74 (by decide) ?_
      exact u_less (ls' := [some (vR 2), some (vI x1), some (vI x2), some (vI (x3 + 1)), none]) ⟨rfl, ⟨rfl, ⟨rfl, ⟨rfl, trivial⟩⟩⟩⟩ h
    · have h := h.2 hb
      refine u_aload (i := 4) (pc' := 33) dX10_would_31 rfl rfl ?_
      obtain ⟨k4, h⟩ := h
      refine u_getI (z := (τ2 o3 1)) (pc' := 36) dX10_would_33 rfl fl_TuneDoor_190 rfl (by decide) (kPerson k4) k4 rfl (fun r5 => ?_)
      refine u_iload_n (i := 1) (pc' := 37) dX10_would_36 rfl rfl rfl ?_
      obtain ⟨c6, h⟩ := h
      refine u_icmp_ne (tgt := 71) (pc' := 40) dX10_would_37 rfl (by decide) r5 c6 (fun hb => ?_) (fun hb => ?_)
      · have h := h.1 hb
        refine s_iinc (i := 3) (ls' := [some (vR 2), some (vI x1), some (vI x2), some (vI (x3 + 1)), some (vR o3)]) (pc' := 74) dX10_would_71 rfl rfl (Nat.le_of_ble_eq_true rfl) rfl rfl ?_
        refine u_goto (tgt := 14) dX10_would_74 (by decide) ?_
        exact u_less (ls' := [some (vR 2), some (vI x1), some (vI x2), some (vI (x3 + 1)), none]) ⟨rfl, ⟨rfl, ⟨rfl, ⟨rfl, trivial⟩⟩⟩⟩ h
      · have h := h.2 hb
        refine u_aload_n (i := 0) (pc' := 41) dX10_would_40 rfl rfl rfl ?_
        refine u_iload_n (i := 1) (pc' := 42) dX10_would_41 rfl rfl rfl ?_
        refine u_invV (q' := qX10_tryAt) (As := [vI x1]) (st := []) (pc' := 45) dX10_would_42 rfl gX10_tryAt wm_969 rfl rfl (by decide) kd_2 wm_971 wp_50 rfl (Nat.le_of_ble_eq_true rfl) (M0.mono h (fun v τ7 h => ?_))
        obtain ⟨b8, rfl, h⟩ := h
        show V0 E (d + 1) qX10_would 45 [some (vR 2), some (vI x1), some (vI x2), some (vI x3), some (vR o3)] [vB b8] τ7 Q
        refine u_if_eq (tgt := 71) (pc' := 48) dX10_would_45 rfl (by decide) (bI_R _) (fun hb => ?_) (fun hb => ?_)
        · have h := h.1 (bI_0.mp hb)
          refine s_iinc (i := 3) (ls' := [some (vR 2), some (vI x1), some (vI x2), some (vI (x3 + 1)), some (vR o3)]) (pc' := 74) dX10_would_71 rfl rfl (Nat.le_of_ble_eq_true rfl) rfl rfl ?_
          refine u_goto (tgt := 14) dX10_would_74 (by decide) ?_
          exact u_less (ls' := [some (vR 2), some (vI x1), some (vI x2), some (vI (x3 + 1)), none]) ⟨rfl, ⟨rfl, ⟨rfl, ⟨rfl, trivial⟩⟩⟩⟩ h
        · have h := h.2 (bI_n0.mp hb)
          refine u_aload_n (i := 0) (pc' := 49) dX10_would_48 rfl rfl rfl ?_
          refine u_aload (i := 4) (pc' := 51) dX10_would_49 rfl rfl ?_
          refine u_getI (z := (τ7 o3 2)) (pc' := 54) dX10_would_51 rfl fl_TuneDoor_193 rfl (by decide) (kPerson k4) k4 rfl (fun r9 => ?_)
          refine u_aload (i := 4) (pc' := 56) dX10_would_54 rfl rfl ?_
          refine u_getI (z := (τ7 o3 5)) (pc' := 59) dX10_would_56 rfl fl_TuneDoor_196 rfl (by decide) (kPerson k4) k4 rfl (fun r10 => ?_)
          refine u_invV (q' := qX10_trialOpens) (As := [vI (τ7 o3 2), vI (τ7 o3 5)]) (st := []) (pc' := 62) dX10_would_59 rfl gX10_trialOpens wm_977 rfl rfl (by decide) kd_2 wm_979 wp_51 rfl (Nat.le_of_ble_eq_true rfl) (M0.mono h (fun v τ11 h => ?_))
          obtain ⟨b12, rfl, h⟩ := h
          show V0 E (d + 1) qX10_would 62 [some (vR 2), some (vI x1), some (vI x2), some (vI x3), some (vR o3)] [vB b12] τ11 Q
          refine u_if_eq (tgt := 71) (pc' := 65) dX10_would_62 rfl (by decide) (bI_R _) (fun hb => ?_) (fun hb => ?_)
          · have h := h.1 (bI_0.mp hb)
            refine s_iinc (i := 3) (ls' := [some (vR 2), some (vI x1), some (vI x2), some (vI (x3 + 1)), some (vR o3)]) (pc' := 74) dX10_would_71 rfl rfl (Nat.le_of_ble_eq_true rfl) rfl rfl ?_
            refine u_goto (tgt := 14) dX10_would_74 (by decide) ?_
            exact u_less (ls' := [some (vR 2), some (vI x1), some (vI x2), some (vI (x3 + 1)), none]) ⟨rfl, ⟨rfl, ⟨rfl, ⟨rfl, trivial⟩⟩⟩⟩ h
          · have h := h.2 (bI_n0.mp hb)
            refine u_iload_n (i := 2) (pc' := 66) dX10_would_65 rfl rfl rfl ?_
            refine u_iconst (pc' := 67) dX10_would_66 rfl ?_
            refine u_iload_n (i := 3) (pc' := 68) dX10_would_67 rfl rfl rfl ?_
            refine u_ishl (pc' := 69) dX10_would_68 rfl ?_
            refine u_ior (pc' := 70) dX10_would_69 rfl ?_
            refine s_istore_n (i := 2) (ls' := [some (vR 2), some (vI x1), some (vI (mm_or x2 (mm_shl 1 x3))), some (vI x3), some (vR o3)]) (pc' := 71) dX10_would_70 rfl rfl (Nat.le_of_ble_eq_true rfl) rfl rfl ?_
            refine s_iinc (i := 3) (ls' := [some (vR 2), some (vI x1), some (vI (mm_or x2 (mm_shl 1 x3))), some (vI (x3 + 1)), some (vR o3)]) (pc' := 74) dX10_would_71 rfl rfl (Nat.le_of_ble_eq_true rfl) rfl rfl ?_
            refine u_goto (tgt := 14) dX10_would_74 (by decide) ?_
            exact u_less (ls' := [some (vR 2), some (vI x1), some (vI (mm_or x2 (mm_shl 1 x3))), some (vI (x3 + 1)), none]) ⟨rfl, ⟨rfl, ⟨rfl, ⟨rfl, trivial⟩⟩⟩⟩ h
set_option maxRecDepth 20000 in
theorem bX10_likely_0 {E : mm_Env} {d : Nat} {τ : mm_Mem} {Q : mm_Q0} {a0 : Int} {a1 : Int} (h : M0 E d qX10_weighWays [vR 2, vI a0, vI a1, vB false] τ (fun v τ1 => ∃ r2 : Int, v = some (vL r2) ∧ Q (some (vL r2)) τ1)) : V0 E (d + 1) qX10_likely 0 [some (vR 2), some (vI a0), some (vI a1)] [] τ Q := by
  refine u_aload_n (i := 0) (pc' := 1) dX10_likely_0 rfl rfl rfl ?_
  refine u_iload_n (i := 1) (pc' := 2) dX10_likely_1 rfl rfl rfl ?_
  refine u_iload_n (i := 2) (pc' := 3) dX10_likely_2 rfl rfl rfl ?_
  refine u_iconst (pc' := 4) dX10_likely_3 rfl ?_
  refine u_invV (q' := qX10_weighWays) (As := [vI a0, vI a1, vB false]) (st := []) (pc' := 7) dX10_likely_4 rfl gX10_weighWays wm_989 rfl rfl (by decide) kd_2 wm_991 wp_52 rfl (Nat.le_of_ble_eq_true rfl) (M0.mono h (fun v τ1 h => ?_))
  obtain ⟨r2, rfl, h⟩ := h
  show V0 E (d + 1) qX10_likely 7 [some (vR 2), some (vI a0), some (vI a1)] [vL r2] τ1 Q
  exact u_lret dX10_likely_7 rfl h
theorem mX10_likely {E : mm_Env} {d : Nat} {τ : mm_Mem} {Q : mm_Q0} {a0 : Int} {a1 : Int} (h : M0 E d qX10_weighWays [vR 2, vI a0, vI a1, vB false] τ (fun v τ1 => ∃ r2 : Int, v = some (vL r2) ∧ Q (some (vL r2)) τ1)) : M0 E (d + 1) qX10_likely [vR 2, vI a0, vI a1] τ Q := M0_of rfl (Nat.le_of_ble_eq_true rfl) [some (vR 2), some (vI a0), some (vI a1)] rfl (bX10_likely_0  h)
set_option maxRecDepth 20000 in
theorem bX10_weighWays_0 {E : mm_Env} {d : Nat} {τ : mm_Mem} {Q : mm_Q0} {a0 : Int} {a1 : Int} {a2 : Bool} (h : M0 E d qX10_personAt [vR 2, vI a0] τ (fun v τ1 => ∃ o2 : Nat, v = some (vR o2) ∧ ((¬ o2 = 0 → KD o2 = some (.inr 3) ∧ M0 E d qX10_doorAt [vR 2, vI (τ1 o2 1)] τ1 (fun v τ5 => ∃ o6 : Nat, v = some (vR o6) ∧ ((o6 = 0 → Q (some (vL (-1))) τ5) ∧ (¬ o6 = 0 → inR a1 ∧ ((a1 < 1 → Q (some (vL (-1))) τ5) ∧ (¬ a1 < 1 → ((a1 ≤ 8 → M0 E d qX8_weigh [vR 95, vR o2, vR o6, vI a1, vB a2] τ5 (fun v τ8 => ∃ r9 : Int, v = some (vL r9) ∧ Q (some (vL r9)) τ8)) ∧ (¬ a1 ≤ 8 → Q (some (vL (-1))) τ5)))))))) ∧ (o2 = 0 → Q (some (vL (-1))) τ1)))) : V0 E (d + 1) qX10_weighWays 0 [some (vR 2), some (vI a0), some (vI a1), some (vB a2), none, none] [] τ Q := by
  refine u_aload_n (i := 0) (pc' := 1) dX10_weighWays_0 rfl rfl rfl ?_
  refine u_iload_n (i := 1) (pc' := 2) dX10_weighWays_1 rfl rfl rfl ?_
  refine u_invV (q' := qX10_personAt) (As := [vI a0]) (st := []) (pc' := 5) dX10_weighWays_2 rfl gX10_personAt wm_837 rfl rfl (by decide) kd_2 wm_839 wp_44 rfl (Nat.le_of_ble_eq_true rfl) (M0.mono h (fun v τ1 h => ?_))
  obtain ⟨o2, rfl, h⟩ := h
  show V0 E (d + 1) qX10_weighWays 5 [some (vR 2), some (vI a0), some (vI a1), some (vB a2), none, none] [vR o2] τ1 Q
  refine s_astore (i := 4) (ls' := [some (vR 2), some (vI a0), some (vI a1), some (vB a2), some (vR o2), none]) (pc' := 7) dX10_weighWays_5 rfl (Nat.le_of_ble_eq_true rfl) rfl rfl ?_
  refine u_aload (i := 4) (pc' := 9) dX10_weighWays_7 rfl rfl ?_
  refine u_ifnonnull (tgt := 16) (pc' := 12) dX10_weighWays_9 rfl (by decide) (fun hb => ?_) (fun hb => ?_)
  · have h := h.1 hb
    refine u_aload_n (i := 0) (pc' := 17) dX10_weighWays_16 rfl rfl rfl ?_
    refine u_aload (i := 4) (pc' := 19) dX10_weighWays_17 rfl rfl ?_
    obtain ⟨k3, h⟩ := h
    refine u_getI (z := (τ1 o2 1)) (pc' := 22) dX10_weighWays_19 rfl fl_TuneDoor_190 rfl (by decide) (kPerson k3) k3 rfl (fun r4 => ?_)
    refine u_invV (q' := qX10_doorAt) (As := [vI (τ1 o2 1)]) (st := []) (pc' := 25) dX10_weighWays_22 rfl gX10_doorAt wm_833 rfl rfl (by decide) kd_2 wm_835 wp_43 rfl (Nat.le_of_ble_eq_true rfl) (M0.mono h (fun v τ5 h => ?_))
    obtain ⟨o6, rfl, h⟩ := h
    show V0 E (d + 1) qX10_weighWays 25 [some (vR 2), some (vI a0), some (vI a1), some (vB a2), some (vR o2), none] [vR o6] τ5 Q
    refine s_astore (i := 5) (ls' := [some (vR 2), some (vI a0), some (vI a1), some (vB a2), some (vR o2), some (vR o6)]) (pc' := 27) dX10_weighWays_25 rfl (Nat.le_of_ble_eq_true rfl) rfl rfl ?_
    refine u_aload (i := 5) (pc' := 29) dX10_weighWays_27 rfl rfl ?_
    refine u_ifnull (tgt := 43) (pc' := 32) dX10_weighWays_29 rfl (by decide) (fun hb => ?_) (fun hb => ?_)
    · have h := h.1 hb
      refine u_ldc2 (z := (-1)) (pc' := 46) dX10_weighWays_43 rfl wm_993 (by decide) ?_
      exact u_lret dX10_weighWays_46 rfl h
    · have h := h.2 hb
      refine u_iload_n (i := 2) (pc' := 33) dX10_weighWays_32 rfl rfl rfl ?_
      refine u_iconst (pc' := 34) dX10_weighWays_33 rfl ?_
      obtain ⟨c7, h⟩ := h
      refine u_icmp_lt (tgt := 43) (pc' := 37) dX10_weighWays_34 rfl (by decide) c7 ⟨by decide, by decide⟩ (fun hb => ?_) (fun hb => ?_)
      · have h := h.1 hb
        refine u_ldc2 (z := (-1)) (pc' := 46) dX10_weighWays_43 rfl wm_993 (by decide) ?_
        exact u_lret dX10_weighWays_46 rfl h
      · have h := h.2 hb
        refine u_iload_n (i := 2) (pc' := 38) dX10_weighWays_37 rfl rfl rfl ?_
        refine u_bipush (pc' := 40) dX10_weighWays_38 rfl (by decide) ?_
        refine u_icmp_le (tgt := 47) (pc' := 43) dX10_weighWays_40 rfl (by decide) c7 ⟨by decide, by decide⟩ (fun hb => ?_) (fun hb => ?_)
        · have h := h.1 hb
          refine u_aload_n (i := 0) (pc' := 48) dX10_weighWays_47 rfl rfl rfl ?_
          refine u_getR (a := 95) (pc' := 51) dX10_weighWays_48 rfl fl_TuneDoor_58 rfl (by decide) kd_2 rfl ?_
          refine u_aload (i := 4) (pc' := 53) dX10_weighWays_51 rfl rfl ?_
          refine u_aload (i := 5) (pc' := 55) dX10_weighWays_53 rfl rfl ?_
          refine u_iload_n (i := 2) (pc' := 56) dX10_weighWays_55 rfl rfl rfl ?_
          refine u_iload_n (i := 3) (pc' := 57) dX10_weighWays_56 rfl rfl rfl ?_
          refine u_invV (q' := qX8_weigh) (As := [vR o2, vR o6, vI a1, vB a2]) (st := []) (pc' := 60) dX10_weighWays_57 rfl gX8_weigh wm_994 rfl rfl (by decide) kd_95 wm_995 wm_996 rfl (Nat.le_of_ble_eq_true rfl) (M0.mono h (fun v τ8 h => ?_))
          obtain ⟨r9, rfl, h⟩ := h
          show V0 E (d + 1) qX10_weighWays 60 [some (vR 2), some (vI a0), some (vI a1), some (vB a2), some (vR o2), some (vR o6)] [vL r9] τ8 Q
          exact u_lret dX10_weighWays_60 rfl h
        · have h := h.2 hb
          refine u_ldc2 (z := (-1)) (pc' := 46) dX10_weighWays_43 rfl wm_993 (by decide) ?_
          exact u_lret dX10_weighWays_46 rfl h
  · have h := h.2 hb
    refine u_null (pc' := 13) dX10_weighWays_12 rfl ?_
    refine u_goto (tgt := 25) dX10_weighWays_13 (by decide) ?_
    refine s_astore (i := 5) (ls' := [some (vR 2), some (vI a0), some (vI a1), some (vB a2), some (vR o2), some (vR 0)]) (pc' := 27) dX10_weighWays_25 rfl (Nat.le_of_ble_eq_true rfl) rfl rfl ?_
    refine u_aload (i := 5) (pc' := 29) dX10_weighWays_27 rfl rfl ?_
    refine u_ifnull (tgt := 43) (pc' := 32) dX10_weighWays_29 rfl (by decide) (fun _ => ?_) (fun hb => absurd rfl hb)
    refine u_ldc2 (z := (-1)) (pc' := 46) dX10_weighWays_43 rfl wm_993 (by decide) ?_
    exact u_lret dX10_weighWays_46 rfl h
theorem mX10_weighWays {E : mm_Env} {d : Nat} {τ : mm_Mem} {Q : mm_Q0} {a0 : Int} {a1 : Int} {a2 : Bool} (h : M0 E d qX10_personAt [vR 2, vI a0] τ (fun v τ1 => ∃ o2 : Nat, v = some (vR o2) ∧ ((¬ o2 = 0 → KD o2 = some (.inr 3) ∧ M0 E d qX10_doorAt [vR 2, vI (τ1 o2 1)] τ1 (fun v τ5 => ∃ o6 : Nat, v = some (vR o6) ∧ ((o6 = 0 → Q (some (vL (-1))) τ5) ∧ (¬ o6 = 0 → inR a1 ∧ ((a1 < 1 → Q (some (vL (-1))) τ5) ∧ (¬ a1 < 1 → ((a1 ≤ 8 → M0 E d qX8_weigh [vR 95, vR o2, vR o6, vI a1, vB a2] τ5 (fun v τ8 => ∃ r9 : Int, v = some (vL r9) ∧ Q (some (vL r9)) τ8)) ∧ (¬ a1 ≤ 8 → Q (some (vL (-1))) τ5)))))))) ∧ (o2 = 0 → Q (some (vL (-1))) τ1)))) : M0 E (d + 1) qX10_weighWays [vR 2, vI a0, vI a1, vB a2] τ Q := M0_of rfl (Nat.le_of_ble_eq_true rfl) [some (vR 2), some (vI a0), some (vI a1), some (vB a2), none, none] rfl (bX10_weighWays_0  h)
set_option maxRecDepth 20000 in
theorem bX10_lost_0 {E : mm_Env} {d : Nat} {τ : mm_Mem} {Q : mm_Q0} {a0 : Int} {a1 : Int} (h : M0 E d qX10_weighWays [vR 2, vI a0, vI a1, vB true] τ (fun v τ1 => ∃ r2 : Int, v = some (vL r2) ∧ Q (some (vL r2)) τ1)) : V0 E (d + 1) qX10_lost 0 [some (vR 2), some (vI a0), some (vI a1)] [] τ Q := by
  refine u_aload_n (i := 0) (pc' := 1) dX10_lost_0 rfl rfl rfl ?_
  refine u_iload_n (i := 1) (pc' := 2) dX10_lost_1 rfl rfl rfl ?_
  refine u_iload_n (i := 2) (pc' := 3) dX10_lost_2 rfl rfl rfl ?_
  refine u_iconst (pc' := 4) dX10_lost_3 rfl ?_
  refine u_invV (q' := qX10_weighWays) (As := [vI a0, vI a1, vB true]) (st := []) (pc' := 7) dX10_lost_4 rfl gX10_weighWays wm_989 rfl rfl (by decide) kd_2 wm_991 wp_52 rfl (Nat.le_of_ble_eq_true rfl) (M0.mono h (fun v τ1 h => ?_))
  obtain ⟨r2, rfl, h⟩ := h
  show V0 E (d + 1) qX10_lost 7 [some (vR 2), some (vI a0), some (vI a1)] [vL r2] τ1 Q
  exact u_lret dX10_lost_7 rfl h
theorem mX10_lost {E : mm_Env} {d : Nat} {τ : mm_Mem} {Q : mm_Q0} {a0 : Int} {a1 : Int} (h : M0 E d qX10_weighWays [vR 2, vI a0, vI a1, vB true] τ (fun v τ1 => ∃ r2 : Int, v = some (vL r2) ∧ Q (some (vL r2)) τ1)) : M0 E (d + 1) qX10_lost [vR 2, vI a0, vI a1] τ Q := M0_of rfl (Nat.le_of_ble_eq_true rfl) [some (vR 2), some (vI a0), some (vI a1)] rfl (bX10_lost_0  h)
set_option maxRecDepth 20000 in
theorem bX10_bears_0 {E : mm_Env} {d : Nat} {τ : mm_Mem} {Q : mm_Q0} {a0 : Int} (h : M0 E d qX10_personAt [vR 2, vI a0] τ (fun v τ1 => ∃ o2 : Nat, v = some (vR o2) ∧ ((¬ o2 = 0 → V0 E (d + 1) qX10_bears 17 [some (vR 2), none, some (vR o2), some (vI (-1)), some (vI 0)] [] τ1 Q) ∧ (o2 = 0 → Q (some (vI (-1))) τ1)))) : V0 E (d + 1) qX10_bears 0 [some (vR 2), some (vI a0), none, none, none] [] τ Q := by
  refine u_aload_n (i := 0) (pc' := 1) dX10_bears_0 rfl rfl rfl ?_
  refine u_iload_n (i := 1) (pc' := 2) dX10_bears_1 rfl rfl rfl ?_
  refine u_invV (q' := qX10_personAt) (As := [vI a0]) (st := []) (pc' := 5) dX10_bears_2 rfl gX10_personAt wm_837 rfl rfl (by decide) kd_2 wm_839 wp_44 rfl (Nat.le_of_ble_eq_true rfl) (M0.mono h (fun v τ1 h => ?_))
  obtain ⟨o2, rfl, h⟩ := h
  show V0 E (d + 1) qX10_bears 5 [some (vR 2), some (vI a0), none, none, none] [vR o2] τ1 Q
  refine s_astore_n (i := 2) (ls' := [some (vR 2), some (vI a0), some (vR o2), none, none]) (pc' := 6) dX10_bears_5 rfl rfl (Nat.le_of_ble_eq_true rfl) rfl rfl ?_
  refine u_aload_n (i := 2) (pc' := 7) dX10_bears_6 rfl rfl rfl ?_
  refine u_ifnonnull (tgt := 12) (pc' := 10) dX10_bears_7 rfl (by decide) (fun hb => ?_) (fun hb => ?_)
  · have h := h.1 hb
    refine u_iconst (pc' := 13) dX10_bears_12 rfl ?_
    refine s_istore_n (i := 3) (ls' := [some (vR 2), some (vI a0), some (vR o2), some (vI (-1)), none]) (pc' := 14) dX10_bears_13 rfl rfl (Nat.le_of_ble_eq_true rfl) rfl rfl ?_
    refine u_iconst (pc' := 15) dX10_bears_14 rfl ?_
    refine s_istore (i := 4) (ls' := [some (vR 2), some (vI a0), some (vR o2), some (vI (-1)), some (vI 0)]) (pc' := 17) dX10_bears_15 rfl (Nat.le_of_ble_eq_true rfl) rfl rfl ?_
    exact u_less (ls' := [some (vR 2), none, some (vR o2), some (vI (-1)), some (vI 0)]) ⟨rfl, ⟨rfl, ⟨rfl, ⟨rfl, trivial⟩⟩⟩⟩ h
  · have h := h.2 hb
    refine u_iconst (pc' := 11) dX10_bears_10 rfl ?_
    exact u_iret dX10_bears_11 rfl h
theorem mX10_bears {E : mm_Env} {d : Nat} {τ : mm_Mem} {Q : mm_Q0} {a0 : Int} (h : M0 E d qX10_personAt [vR 2, vI a0] τ (fun v τ1 => ∃ o2 : Nat, v = some (vR o2) ∧ ((¬ o2 = 0 → V0 E (d + 1) qX10_bears 17 [some (vR 2), none, some (vR o2), some (vI (-1)), some (vI 0)] [] τ1 Q) ∧ (o2 = 0 → Q (some (vI (-1))) τ1)))) : M0 E (d + 1) qX10_bears [vR 2, vI a0] τ Q := M0_of rfl (Nat.le_of_ble_eq_true rfl) [some (vR 2), some (vI a0), none, none, none] rfl (bX10_bears_0  h)
set_option maxRecDepth 20000 in
theorem bX10_bears_17 {E : mm_Env} {d : Nat} {τ : mm_Mem} {Q : mm_Q0} {x2 : Nat} {x3 : Int} {x4 : Int} (h : inR x4 ∧ ((60 < x4 → Q (some (vI x3)) τ) ∧ (¬ 60 < x4 → KD x2 = some (.inr 3) ∧ M0 E d qX10_tryAt [vR 2, vI (τ x2 1)] τ (fun v τ4 => ∃ b5 : Bool, v = some (vB b5) ∧ ((b5 = false → Q (some (vI x3)) τ4) ∧ (b5 = true → M0 E d qX10_trialOpens [vR 2, vI (τ4 x2 2), vI ((τ4 x2 5) + x4)] τ4 (fun v τ8 => ∃ b9 : Bool, v = some (vB b9) ∧ ((b9 = true → V0 E (d + 1) qX10_bears 17 [some (vR 2), none, some (vR x2), some (vI x4), some (vI (x4 + 1))] [] τ8 Q) ∧ (b9 = false → Q (some (vI x3)) τ8))))))))) : V0 E (d + 1) qX10_bears 17 [some (vR 2), none, some (vR x2), some (vI x3), some (vI x4)] [] τ Q := by
  refine u_iload (i := 4) (pc' := 19) dX10_bears_17 rfl rfl ?_
  refine u_bipush (pc' := 21) dX10_bears_19 rfl (by decide) ?_
  obtain ⟨c1, h⟩ := h
  refine u_icmp_gt (tgt := 64) (pc' := 24) dX10_bears_21 rfl (by decide) c1 ⟨by decide, by decide⟩ (fun hb => ?_) (fun hb => ?_)
  · have h := h.1 hb
    refine u_iload_n (i := 3) (pc' := 65) dX10_bears_64 rfl rfl rfl ?_
    exact u_iret dX10_bears_65 rfl h
  · have h := h.2 hb
    refine u_aload_n (i := 0) (pc' := 25) dX10_bears_24 rfl rfl rfl ?_
    refine u_aload_n (i := 2) (pc' := 26) dX10_bears_25 rfl rfl rfl ?_
    obtain ⟨k2, h⟩ := h
    refine u_getI (z := (τ x2 1)) (pc' := 29) dX10_bears_26 rfl fl_TuneDoor_190 rfl (by decide) (kPerson k2) k2 rfl (fun r3 => ?_)
    refine u_invV (q' := qX10_tryAt) (As := [vI (τ x2 1)]) (st := []) (pc' := 32) dX10_bears_29 rfl gX10_tryAt wm_969 rfl rfl (by decide) kd_2 wm_971 wp_50 rfl (Nat.le_of_ble_eq_true rfl) (M0.mono h (fun v τ4 h => ?_))
    obtain ⟨b5, rfl, h⟩ := h
    show V0 E (d + 1) qX10_bears 32 [some (vR 2), none, some (vR x2), some (vI x3), some (vI x4)] [vB b5] τ4 Q
    refine u_if_eq (tgt := 53) (pc' := 35) dX10_bears_32 rfl (by decide) (bI_R _) (fun hb => ?_) (fun hb => ?_)
    · have h := h.1 (bI_0.mp hb)
      refine u_iload_n (i := 3) (pc' := 54) dX10_bears_53 rfl rfl rfl ?_
      exact u_iret dX10_bears_54 rfl h
    · have h := h.2 (bI_n0.mp hb)
      refine u_aload_n (i := 0) (pc' := 36) dX10_bears_35 rfl rfl rfl ?_
      refine u_aload_n (i := 2) (pc' := 37) dX10_bears_36 rfl rfl rfl ?_
      refine u_getI (z := (τ4 x2 2)) (pc' := 40) dX10_bears_37 rfl fl_TuneDoor_193 rfl (by decide) (kPerson k2) k2 rfl (fun r6 => ?_)
      refine u_aload_n (i := 2) (pc' := 41) dX10_bears_40 rfl rfl rfl ?_
      refine u_getI (z := (τ4 x2 5)) (pc' := 44) dX10_bears_41 rfl fl_TuneDoor_196 rfl (by decide) (kPerson k2) k2 rfl (fun r7 => ?_)
      refine u_iload (i := 4) (pc' := 46) dX10_bears_44 rfl rfl ?_
      refine u_iadd (pc' := 47) dX10_bears_46 rfl ?_
      refine u_invV (q' := qX10_trialOpens) (As := [vI (τ4 x2 2), vI ((τ4 x2 5) + x4)]) (st := []) (pc' := 50) dX10_bears_47 rfl gX10_trialOpens wm_977 rfl rfl (by decide) kd_2 wm_979 wp_51 rfl (Nat.le_of_ble_eq_true rfl) (M0.mono h (fun v τ8 h => ?_))
      obtain ⟨b9, rfl, h⟩ := h
      show V0 E (d + 1) qX10_bears 50 [some (vR 2), none, some (vR x2), some (vI x3), some (vI x4)] [vB b9] τ8 Q
      refine u_if_ne (tgt := 55) (pc' := 53) dX10_bears_50 rfl (by decide) (bI_R _) (fun hb => ?_) (fun hb => ?_)
      · have h := h.1 (bI_n0.mp hb)
        refine u_iload (i := 4) (pc' := 57) dX10_bears_55 rfl rfl ?_
        refine s_istore_n (i := 3) (ls' := [some (vR 2), none, some (vR x2), some (vI x4), some (vI x4)]) (pc' := 58) dX10_bears_57 rfl rfl (Nat.le_of_ble_eq_true rfl) rfl rfl ?_
        refine s_iinc (i := 4) (ls' := [some (vR 2), none, some (vR x2), some (vI x4), some (vI (x4 + 1))]) (pc' := 61) dX10_bears_58 rfl rfl (Nat.le_of_ble_eq_true rfl) rfl rfl ?_
        refine u_goto (tgt := 17) dX10_bears_61 (by decide) ?_
        exact u_less (ls' := [some (vR 2), none, some (vR x2), some (vI x4), some (vI (x4 + 1))]) ⟨rfl, ⟨rfl, ⟨rfl, ⟨rfl, trivial⟩⟩⟩⟩ h
      · have h := h.2 (bI_0.mp hb)
        refine u_iload_n (i := 3) (pc' := 54) dX10_bears_53 rfl rfl rfl ?_
        exact u_iret dX10_bears_54 rfl h
set_option maxRecDepth 20000 in
theorem bX10_stranger_0 {E : mm_Env} {d : Nat} {τ : mm_Mem} {Q : mm_Q0} {a0 : Int} {a1 : Int} (h : M0 E d qX10_doorAt [vR 2, vI a0] τ (fun v τ1 => ∃ o2 : Nat, v = some (vR o2) ∧ ((o2 = 0 → Q (some (vL (-1))) τ1) ∧ (¬ o2 = 0 → inR a1 ∧ ((a1 < (-1) → Q (some (vL (-1))) τ1) ∧ (¬ a1 < (-1) → ((a1 ≤ 500 → M0 E d qX7_countOpening [vR 133, vR o2] τ1 (fun v τ4 => ∃ r5 : Int, v = some (vI r5) ∧ ((a1 ≠ (-1) → M0 E d qX10_strangersChance [vR 2, vI r5, vI a1] τ4 (fun v τ6 => ∃ r7 : Int, v = some (vL r7) ∧ Q (some (vL r7)) τ6)) ∧ (a1 = (-1) → inR r5 ∧ Q (some (vL r5)) τ4)))) ∧ (¬ a1 ≤ 500 → Q (some (vL (-1))) τ1)))))))) : V0 E (d + 1) qX10_stranger 0 [some (vR 2), some (vI a0), some (vI a1), none, none] [] τ Q := by
  refine u_aload_n (i := 0) (pc' := 1) dX10_stranger_0 rfl rfl rfl ?_
  refine u_iload_n (i := 1) (pc' := 2) dX10_stranger_1 rfl rfl rfl ?_
  refine u_invV (q' := qX10_doorAt) (As := [vI a0]) (st := []) (pc' := 5) dX10_stranger_2 rfl gX10_doorAt wm_833 rfl rfl (by decide) kd_2 wm_835 wp_43 rfl (Nat.le_of_ble_eq_true rfl) (M0.mono h (fun v τ1 h => ?_))
  obtain ⟨o2, rfl, h⟩ := h
  show V0 E (d + 1) qX10_stranger 5 [some (vR 2), some (vI a0), some (vI a1), none, none] [vR o2] τ1 Q
  refine s_astore_n (i := 3) (ls' := [some (vR 2), some (vI a0), some (vI a1), some (vR o2), none]) (pc' := 6) dX10_stranger_5 rfl rfl (Nat.le_of_ble_eq_true rfl) rfl rfl ?_
  refine u_aload_n (i := 3) (pc' := 7) dX10_stranger_6 rfl rfl rfl ?_
  refine u_ifnull (tgt := 22) (pc' := 10) dX10_stranger_7 rfl (by decide) (fun hb => ?_) (fun hb => ?_)
  · have h := h.1 hb
    refine u_ldc2 (z := (-1)) (pc' := 25) dX10_stranger_22 rfl wm_993 (by decide) ?_
    exact u_lret dX10_stranger_25 rfl h
  · have h := h.2 hb
    refine u_iload_n (i := 2) (pc' := 11) dX10_stranger_10 rfl rfl rfl ?_
    refine u_iconst (pc' := 12) dX10_stranger_11 rfl ?_
    obtain ⟨c3, h⟩ := h
    refine u_icmp_lt (tgt := 22) (pc' := 15) dX10_stranger_12 rfl (by decide) c3 ⟨by decide, by decide⟩ (fun hb => ?_) (fun hb => ?_)
    · have h := h.1 hb
      refine u_ldc2 (z := (-1)) (pc' := 25) dX10_stranger_22 rfl wm_993 (by decide) ?_
      exact u_lret dX10_stranger_25 rfl h
    · have h := h.2 hb
      refine u_iload_n (i := 2) (pc' := 16) dX10_stranger_15 rfl rfl rfl ?_
      refine u_sipush (pc' := 19) dX10_stranger_16 rfl (by decide) ?_
      refine u_icmp_le (tgt := 26) (pc' := 22) dX10_stranger_19 rfl (by decide) c3 ⟨by decide, by decide⟩ (fun hb => ?_) (fun hb => ?_)
      · have h := h.1 hb
        refine u_aload_n (i := 0) (pc' := 27) dX10_stranger_26 rfl rfl rfl ?_
        refine u_getR (a := 133) (pc' := 30) dX10_stranger_27 rfl fl_TuneDoor_65 rfl (by decide) kd_2 rfl ?_
        refine u_aload_n (i := 3) (pc' := 31) dX10_stranger_30 rfl rfl rfl ?_
        refine u_invV (q' := qX7_countOpening) (As := [vR o2]) (st := []) (pc' := 34) dX10_stranger_31 rfl gX7_countOpening wm_1020 rfl rfl (by decide) kd_133 wm_1021 wm_1022 rfl (Nat.le_of_ble_eq_true rfl) (M0.mono h (fun v τ4 h => ?_))
        obtain ⟨r5, rfl, h⟩ := h
        show V0 E (d + 1) qX10_stranger 34 [some (vR 2), some (vI a0), some (vI a1), some (vR o2), none] [vI r5] τ4 Q
        refine s_istore (i := 4) (ls' := [some (vR 2), some (vI a0), some (vI a1), some (vR o2), some (vI r5)]) (pc' := 36) dX10_stranger_34 rfl (Nat.le_of_ble_eq_true rfl) rfl rfl ?_
        refine u_iload_n (i := 2) (pc' := 37) dX10_stranger_36 rfl rfl rfl ?_
        refine u_iconst (pc' := 38) dX10_stranger_37 rfl ?_
        refine u_icmp_ne (tgt := 47) (pc' := 41) dX10_stranger_38 rfl (by decide) c3 ⟨by decide, by decide⟩ (fun hb => ?_) (fun hb => ?_)
        · have h := h.1 hb
          refine u_aload_n (i := 0) (pc' := 48) dX10_stranger_47 rfl rfl rfl ?_
          refine u_iload (i := 4) (pc' := 50) dX10_stranger_48 rfl rfl ?_
          refine u_iload_n (i := 2) (pc' := 51) dX10_stranger_50 rfl rfl rfl ?_
          refine u_invV (q' := qX10_strangersChance) (As := [vI r5, vI a1]) (st := []) (pc' := 54) dX10_stranger_51 rfl gX10_strangersChance wm_1055 rfl rfl (by decide) kd_2 wm_1057 wp_59 rfl (Nat.le_of_ble_eq_true rfl) (M0.mono h (fun v τ6 h => ?_))
          obtain ⟨r7, rfl, h⟩ := h
          show V0 E (d + 1) qX10_stranger 54 [some (vR 2), some (vI a0), some (vI a1), some (vR o2), some (vI r5)] [vL r7] τ6 Q
          exact u_lret dX10_stranger_54 rfl h
        · have h := h.2 hb
          refine u_iload (i := 4) (pc' := 43) dX10_stranger_41 rfl rfl ?_
          obtain ⟨c8, h⟩ := h
          refine u_i2l (pc' := 44) dX10_stranger_43 rfl c8 ?_
          refine u_goto (tgt := 54) dX10_stranger_44 (by decide) ?_
          exact u_lret dX10_stranger_54 rfl h
      · have h := h.2 hb
        refine u_ldc2 (z := (-1)) (pc' := 25) dX10_stranger_22 rfl wm_993 (by decide) ?_
        exact u_lret dX10_stranger_25 rfl h
theorem mX10_stranger {E : mm_Env} {d : Nat} {τ : mm_Mem} {Q : mm_Q0} {a0 : Int} {a1 : Int} (h : M0 E d qX10_doorAt [vR 2, vI a0] τ (fun v τ1 => ∃ o2 : Nat, v = some (vR o2) ∧ ((o2 = 0 → Q (some (vL (-1))) τ1) ∧ (¬ o2 = 0 → inR a1 ∧ ((a1 < (-1) → Q (some (vL (-1))) τ1) ∧ (¬ a1 < (-1) → ((a1 ≤ 500 → M0 E d qX7_countOpening [vR 133, vR o2] τ1 (fun v τ4 => ∃ r5 : Int, v = some (vI r5) ∧ ((a1 ≠ (-1) → M0 E d qX10_strangersChance [vR 2, vI r5, vI a1] τ4 (fun v τ6 => ∃ r7 : Int, v = some (vL r7) ∧ Q (some (vL r7)) τ6)) ∧ (a1 = (-1) → inR r5 ∧ Q (some (vL r5)) τ4)))) ∧ (¬ a1 ≤ 500 → Q (some (vL (-1))) τ1)))))))) : M0 E (d + 1) qX10_stranger [vR 2, vI a0, vI a1] τ Q := M0_of rfl (Nat.le_of_ble_eq_true rfl) [some (vR 2), some (vI a0), some (vI a1), none, none] rfl (bX10_stranger_0  h)
set_option maxRecDepth 20000 in
theorem bX10_strangersChance_0 {E : mm_Env} {d : Nat} {τ : mm_Mem} {Q : mm_Q0} {a0 : Int} {a1 : Int} (h : V0 E d qX10_strangersChance 17 [none, some (vI a0), some (vI a1), some (vL (τ 78 5)), none, some (vL 1000000000), none, some (vI 0)] [] τ Q) : V0 E d qX10_strangersChance 0 [some (vR 2), some (vI a0), some (vI a1), none, none, none, none, none] [] τ Q := by
  refine u_aload_n (i := 0) (pc' := 1) dX10_strangersChance_0 rfl rfl rfl ?_
  refine u_getR (a := 78) (pc' := 4) dX10_strangersChance_1 rfl fl_TuneDoor_42 rfl (by decide) kd_2 rfl ?_
  refine u_getI (z := (τ 78 5)) (pc' := 7) dX10_strangersChance_4 rfl fl_TuneDoor_296 rfl (by decide) (by decide) kd_78 rfl (fun r1 => ?_)
  refine u_i2l (pc' := 8) dX10_strangersChance_7 rfl r1 ?_
  refine s_lstore_n (i := 3) (ls' := [some (vR 2), some (vI a0), some (vI a1), some (vL (τ 78 5)), none, none, none, none]) (pc' := 9) dX10_strangersChance_8 rfl rfl (Nat.le_of_ble_eq_true rfl) rfl rfl ?_
  refine u_ldc2 (z := 1000000000) (pc' := 12) dX10_strangersChance_9 rfl wm_1059 (by decide) ?_
  refine s_lstore (i := 5) (ls' := [some (vR 2), some (vI a0), some (vI a1), some (vL (τ 78 5)), none, some (vL 1000000000), none, none]) (pc' := 14) dX10_strangersChance_12 rfl (Nat.le_of_ble_eq_true rfl) rfl rfl ?_
  refine u_iconst (pc' := 15) dX10_strangersChance_14 rfl ?_
  refine s_istore (i := 7) (ls' := [some (vR 2), some (vI a0), some (vI a1), some (vL (τ 78 5)), none, some (vL 1000000000), none, some (vI 0)]) (pc' := 17) dX10_strangersChance_15 rfl (Nat.le_of_ble_eq_true rfl) rfl rfl ?_
  exact u_less (ls' := [none, some (vI a0), some (vI a1), some (vL (τ 78 5)), none, some (vL 1000000000), none, some (vI 0)]) ⟨rfl, ⟨rfl, ⟨rfl, ⟨rfl, ⟨rfl, trivial⟩⟩⟩⟩⟩ h
theorem mX10_strangersChance {E : mm_Env} {d : Nat} {τ : mm_Mem} {Q : mm_Q0} {a0 : Int} {a1 : Int} (h : V0 E d qX10_strangersChance 17 [none, some (vI a0), some (vI a1), some (vL (τ 78 5)), none, some (vL 1000000000), none, some (vI 0)] [] τ Q) : M0 E d qX10_strangersChance [vR 2, vI a0, vI a1] τ Q := M0_of rfl (Nat.le_of_ble_eq_true rfl) [some (vR 2), some (vI a0), some (vI a1), none, none, none, none, none] rfl (bX10_strangersChance_0  h)
set_option maxRecDepth 20000 in
theorem bX10_strangersChance_17 {E : mm_Env} {d : Nat} {τ : mm_Mem} {Q : mm_Q0} {x1 : Int} {x2 : Int} {x3 : Int} {x5 : Int} {x7 : Int} (h : inR x7 ∧ inR x2 ∧ ((x2 ≤ x7 → Q (some (vL (1000000000 - x5))) τ) ∧ (¬ x2 ≤ x7 → inL x3 ∧ ((x3 ≤ 0 → Q (some (vL (1000000000 - x5))) τ) ∧ (¬ x3 ≤ 0 → inR x1 ∧ inL (x5 * (x3 - x1)) ∧ x3 ≠ 0 ∧ V0 E d qX10_strangersChance 17 [none, some (vI x1), some (vI x2), some (vL x3), none, some (vL (Int.tdiv (x5 * (x3 - x1)) x3)), none, some (vI (x7 + 1))] [] τ Q))))) : V0 E d qX10_strangersChance 17 [none, some (vI x1), some (vI x2), some (vL x3), none, some (vL x5), none, some (vI x7)] [] τ Q := by
  refine u_iload (i := 7) (pc' := 19) dX10_strangersChance_17 rfl rfl ?_
  refine u_iload_n (i := 2) (pc' := 20) dX10_strangersChance_19 rfl rfl rfl ?_
  obtain ⟨c1, c2, h⟩ := h
  refine u_icmp_ge (tgt := 46) (pc' := 23) dX10_strangersChance_20 rfl (by decide) c1 c2 (fun hb => ?_) (fun hb => ?_)
  · have h := h.1 hb
    refine u_ldc2 (z := 1000000000) (pc' := 49) dX10_strangersChance_46 rfl wm_1059 (by decide) ?_
    refine u_lload (i := 5) (pc' := 51) dX10_strangersChance_49 rfl rfl ?_
    refine u_lsub (pc' := 52) dX10_strangersChance_51 rfl ?_
    exact u_lret dX10_strangersChance_52 rfl h
  · have h := h.2 hb
    refine u_lload_n (i := 3) (pc' := 24) dX10_strangersChance_23 rfl rfl rfl ?_
    refine u_lconst (z := 0) (pc' := 25) dX10_strangersChance_24 rfl (by decide) ?_
    obtain ⟨c3, h⟩ := h
    refine u_lcmp (pc' := 26) dX10_strangersChance_25 rfl c3 ⟨by decide, by decide⟩ ?_
    refine u_if_le (tgt := 46) (pc' := 29) dX10_strangersChance_26 rfl (by decide) (mm_cmp_R _ _) (fun hb => ?_) (fun hb => ?_)
    · have h := h.1 (mm_cmp_le.mp hb)
      refine u_ldc2 (z := 1000000000) (pc' := 49) dX10_strangersChance_46 rfl wm_1059 (by decide) ?_
      refine u_lload (i := 5) (pc' := 51) dX10_strangersChance_49 rfl rfl ?_
      refine u_lsub (pc' := 52) dX10_strangersChance_51 rfl ?_
      exact u_lret dX10_strangersChance_52 rfl h
    · have h := h.2 (fun w => hb (mm_cmp_le.mpr w))
      refine u_lload (i := 5) (pc' := 31) dX10_strangersChance_29 rfl rfl ?_
      refine u_lload_n (i := 3) (pc' := 32) dX10_strangersChance_31 rfl rfl rfl ?_
      refine u_iload_n (i := 1) (pc' := 33) dX10_strangersChance_32 rfl rfl rfl ?_
      obtain ⟨c4, h⟩ := h
      refine u_i2l (pc' := 34) dX10_strangersChance_33 rfl c4 ?_
      refine u_lsub (pc' := 35) dX10_strangersChance_34 rfl ?_
      refine u_lmul (pc' := 36) dX10_strangersChance_35 rfl ?_
      refine u_lload_n (i := 3) (pc' := 37) dX10_strangersChance_36 rfl rfl rfl ?_
      obtain ⟨c5, c6, h⟩ := h
      refine u_ldiv (pc' := 38) dX10_strangersChance_37 rfl c5 c3 c6 ?_
      refine s_lstore (i := 5) (ls' := [none, some (vI x1), some (vI x2), some (vL x3), none, some (vL (Int.tdiv (x5 * (x3 - x1)) x3)), none, some (vI x7)]) (pc' := 40) dX10_strangersChance_38 rfl (Nat.le_of_ble_eq_true rfl) rfl rfl ?_
      refine s_iinc (i := 7) (ls' := [none, some (vI x1), some (vI x2), some (vL x3), none, some (vL (Int.tdiv (x5 * (x3 - x1)) x3)), none, some (vI (x7 + 1))]) (pc' := 43) dX10_strangersChance_40 rfl rfl (Nat.le_of_ble_eq_true rfl) rfl rfl ?_
      refine u_goto (tgt := 17) dX10_strangersChance_43 (by decide) ?_
      exact u_less (ls' := [none, some (vI x1), some (vI x2), some (vL x3), none, some (vL (Int.tdiv (x5 * (x3 - x1)) x3)), none, some (vI (x7 + 1))]) ⟨rfl, ⟨rfl, ⟨rfl, ⟨rfl, ⟨rfl, trivial⟩⟩⟩⟩⟩ h
set_option maxRecDepth 20000 in
theorem bX10_near_0 {E : mm_Env} {d : Nat} {τ : mm_Mem} {Q : mm_Q0} {a0 : Int} (h : M0 E d qX10_doorAt [vR 2, vI a0] τ (fun v τ1 => ∃ o2 : Nat, v = some (vR o2) ∧ ((¬ o2 = 0 → M0 E d qX7_leastApart [vR 133, vR o2] τ1 (fun v τ3 => ∃ r4 : Int, v = some (vI r4) ∧ Q (some (vI r4)) τ3)) ∧ (o2 = 0 → Q (some (vI (-1))) τ1)))) : V0 E (d + 1) qX10_near 0 [some (vR 2), some (vI a0), none] [] τ Q := by
  refine u_aload_n (i := 0) (pc' := 1) dX10_near_0 rfl rfl rfl ?_
  refine u_iload_n (i := 1) (pc' := 2) dX10_near_1 rfl rfl rfl ?_
  refine u_invV (q' := qX10_doorAt) (As := [vI a0]) (st := []) (pc' := 5) dX10_near_2 rfl gX10_doorAt wm_833 rfl rfl (by decide) kd_2 wm_835 wp_43 rfl (Nat.le_of_ble_eq_true rfl) (M0.mono h (fun v τ1 h => ?_))
  obtain ⟨o2, rfl, h⟩ := h
  show V0 E (d + 1) qX10_near 5 [some (vR 2), some (vI a0), none] [vR o2] τ1 Q
  refine s_astore_n (i := 2) (ls' := [some (vR 2), some (vI a0), some (vR o2)]) (pc' := 6) dX10_near_5 rfl rfl (Nat.le_of_ble_eq_true rfl) rfl rfl ?_
  refine u_aload_n (i := 2) (pc' := 7) dX10_near_6 rfl rfl rfl ?_
  refine u_ifnonnull (tgt := 14) (pc' := 10) dX10_near_7 rfl (by decide) (fun hb => ?_) (fun hb => ?_)
  · have h := h.1 hb
    refine u_aload_n (i := 0) (pc' := 15) dX10_near_14 rfl rfl rfl ?_
    refine u_getR (a := 133) (pc' := 18) dX10_near_15 rfl fl_TuneDoor_65 rfl (by decide) kd_2 rfl ?_
    refine u_aload_n (i := 2) (pc' := 19) dX10_near_18 rfl rfl rfl ?_
    refine u_invV (q' := qX7_leastApart) (As := [vR o2]) (st := []) (pc' := 22) dX10_near_19 rfl gX7_leastApart wm_1064 rfl rfl (by decide) kd_133 wm_1065 wm_1066 rfl (Nat.le_of_ble_eq_true rfl) (M0.mono h (fun v τ3 h => ?_))
    obtain ⟨r4, rfl, h⟩ := h
    show V0 E (d + 1) qX10_near 22 [some (vR 2), some (vI a0), some (vR o2)] [vI r4] τ3 Q
    exact u_iret dX10_near_22 rfl h
  · have h := h.2 hb
    refine u_iconst (pc' := 11) dX10_near_10 rfl ?_
    refine u_goto (tgt := 22) dX10_near_11 (by decide) ?_
    exact u_iret dX10_near_22 rfl h
theorem mX10_near {E : mm_Env} {d : Nat} {τ : mm_Mem} {Q : mm_Q0} {a0 : Int} (h : M0 E d qX10_doorAt [vR 2, vI a0] τ (fun v τ1 => ∃ o2 : Nat, v = some (vR o2) ∧ ((¬ o2 = 0 → M0 E d qX7_leastApart [vR 133, vR o2] τ1 (fun v τ3 => ∃ r4 : Int, v = some (vI r4) ∧ Q (some (vI r4)) τ3)) ∧ (o2 = 0 → Q (some (vI (-1))) τ1)))) : M0 E (d + 1) qX10_near [vR 2, vI a0] τ Q := M0_of rfl (Nat.le_of_ble_eq_true rfl) [some (vR 2), some (vI a0), none] rfl (bX10_near_0  h)
set_option maxRecDepth 20000 in
theorem bX10_cost_0 {E : mm_Env} {d : Nat} {τ : mm_Mem} {Q : mm_Q0} {a0 : Int} {a1 : Int} {a2 : Int} {a3 : Int} (h : M0 E d qX10_personAt [vR 2, vI a0] τ (fun v τ1 => ∃ o2 : Nat, v = some (vR o2) ∧ ((o2 = 0 → Q (some (vI (-1))) τ1) ∧ (¬ o2 = 0 → inR a1 ∧ ((a1 < 1 → Q (some (vI (-1))) τ1) ∧ (¬ a1 < 1 → ((6 < a1 → Q (some (vI (-1))) τ1) ∧ (¬ 6 < a1 → inR a3 ∧ ((a3 < 0 → Q (some (vI (-1))) τ1) ∧ (¬ a3 < 0 → ((a3 ≤ 1 → ((a3 ≠ 0 → M0 E d qX10_costOf [vR 2, vR o2, vI a1, vI 0] τ1 (fun v τ5 => ∃ r6 : Int, v = some (vL r6) ∧ V0 E (d + 1) qX10_cost 81 [some (vR 2), none, some (vI a1), none, none, some (vR o2), some (vI 0), some (vL r6), none, some (vI 1), none, none] [] τ5 Q)) ∧ (a3 = 0 → inR a2 ∧ ((a2 < 0 → Q (some (vI (-1))) τ1) ∧ (¬ a2 < 0 → ((a2 ≤ 20 → M0 E d qX10_costOf [vR 2, vR o2, vI a1, vI a2] τ1 (fun v τ8 => ∃ r9 : Int, v = some (vL r9) ∧ inL r9 ∧ Q (some (vI r9)) τ8)) ∧ (¬ a2 ≤ 20 → Q (some (vI (-1))) τ1))))))) ∧ (¬ a3 ≤ 1 → Q (some (vI (-1))) τ1)))))))))))) : V0 E (d + 1) qX10_cost 0 [some (vR 2), some (vI a0), some (vI a1), some (vI a2), some (vI a3), none, none, none, none, none, none, none] [] τ Q := by
  refine u_aload_n (i := 0) (pc' := 1) dX10_cost_0 rfl rfl rfl ?_
  refine u_iload_n (i := 1) (pc' := 2) dX10_cost_1 rfl rfl rfl ?_
  refine u_invV (q' := qX10_personAt) (As := [vI a0]) (st := []) (pc' := 5) dX10_cost_2 rfl gX10_personAt wm_837 rfl rfl (by decide) kd_2 wm_839 wp_44 rfl (Nat.le_of_ble_eq_true rfl) (M0.mono h (fun v τ1 h => ?_))
  obtain ⟨o2, rfl, h⟩ := h
  show V0 E (d + 1) qX10_cost 5 [some (vR 2), some (vI a0), some (vI a1), some (vI a2), some (vI a3), none, none, none, none, none, none, none] [vR o2] τ1 Q
  refine s_astore (i := 5) (ls' := [some (vR 2), some (vI a0), some (vI a1), some (vI a2), some (vI a3), some (vR o2), none, none, none, none, none, none]) (pc' := 7) dX10_cost_5 rfl (Nat.le_of_ble_eq_true rfl) rfl rfl ?_
  refine u_aload (i := 5) (pc' := 9) dX10_cost_7 rfl rfl ?_
  refine u_ifnull (tgt := 34) (pc' := 12) dX10_cost_9 rfl (by decide) (fun hb => ?_) (fun hb => ?_)
  · have h := h.1 hb
    refine u_iconst (pc' := 35) dX10_cost_34 rfl ?_
    exact u_iret dX10_cost_35 rfl h
  · have h := h.2 hb
    refine u_iload_n (i := 2) (pc' := 13) dX10_cost_12 rfl rfl rfl ?_
    refine u_iconst (pc' := 14) dX10_cost_13 rfl ?_
    obtain ⟨c3, h⟩ := h
    refine u_icmp_lt (tgt := 34) (pc' := 17) dX10_cost_14 rfl (by decide) c3 ⟨by decide, by decide⟩ (fun hb => ?_) (fun hb => ?_)
    · have h := h.1 hb
      refine u_iconst (pc' := 35) dX10_cost_34 rfl ?_
      exact u_iret dX10_cost_35 rfl h
    · have h := h.2 hb
      refine u_iload_n (i := 2) (pc' := 18) dX10_cost_17 rfl rfl rfl ?_
      refine u_bipush (pc' := 20) dX10_cost_18 rfl (by decide) ?_
      refine u_icmp_gt (tgt := 34) (pc' := 23) dX10_cost_20 rfl (by decide) c3 ⟨by decide, by decide⟩ (fun hb => ?_) (fun hb => ?_)
      · have h := h.1 hb
        refine u_iconst (pc' := 35) dX10_cost_34 rfl ?_
        exact u_iret dX10_cost_35 rfl h
      · have h := h.2 hb
        refine u_iload (i := 4) (pc' := 25) dX10_cost_23 rfl rfl ?_
        obtain ⟨c4, h⟩ := h
        refine u_if_lt (tgt := 34) (pc' := 28) dX10_cost_25 rfl (by decide) c4 (fun hb => ?_) (fun hb => ?_)
        · have h := h.1 hb
          refine u_iconst (pc' := 35) dX10_cost_34 rfl ?_
          exact u_iret dX10_cost_35 rfl h
        · have h := h.2 hb
          refine u_iload (i := 4) (pc' := 30) dX10_cost_28 rfl rfl ?_
          refine u_iconst (pc' := 31) dX10_cost_30 rfl ?_
          refine u_icmp_le (tgt := 36) (pc' := 34) dX10_cost_31 rfl (by decide) c4 ⟨by decide, by decide⟩ (fun hb => ?_) (fun hb => ?_)
          · have h := h.1 hb
            refine u_iload (i := 4) (pc' := 38) dX10_cost_36 rfl rfl ?_
            refine u_if_ne (tgt := 65) (pc' := 41) dX10_cost_38 rfl (by decide) c4 (fun hb => ?_) (fun hb => ?_)
            · have h := h.1 hb
              refine u_iconst (pc' := 66) dX10_cost_65 rfl ?_
              refine s_istore (i := 6) (ls' := [some (vR 2), some (vI a0), some (vI a1), some (vI a2), some (vI a3), some (vR o2), some (vI 0), none, none, none, none, none]) (pc' := 68) dX10_cost_66 rfl (Nat.le_of_ble_eq_true rfl) rfl rfl ?_
              refine u_aload_n (i := 0) (pc' := 69) dX10_cost_68 rfl rfl rfl ?_
              refine u_aload (i := 5) (pc' := 71) dX10_cost_69 rfl rfl ?_
              refine u_iload_n (i := 2) (pc' := 72) dX10_cost_71 rfl rfl rfl ?_
              refine u_iconst (pc' := 73) dX10_cost_72 rfl ?_
              refine u_invV (q' := qX10_costOf) (As := [vR o2, vI a1, vI 0]) (st := []) (pc' := 76) dX10_cost_73 rfl gX10_costOf wm_1074 rfl rfl (by decide) kd_2 wm_1076 wp_60 rfl (Nat.le_of_ble_eq_true rfl) (M0.mono h (fun v τ5 h => ?_))
              obtain ⟨r6, rfl, h⟩ := h
              show V0 E (d + 1) qX10_cost 76 [some (vR 2), some (vI a0), some (vI a1), some (vI a2), some (vI a3), some (vR o2), some (vI 0), none, none, none, none, none] [vL r6] τ5 Q
              refine s_lstore (i := 7) (ls' := [some (vR 2), some (vI a0), some (vI a1), some (vI a2), some (vI a3), some (vR o2), some (vI 0), some (vL r6), none, none, none, none]) (pc' := 78) dX10_cost_76 rfl (Nat.le_of_ble_eq_true rfl) rfl rfl ?_
              refine u_iconst (pc' := 79) dX10_cost_78 rfl ?_
              refine s_istore (i := 9) (ls' := [some (vR 2), some (vI a0), some (vI a1), some (vI a2), some (vI a3), some (vR o2), some (vI 0), some (vL r6), none, some (vI 1), none, none]) (pc' := 81) dX10_cost_79 rfl (Nat.le_of_ble_eq_true rfl) rfl rfl ?_
              exact u_less (ls' := [some (vR 2), none, some (vI a1), none, none, some (vR o2), some (vI 0), some (vL r6), none, some (vI 1), none, none]) ⟨rfl, ⟨rfl, ⟨rfl, ⟨rfl, ⟨rfl, ⟨rfl, trivial⟩⟩⟩⟩⟩⟩ h
            · have h := h.2 hb
              refine u_iload_n (i := 3) (pc' := 42) dX10_cost_41 rfl rfl rfl ?_
              obtain ⟨c7, h⟩ := h
              refine u_if_lt (tgt := 51) (pc' := 45) dX10_cost_42 rfl (by decide) c7 (fun hb => ?_) (fun hb => ?_)
              · have h := h.1 hb
                refine u_iconst (pc' := 52) dX10_cost_51 rfl ?_
                refine u_goto (tgt := 64) dX10_cost_52 (by decide) ?_
                exact u_iret dX10_cost_64 rfl h
              · have h := h.2 hb
                refine u_iload_n (i := 3) (pc' := 46) dX10_cost_45 rfl rfl rfl ?_
                refine u_bipush (pc' := 48) dX10_cost_46 rfl (by decide) ?_
                refine u_icmp_le (tgt := 55) (pc' := 51) dX10_cost_48 rfl (by decide) c7 ⟨by decide, by decide⟩ (fun hb => ?_) (fun hb => ?_)
                · have h := h.1 hb
                  refine u_aload_n (i := 0) (pc' := 56) dX10_cost_55 rfl rfl rfl ?_
                  refine u_aload (i := 5) (pc' := 58) dX10_cost_56 rfl rfl ?_
                  refine u_iload_n (i := 2) (pc' := 59) dX10_cost_58 rfl rfl rfl ?_
                  refine u_iload_n (i := 3) (pc' := 60) dX10_cost_59 rfl rfl rfl ?_
                  refine u_invV (q' := qX10_costOf) (As := [vR o2, vI a1, vI a2]) (st := []) (pc' := 63) dX10_cost_60 rfl gX10_costOf wm_1074 rfl rfl (by decide) kd_2 wm_1076 wp_60 rfl (Nat.le_of_ble_eq_true rfl) (M0.mono h (fun v τ8 h => ?_))
                  obtain ⟨r9, rfl, h⟩ := h
                  show V0 E (d + 1) qX10_cost 63 [some (vR 2), some (vI a0), some (vI a1), some (vI a2), some (vI a3), some (vR o2), none, none, none, none, none, none] [vL r9] τ8 Q
                  obtain ⟨c10, h⟩ := h
                  refine u_l2i (pc' := 64) dX10_cost_63 rfl c10 ?_
                  exact u_iret dX10_cost_64 rfl h
                · have h := h.2 hb
                  refine u_iconst (pc' := 52) dX10_cost_51 rfl ?_
                  refine u_goto (tgt := 64) dX10_cost_52 (by decide) ?_
                  exact u_iret dX10_cost_64 rfl h
          · have h := h.2 hb
            refine u_iconst (pc' := 35) dX10_cost_34 rfl ?_
            exact u_iret dX10_cost_35 rfl h
theorem mX10_cost {E : mm_Env} {d : Nat} {τ : mm_Mem} {Q : mm_Q0} {a0 : Int} {a1 : Int} {a2 : Int} {a3 : Int} (h : M0 E d qX10_personAt [vR 2, vI a0] τ (fun v τ1 => ∃ o2 : Nat, v = some (vR o2) ∧ ((o2 = 0 → Q (some (vI (-1))) τ1) ∧ (¬ o2 = 0 → inR a1 ∧ ((a1 < 1 → Q (some (vI (-1))) τ1) ∧ (¬ a1 < 1 → ((6 < a1 → Q (some (vI (-1))) τ1) ∧ (¬ 6 < a1 → inR a3 ∧ ((a3 < 0 → Q (some (vI (-1))) τ1) ∧ (¬ a3 < 0 → ((a3 ≤ 1 → ((a3 ≠ 0 → M0 E d qX10_costOf [vR 2, vR o2, vI a1, vI 0] τ1 (fun v τ5 => ∃ r6 : Int, v = some (vL r6) ∧ V0 E (d + 1) qX10_cost 81 [some (vR 2), none, some (vI a1), none, none, some (vR o2), some (vI 0), some (vL r6), none, some (vI 1), none, none] [] τ5 Q)) ∧ (a3 = 0 → inR a2 ∧ ((a2 < 0 → Q (some (vI (-1))) τ1) ∧ (¬ a2 < 0 → ((a2 ≤ 20 → M0 E d qX10_costOf [vR 2, vR o2, vI a1, vI a2] τ1 (fun v τ8 => ∃ r9 : Int, v = some (vL r9) ∧ inL r9 ∧ Q (some (vI r9)) τ8)) ∧ (¬ a2 ≤ 20 → Q (some (vI (-1))) τ1))))))) ∧ (¬ a3 ≤ 1 → Q (some (vI (-1))) τ1)))))))))))) : M0 E (d + 1) qX10_cost [vR 2, vI a0, vI a1, vI a2, vI a3] τ Q := M0_of rfl (Nat.le_of_ble_eq_true rfl) [some (vR 2), some (vI a0), some (vI a1), some (vI a2), some (vI a3), none, none, none, none, none, none, none] rfl (bX10_cost_0  h)
set_option maxRecDepth 20000 in
theorem bX10_cost_81 {E : mm_Env} {d : Nat} {τ : mm_Mem} {Q : mm_Q0} {x2 : Int} {x5 : Nat} {x6 : Int} {x7 : Int} {x9 : Int} (h : inR x9 ∧ ((20 < x9 → Q (some (vI x6)) τ) ∧ (¬ 20 < x9 → M0 E d qX10_costOf [vR 2, vR x5, vI x2, vI x9] τ (fun v τ2 => ∃ r3 : Int, v = some (vL r3) ∧ inL r3 ∧ inL x7 ∧ ((x7 ≤ r3 → V0 E (d + 1) qX10_cost 81 [some (vR 2), none, some (vI x2), none, none, some (vR x5), some (vI x6), some (vL x7), none, some (vI (x9 + 1)), none, none] [] τ2 Q) ∧ (¬ x7 ≤ r3 → V0 E (d + 1) qX10_cost 81 [some (vR 2), none, some (vI x2), none, none, some (vR x5), some (vI x9), some (vL r3), none, some (vI (x9 + 1)), none, none] [] τ2 Q)))))) : V0 E (d + 1) qX10_cost 81 [some (vR 2), none, some (vI x2), none, none, some (vR x5), some (vI x6), some (vL x7), none, some (vI x9), none, none] [] τ Q := by
  refine u_iload (i := 9) (pc' := 83) dX10_cost_81 rfl rfl ?_
  refine u_bipush (pc' := 85) dX10_cost_83 rfl (by decide) ?_
  obtain ⟨c1, h⟩ := h
  refine u_icmp_gt (tgt := 121) (pc' := 88) dX10_cost_85 rfl (by decide) c1 ⟨by decide, by decide⟩ (fun hb => ?_) (fun hb => ?_)
  · have h := h.1 hb
    refine u_iload (i := 6) (pc' := 123) dX10_cost_121 rfl rfl ?_
    exact u_iret dX10_cost_123 rfl h
  · have h := h.2 hb
    refine u_aload_n (i := 0) (pc' := 89) dX10_cost_88 rfl rfl rfl ?_
    refine u_aload (i := 5) (pc' := 91) dX10_cost_89 rfl rfl ?_
    refine u_iload_n (i := 2) (pc' := 92) dX10_cost_91 rfl rfl rfl ?_
    refine u_iload (i := 9) (pc' := 94) dX10_cost_92 rfl rfl ?_
    refine u_invV (q' := qX10_costOf) (As := [vR x5, vI x2, vI x9]) (st := []) (pc' := 97) dX10_cost_94 rfl gX10_costOf wm_1074 rfl rfl (by decide) kd_2 wm_1076 wp_60 rfl (Nat.le_of_ble_eq_true rfl) (M0.mono h (fun v τ2 h => ?_))
    obtain ⟨r3, rfl, h⟩ := h
    show V0 E (d + 1) qX10_cost 97 [some (vR 2), none, some (vI x2), none, none, some (vR x5), some (vI x6), some (vL x7), none, some (vI x9), none, none] [vL r3] τ2 Q
    refine s_lstore (i := 10) (ls' := [some (vR 2), none, some (vI x2), none, none, some (vR x5), some (vI x6), some (vL x7), none, some (vI x9), some (vL r3), none]) (pc' := 99) dX10_cost_97 rfl (Nat.le_of_ble_eq_true rfl) rfl rfl ?_
    refine u_lload (i := 10) (pc' := 101) dX10_cost_99 rfl rfl ?_
    refine u_lload (i := 7) (pc' := 103) dX10_cost_101 rfl rfl ?_
    obtain ⟨c4, c5, h⟩ := h
    refine u_lcmp (pc' := 104) dX10_cost_103 rfl c4 c5 ?_
    refine u_if_ge (tgt := 115) (pc' := 107) dX10_cost_104 rfl (by decide) (mm_cmp_R _ _) (fun hb => ?_) (fun hb => ?_)
    · have h := h.1 (mm_cmp_ge.mp hb)
      refine s_iinc (i := 9) (ls' := [some (vR 2), none, some (vI x2), none, none, some (vR x5), some (vI x6), some (vL x7), none, some (vI (x9 + 1)), some (vL r3), none]) (pc' := 118) dX10_cost_115 rfl rfl (Nat.le_of_ble_eq_true rfl) rfl rfl ?_
      refine u_goto (tgt := 81) dX10_cost_118 (by decide) ?_
      exact u_less (ls' := [some (vR 2), none, some (vI x2), none, none, some (vR x5), some (vI x6), some (vL x7), none, some (vI (x9 + 1)), none, none]) ⟨rfl, ⟨rfl, ⟨rfl, ⟨rfl, ⟨rfl, ⟨rfl, trivial⟩⟩⟩⟩⟩⟩ h
    · have h := h.2 (fun w => hb (mm_cmp_ge.mpr w))
      refine u_lload (i := 10) (pc' := 109) dX10_cost_107 rfl rfl ?_
      refine s_lstore (i := 7) (ls' := [some (vR 2), none, some (vI x2), none, none, some (vR x5), some (vI x6), some (vL r3), none, some (vI x9), some (vL r3), none]) (pc' := 111) dX10_cost_109 rfl (Nat.le_of_ble_eq_true rfl) rfl rfl ?_
      refine u_iload (i := 9) (pc' := 113) dX10_cost_111 rfl rfl ?_
      refine s_istore (i := 6) (ls' := [some (vR 2), none, some (vI x2), none, none, some (vR x5), some (vI x9), some (vL r3), none, some (vI x9), some (vL r3), none]) (pc' := 115) dX10_cost_113 rfl (Nat.le_of_ble_eq_true rfl) rfl rfl ?_
      refine s_iinc (i := 9) (ls' := [some (vR 2), none, some (vI x2), none, none, some (vR x5), some (vI x9), some (vL r3), none, some (vI (x9 + 1)), some (vL r3), none]) (pc' := 118) dX10_cost_115 rfl rfl (Nat.le_of_ble_eq_true rfl) rfl rfl ?_
      refine u_goto (tgt := 81) dX10_cost_118 (by decide) ?_
      exact u_less (ls' := [some (vR 2), none, some (vI x2), none, none, some (vR x5), some (vI x9), some (vL r3), none, some (vI (x9 + 1)), none, none]) ⟨rfl, ⟨rfl, ⟨rfl, ⟨rfl, ⟨rfl, ⟨rfl, trivial⟩⟩⟩⟩⟩⟩ h
set_option maxRecDepth 20000 in
theorem bX10_costOf_0 {E : mm_Env} {d : Nat} {τ : mm_Mem} {Q : mm_Q0} {a0 : Nat} {a1 : Int} {a2 : Int} (k_a0 : KD a0 = some (.inr 3)) (h : M0 E d qX10_tryAt [vR 2, vI (τ a0 1)] τ (fun v τ2 => ∃ b3 : Bool, v = some (vB b3) ∧ ((b3 = true → inR a2 ∧ M0 E d qX8_weigh [vR 95, vR a0, vR 91, vI a1, vB false] (wr (wr (wr τ2 91 1 1) 91 2 a2) 91 3 0) (fun v τ5 => ∃ r6 : Int, v = some (vL r6) ∧ M0 E d qX7_countOpening [vR 133, vR 91] τ5 (fun v τ7 => ∃ r8 : Int, v = some (vI r8) ∧ M0 E d qX10_strangersChance [vR 2, vI r8, vI 1] τ7 (fun v τ9 => ∃ r10 : Int, v = some (vL r10) ∧ ∃ o11 : Nat, (τ9 2 2) = (o11 : Int) ∧ KD o11 = some (.inr 2) ∧ ∃ o15 : Nat, (τ9 2 2) = (o15 : Int) ∧ KD o15 = some (.inr 2) ∧ inL (((τ9 o11 5) * (1000000000 - r6)) + ((τ9 o15 6) * r10)) ∧ Q (some (vL (Int.tdiv (((τ9 o11 5) * (1000000000 - r6)) + ((τ9 o15 6) * r10)) 1000000000))) τ9)))) ∧ (b3 = false → Q (some (vL (-1))) τ2)))) : V0 E (d + 1) qX10_costOf 0 [some (vR 2), some (vR a0), some (vI a1), some (vI a2), none, none, none, none] [] τ Q := by
  refine u_aload_n (i := 0) (pc' := 1) dX10_costOf_0 rfl rfl rfl ?_
  refine u_aload_n (i := 1) (pc' := 2) dX10_costOf_1 rfl rfl rfl ?_
  refine u_getI (z := (τ a0 1)) (pc' := 5) dX10_costOf_2 rfl fl_TuneDoor_190 rfl (by decide) (kPerson k_a0) k_a0 rfl (fun r1 => ?_)
  refine u_invV (q' := qX10_tryAt) (As := [vI (τ a0 1)]) (st := []) (pc' := 8) dX10_costOf_5 rfl gX10_tryAt wm_969 rfl rfl (by decide) kd_2 wm_971 wp_50 rfl (Nat.le_of_ble_eq_true rfl) (M0.mono h (fun v τ2 h => ?_))
  obtain ⟨b3, rfl, h⟩ := h
  show V0 E (d + 1) qX10_costOf 8 [some (vR 2), some (vR a0), some (vI a1), some (vI a2), none, none, none, none] [vB b3] τ2 Q
  refine u_if_ne (tgt := 15) (pc' := 11) dX10_costOf_8 rfl (by decide) (bI_R _) (fun hb => ?_) (fun hb => ?_)
  · have h := h.1 (bI_n0.mp hb)
    refine u_aload_n (i := 0) (pc' := 16) dX10_costOf_15 rfl rfl rfl ?_
    refine u_getR (a := 91) (pc' := 19) dX10_costOf_16 rfl fl_TuneDoor_49 rfl (by decide) kd_2 rfl ?_
    refine u_iconst (pc' := 20) dX10_costOf_19 rfl ?_
    refine u_putI (pc' := 23) dX10_costOf_20 rfl fl_TuneDoor_180 rfl rfl (by decide) (by decide) kd_91 ⟨by decide, by decide⟩ ?_
    refine u_aload_n (i := 0) (pc' := 24) dX10_costOf_23 rfl rfl rfl ?_
    refine u_getR (a := 91) (pc' := 27) dX10_costOf_24 rfl fl_TuneDoor_49 rfl (by decide) kd_2 rfl ?_
    refine u_iload_n (i := 3) (pc' := 28) dX10_costOf_27 rfl rfl rfl ?_
    obtain ⟨c4, h⟩ := h
    refine u_putI (pc' := 31) dX10_costOf_28 rfl fl_TuneDoor_183 rfl rfl (by decide) (by decide) kd_91 c4 ?_
    refine u_aload_n (i := 0) (pc' := 32) dX10_costOf_31 rfl rfl rfl ?_
    refine u_getR (a := 91) (pc' := 35) dX10_costOf_32 rfl fl_TuneDoor_49 rfl (by decide) kd_2 rfl ?_
    refine u_iconst (pc' := 36) dX10_costOf_35 rfl ?_
    refine u_putI (pc' := 39) dX10_costOf_36 rfl fl_TuneDoor_186 rfl rfl (by decide) (by decide) kd_91 ⟨by decide, by decide⟩ ?_
    refine u_ldc2 (z := 1000000000) (pc' := 42) dX10_costOf_39 rfl wm_1059 (by decide) ?_
    refine u_aload_n (i := 0) (pc' := 43) dX10_costOf_42 rfl rfl rfl ?_
    refine u_getR (a := 95) (pc' := 46) dX10_costOf_43 rfl fl_TuneDoor_58 rfl (by decide) kd_2 rfl ?_
    refine u_aload_n (i := 1) (pc' := 47) dX10_costOf_46 rfl rfl rfl ?_
    refine u_aload_n (i := 0) (pc' := 48) dX10_costOf_47 rfl rfl rfl ?_
    refine u_getR (a := 91) (pc' := 51) dX10_costOf_48 rfl fl_TuneDoor_49 rfl (by decide) kd_2 rfl ?_
    refine u_iload_n (i := 2) (pc' := 52) dX10_costOf_51 rfl rfl rfl ?_
    refine u_iconst (pc' := 53) dX10_costOf_52 rfl ?_
    refine u_invV (q' := qX8_weigh) (As := [vR a0, vR 91, vI a1, vB false]) (st := [vL 1000000000]) (pc' := 56) dX10_costOf_53 rfl gX8_weigh wm_994 rfl rfl (by decide) kd_95 wm_995 wm_996 rfl (Nat.le_of_ble_eq_true rfl) (M0.mono h (fun v τ5 h => ?_))
    obtain ⟨r6, rfl, h⟩ := h
    show V0 E (d + 1) qX10_costOf 56 [some (vR 2), some (vR a0), some (vI a1), some (vI a2), none, none, none, none] [vL r6, vL 1000000000] τ5 Q
    refine u_lsub (pc' := 57) dX10_costOf_56 rfl ?_
    refine s_lstore (i := 4) (ls' := [some (vR 2), some (vR a0), some (vI a1), some (vI a2), some (vL (1000000000 - r6)), none, none, none]) (pc' := 59) dX10_costOf_57 rfl (Nat.le_of_ble_eq_true rfl) rfl rfl ?_
    refine u_aload_n (i := 0) (pc' := 60) dX10_costOf_59 rfl rfl rfl ?_
    refine u_aload_n (i := 0) (pc' := 61) dX10_costOf_60 rfl rfl rfl ?_
    refine u_getR (a := 133) (pc' := 64) dX10_costOf_61 rfl fl_TuneDoor_65 rfl (by decide) kd_2 rfl ?_
    refine u_aload_n (i := 0) (pc' := 65) dX10_costOf_64 rfl rfl rfl ?_
    refine u_getR (a := 91) (pc' := 68) dX10_costOf_65 rfl fl_TuneDoor_49 rfl (by decide) kd_2 rfl ?_
    refine u_invV (q' := qX7_countOpening) (As := [vR 91]) (st := [vR 2]) (pc' := 71) dX10_costOf_68 rfl gX7_countOpening wm_1020 rfl rfl (by decide) kd_133 wm_1021 wm_1022 rfl (Nat.le_of_ble_eq_true rfl) (M0.mono h (fun v τ7 h => ?_))
    obtain ⟨r8, rfl, h⟩ := h
    show V0 E (d + 1) qX10_costOf 71 [some (vR 2), some (vR a0), some (vI a1), some (vI a2), some (vL (1000000000 - r6)), none, none, none] [vI r8, vR 2] τ7 Q
    refine u_iconst (pc' := 72) dX10_costOf_71 rfl ?_
    refine u_invV (q' := qX10_strangersChance) (As := [vI r8, vI 1]) (st := []) (pc' := 75) dX10_costOf_72 rfl gX10_strangersChance wm_1055 rfl rfl (by decide) kd_2 wm_1057 wp_59 rfl (Nat.le_of_ble_eq_true rfl) (M0.mono h (fun v τ9 h => ?_))
    obtain ⟨r10, rfl, h⟩ := h
    show V0 E (d + 1) qX10_costOf 75 [some (vR 2), some (vR a0), some (vI a1), some (vI a2), some (vL (1000000000 - r6)), none, none, none] [vL r10] τ9 Q
    refine s_lstore (i := 6) (ls' := [some (vR 2), some (vR a0), some (vI a1), some (vI a2), some (vL (1000000000 - r6)), none, some (vL r10), none]) (pc' := 77) dX10_costOf_75 rfl (Nat.le_of_ble_eq_true rfl) rfl rfl ?_
    refine u_aload_n (i := 0) (pc' := 78) dX10_costOf_77 rfl rfl rfl ?_
    obtain ⟨o11, z12, k13, h⟩ := h
    refine u_getD (a := o11) (pc' := 81) dX10_costOf_78 rfl fl_TuneDoor_16 rfl (by decide) kd_2 rfl (z12) ?_
    refine u_getI (z := (τ9 o11 5)) (pc' := 84) dX10_costOf_81 rfl fl_TuneDoor_141 rfl (by decide) (kHouse k13).1 k13 rfl (fun r14 => ?_)
    refine u_i2l (pc' := 85) dX10_costOf_84 rfl r14 ?_
    refine u_lload (i := 4) (pc' := 87) dX10_costOf_85 rfl rfl ?_
    refine u_lmul (pc' := 88) dX10_costOf_87 rfl ?_
    refine u_aload_n (i := 0) (pc' := 89) dX10_costOf_88 rfl rfl rfl ?_
    obtain ⟨o15, z16, k17, h⟩ := h
    refine u_getD (a := o15) (pc' := 92) dX10_costOf_89 rfl fl_TuneDoor_16 rfl (by decide) kd_2 rfl (z16) ?_
    refine u_getI (z := (τ9 o15 6)) (pc' := 95) dX10_costOf_92 rfl fl_TuneDoor_144 rfl (by decide) (kHouse k17).1 k17 rfl (fun r18 => ?_)
    refine u_i2l (pc' := 96) dX10_costOf_95 rfl r18 ?_
    refine u_lload (i := 6) (pc' := 98) dX10_costOf_96 rfl rfl ?_
    refine u_lmul (pc' := 99) dX10_costOf_98 rfl ?_
    refine u_ladd (pc' := 100) dX10_costOf_99 rfl ?_
    refine u_ldc2 (z := 1000000000) (pc' := 103) dX10_costOf_100 rfl wm_1059 (by decide) ?_
    obtain ⟨c19, h⟩ := h
    refine u_ldiv (pc' := 104) dX10_costOf_103 rfl c19 ⟨by decide, by decide⟩ (by decide) ?_
    exact u_lret dX10_costOf_104 rfl h
  · have h := h.2 (bI_0.mp hb)
    refine u_ldc2 (z := (-1)) (pc' := 14) dX10_costOf_11 rfl wm_993 (by decide) ?_
    exact u_lret dX10_costOf_14 rfl h
theorem mX10_costOf {E : mm_Env} {d : Nat} {τ : mm_Mem} {Q : mm_Q0} {a0 : Nat} {a1 : Int} {a2 : Int} (k_a0 : KD a0 = some (.inr 3)) (h : M0 E d qX10_tryAt [vR 2, vI (τ a0 1)] τ (fun v τ2 => ∃ b3 : Bool, v = some (vB b3) ∧ ((b3 = true → inR a2 ∧ M0 E d qX8_weigh [vR 95, vR a0, vR 91, vI a1, vB false] (wr (wr (wr τ2 91 1 1) 91 2 a2) 91 3 0) (fun v τ5 => ∃ r6 : Int, v = some (vL r6) ∧ M0 E d qX7_countOpening [vR 133, vR 91] τ5 (fun v τ7 => ∃ r8 : Int, v = some (vI r8) ∧ M0 E d qX10_strangersChance [vR 2, vI r8, vI 1] τ7 (fun v τ9 => ∃ r10 : Int, v = some (vL r10) ∧ ∃ o11 : Nat, (τ9 2 2) = (o11 : Int) ∧ KD o11 = some (.inr 2) ∧ ∃ o15 : Nat, (τ9 2 2) = (o15 : Int) ∧ KD o15 = some (.inr 2) ∧ inL (((τ9 o11 5) * (1000000000 - r6)) + ((τ9 o15 6) * r10)) ∧ Q (some (vL (Int.tdiv (((τ9 o11 5) * (1000000000 - r6)) + ((τ9 o15 6) * r10)) 1000000000))) τ9)))) ∧ (b3 = false → Q (some (vL (-1))) τ2)))) : M0 E (d + 1) qX10_costOf [vR 2, vR a0, vI a1, vI a2] τ Q := M0_of rfl (Nat.le_of_ble_eq_true rfl) [some (vR 2), some (vR a0), some (vI a1), some (vI a2), none, none, none, none] rfl (bX10_costOf_0 k_a0 h)
set_option maxRecDepth 20000 in
theorem bX10_knows_0 {E : mm_Env} {d : Nat} {τ : mm_Mem} {Q : mm_Q0} {a0 : Int} {a1 : Int} {a2 : Int} (h : M0 E d qX10_hearForms [vR 2, vI a0, vI a1, vI a2] τ (fun v τ1 => ∃ b2 : Bool, v = some (vB b2) ∧ ((b2 = false → Q (some (vI (-1))) τ1) ∧ (b2 = true → M0 E d qX1_howMany [vR 136] τ1 (fun v τ3 => ∃ r4 : Int, v = some (vI r4) ∧ Q (some (vI r4)) τ3))))) : V0 E (d + 1) qX10_knows 0 [some (vR 2), some (vI a0), some (vI a1), some (vI a2)] [] τ Q := by
  refine u_aload_n (i := 0) (pc' := 1) dX10_knows_0 rfl rfl rfl ?_
  refine u_iload_n (i := 1) (pc' := 2) dX10_knows_1 rfl rfl rfl ?_
  refine u_iload_n (i := 2) (pc' := 3) dX10_knows_2 rfl rfl rfl ?_
  refine u_iload_n (i := 3) (pc' := 4) dX10_knows_3 rfl rfl rfl ?_
  refine u_invV (q' := qX10_hearForms) (As := [vI a0, vI a1, vI a2]) (st := []) (pc' := 7) dX10_knows_4 rfl gX10_hearForms wm_1082 rfl rfl (by decide) kd_2 wm_1084 wp_61 rfl (Nat.le_of_ble_eq_true rfl) (M0.mono h (fun v τ1 h => ?_))
  obtain ⟨b2, rfl, h⟩ := h
  show V0 E (d + 1) qX10_knows 7 [some (vR 2), some (vI a0), some (vI a1), some (vI a2)] [vB b2] τ1 Q
  refine u_if_eq (tgt := 20) (pc' := 10) dX10_knows_7 rfl (by decide) (bI_R _) (fun hb => ?_) (fun hb => ?_)
  · have h := h.1 (bI_0.mp hb)
    refine u_iconst (pc' := 21) dX10_knows_20 rfl ?_
    exact u_iret dX10_knows_21 rfl h
  · have h := h.2 (bI_n0.mp hb)
    refine u_aload_n (i := 0) (pc' := 11) dX10_knows_10 rfl rfl rfl ?_
    refine u_getR (a := 136) (pc' := 14) dX10_knows_11 rfl fl_TuneDoor_72 rfl (by decide) kd_2 rfl ?_
    refine u_invV (q' := qX1_howMany) (As := []) (st := []) (pc' := 17) dX10_knows_14 rfl gX1_howMany wm_1103 rfl rfl (by decide) kd_136 wm_1104 wm_1105 rfl (Nat.le_of_ble_eq_true rfl) (M0.mono h (fun v τ3 h => ?_))
    obtain ⟨r4, rfl, h⟩ := h
    show V0 E (d + 1) qX10_knows 17 [some (vR 2), some (vI a0), some (vI a1), some (vI a2)] [vI r4] τ3 Q
    refine u_goto (tgt := 21) dX10_knows_17 (by decide) ?_
    exact u_iret dX10_knows_21 rfl h
theorem mX10_knows {E : mm_Env} {d : Nat} {τ : mm_Mem} {Q : mm_Q0} {a0 : Int} {a1 : Int} {a2 : Int} (h : M0 E d qX10_hearForms [vR 2, vI a0, vI a1, vI a2] τ (fun v τ1 => ∃ b2 : Bool, v = some (vB b2) ∧ ((b2 = false → Q (some (vI (-1))) τ1) ∧ (b2 = true → M0 E d qX1_howMany [vR 136] τ1 (fun v τ3 => ∃ r4 : Int, v = some (vI r4) ∧ Q (some (vI r4)) τ3))))) : M0 E (d + 1) qX10_knows [vR 2, vI a0, vI a1, vI a2] τ Q := M0_of rfl (Nat.le_of_ble_eq_true rfl) [some (vR 2), some (vI a0), some (vI a1), some (vI a2)] rfl (bX10_knows_0  h)
set_option maxRecDepth 20000 in
theorem bX10_hearForms_0 {E : mm_Env} {d : Nat} {τ : mm_Mem} {Q : mm_Q0} {a0 : Int} {a1 : Int} {a2 : Int} (h : M0 E d qX10_isTune [vR 2, vI a0] τ (fun v τ1 => ∃ b2 : Bool, v = some (vB b2) ∧ ((b2 = false → Q (some (vB false)) τ1) ∧ (b2 = true → M0 E d qX10_isWhistle [vI a1] τ1 (fun v τ3 => ∃ b4 : Bool, v = some (vB b4) ∧ ((b4 = false → Q (some (vB false)) τ3) ∧ (b4 = true → inR a2 ∧ ((a2 < 1 → Q (some (vB false)) τ3) ∧ (¬ a2 < 1 → ((30 < a2 → Q (some (vB false)) τ3) ∧ (¬ 30 < a2 → inR (a1 + a2) ∧ (((a1 + a2) ≤ 1000 → ∃ o7 : Nat, (τ3 2 2) = (o7 : Int) ∧ KD o7 = some (.inr 2) ∧ ∃ o11 : Nat, (τ3 2 2) = (o11 : Int) ∧ KD o11 = some (.inr 2) ∧ M0 E d qX1_begin [vR 136, vI (τ3 o7 1), vI (τ3 o11 0)] τ3 (fun v τ15 => v = none ∧ V0 E (d + 1) qX10_hearForms 63 [some (vR 2), some (vI a0), some (vI a1), some (vI a2), some (vI (a1 + 1))] [] τ15 Q)) ∧ (¬ (a1 + a2) ≤ 1000 → Q (some (vB false)) τ3))))))))))))) : V0 E (d + 1) qX10_hearForms 0 [some (vR 2), some (vI a0), some (vI a1), some (vI a2), none] [] τ Q := by
  refine u_aload_n (i := 0) (pc' := 1) dX10_hearForms_0 rfl rfl rfl ?_
  refine u_iload_n (i := 1) (pc' := 2) dX10_hearForms_1 rfl rfl rfl ?_
  refine u_invV (q' := qX10_isTune) (As := [vI a0]) (st := []) (pc' := 5) dX10_hearForms_2 rfl gX10_isTune wm_841 rfl rfl (by decide) kd_2 wm_843 wp_45 rfl (Nat.le_of_ble_eq_true rfl) (M0.mono h (fun v τ1 h => ?_))
  obtain ⟨b2, rfl, h⟩ := h
  show V0 E (d + 1) qX10_hearForms 5 [some (vR 2), some (vI a0), some (vI a1), some (vI a2), none] [vB b2] τ1 Q
  refine u_if_eq (tgt := 35) (pc' := 8) dX10_hearForms_5 rfl (by decide) (bI_R _) (fun hb => ?_) (fun hb => ?_)
  · have h := h.1 (bI_0.mp hb)
    refine u_iconst (pc' := 36) dX10_hearForms_35 rfl ?_
    exact u_zret (b := false) dX10_hearForms_36 rfl rfl h
  · have h := h.2 (bI_n0.mp hb)
    refine u_iload_n (i := 2) (pc' := 9) dX10_hearForms_8 rfl rfl rfl ?_
    refine u_invS (q' := qX10_isWhistle) (As := [vI a1]) (st := []) (pc' := 12) dX10_hearForms_9 rfl gX10_isWhistle wm_857 wm_858 rfl (Nat.le_of_ble_eq_true rfl) (M0.mono h (fun v τ3 h => ?_))
    obtain ⟨b4, rfl, h⟩ := h
    show V0 E (d + 1) qX10_hearForms 12 [some (vR 2), some (vI a0), some (vI a1), some (vI a2), none] [vB b4] τ3 Q
    refine u_if_eq (tgt := 35) (pc' := 15) dX10_hearForms_12 rfl (by decide) (bI_R _) (fun hb => ?_) (fun hb => ?_)
    · have h := h.1 (bI_0.mp hb)
      refine u_iconst (pc' := 36) dX10_hearForms_35 rfl ?_
      exact u_zret (b := false) dX10_hearForms_36 rfl rfl h
    · have h := h.2 (bI_n0.mp hb)
      refine u_iload_n (i := 3) (pc' := 16) dX10_hearForms_15 rfl rfl rfl ?_
      refine u_iconst (pc' := 17) dX10_hearForms_16 rfl ?_
      obtain ⟨c5, h⟩ := h
      refine u_icmp_lt (tgt := 35) (pc' := 20) dX10_hearForms_17 rfl (by decide) c5 ⟨by decide, by decide⟩ (fun hb => ?_) (fun hb => ?_)
      · have h := h.1 hb
        refine u_iconst (pc' := 36) dX10_hearForms_35 rfl ?_
        exact u_zret (b := false) dX10_hearForms_36 rfl rfl h
      · have h := h.2 hb
        refine u_iload_n (i := 3) (pc' := 21) dX10_hearForms_20 rfl rfl rfl ?_
        refine u_bipush (pc' := 23) dX10_hearForms_21 rfl (by decide) ?_
        refine u_icmp_gt (tgt := 35) (pc' := 26) dX10_hearForms_23 rfl (by decide) c5 ⟨by decide, by decide⟩ (fun hb => ?_) (fun hb => ?_)
        · have h := h.1 hb
          refine u_iconst (pc' := 36) dX10_hearForms_35 rfl ?_
          exact u_zret (b := false) dX10_hearForms_36 rfl rfl h
        · have h := h.2 hb
          refine u_iload_n (i := 2) (pc' := 27) dX10_hearForms_26 rfl rfl rfl ?_
          refine u_iload_n (i := 3) (pc' := 28) dX10_hearForms_27 rfl rfl rfl ?_
          refine u_iadd (pc' := 29) dX10_hearForms_28 rfl ?_
          refine u_sipush (pc' := 32) dX10_hearForms_29 rfl (by decide) ?_
          obtain ⟨c6, h⟩ := h
          refine u_icmp_le (tgt := 37) (pc' := 35) dX10_hearForms_32 rfl (by decide) c6 ⟨by decide, by decide⟩ (fun hb => ?_) (fun hb => ?_)
          · have h := h.1 hb
            refine u_aload_n (i := 0) (pc' := 38) dX10_hearForms_37 rfl rfl rfl ?_
            refine u_getR (a := 136) (pc' := 41) dX10_hearForms_38 rfl fl_TuneDoor_72 rfl (by decide) kd_2 rfl ?_
            refine u_aload_n (i := 0) (pc' := 42) dX10_hearForms_41 rfl rfl rfl ?_
            obtain ⟨o7, z8, k9, h⟩ := h
            refine u_getD (a := o7) (pc' := 45) dX10_hearForms_42 rfl fl_TuneDoor_16 rfl (by decide) kd_2 rfl (z8) ?_
            refine u_getI (z := (τ3 o7 1)) (pc' := 48) dX10_hearForms_45 rfl fl_TuneDoor_119 rfl (by decide) (kHouse k9).1 k9 rfl (fun r10 => ?_)
            refine u_aload_n (i := 0) (pc' := 49) dX10_hearForms_48 rfl rfl rfl ?_
            obtain ⟨o11, z12, k13, h⟩ := h
            refine u_getD (a := o11) (pc' := 52) dX10_hearForms_49 rfl fl_TuneDoor_16 rfl (by decide) kd_2 rfl (z12) ?_
            refine u_getI (z := (τ3 o11 0)) (pc' := 55) dX10_hearForms_52 rfl fl_TuneDoor_116 rfl (by decide) (kHouse k13).1 k13 rfl (fun r14 => ?_)
            refine u_invV (q' := qX1_begin) (As := [vI (τ3 o7 1), vI (τ3 o11 0)]) (st := []) (pc' := 58) dX10_hearForms_55 rfl gX1_begin wm_1086 rfl rfl (by decide) kd_136 wm_1087 wm_1088 rfl (Nat.le_of_ble_eq_true rfl) (M0.mono h (fun v τ15 h => ?_))
            obtain ⟨rfl, h⟩ := h
            show V0 E (d + 1) qX10_hearForms 58 [some (vR 2), some (vI a0), some (vI a1), some (vI a2), none] [] τ15 Q
            refine u_iload_n (i := 2) (pc' := 59) dX10_hearForms_58 rfl rfl rfl ?_
            refine u_iconst (pc' := 60) dX10_hearForms_59 rfl ?_
            refine u_iadd (pc' := 61) dX10_hearForms_60 rfl ?_
            refine s_istore (i := 4) (ls' := [some (vR 2), some (vI a0), some (vI a1), some (vI a2), some (vI (a1 + 1))]) (pc' := 63) dX10_hearForms_61 rfl (Nat.le_of_ble_eq_true rfl) rfl rfl ?_
            exact u_less (ls' := [some (vR 2), some (vI a0), some (vI a1), some (vI a2), some (vI (a1 + 1))]) ⟨rfl, ⟨rfl, ⟨rfl, ⟨rfl, ⟨rfl, trivial⟩⟩⟩⟩⟩ h
          · have h := h.2 hb
            refine u_iconst (pc' := 36) dX10_hearForms_35 rfl ?_
            exact u_zret (b := false) dX10_hearForms_36 rfl rfl h
theorem mX10_hearForms {E : mm_Env} {d : Nat} {τ : mm_Mem} {Q : mm_Q0} {a0 : Int} {a1 : Int} {a2 : Int} (h : M0 E d qX10_isTune [vR 2, vI a0] τ (fun v τ1 => ∃ b2 : Bool, v = some (vB b2) ∧ ((b2 = false → Q (some (vB false)) τ1) ∧ (b2 = true → M0 E d qX10_isWhistle [vI a1] τ1 (fun v τ3 => ∃ b4 : Bool, v = some (vB b4) ∧ ((b4 = false → Q (some (vB false)) τ3) ∧ (b4 = true → inR a2 ∧ ((a2 < 1 → Q (some (vB false)) τ3) ∧ (¬ a2 < 1 → ((30 < a2 → Q (some (vB false)) τ3) ∧ (¬ 30 < a2 → inR (a1 + a2) ∧ (((a1 + a2) ≤ 1000 → ∃ o7 : Nat, (τ3 2 2) = (o7 : Int) ∧ KD o7 = some (.inr 2) ∧ ∃ o11 : Nat, (τ3 2 2) = (o11 : Int) ∧ KD o11 = some (.inr 2) ∧ M0 E d qX1_begin [vR 136, vI (τ3 o7 1), vI (τ3 o11 0)] τ3 (fun v τ15 => v = none ∧ V0 E (d + 1) qX10_hearForms 63 [some (vR 2), some (vI a0), some (vI a1), some (vI a2), some (vI (a1 + 1))] [] τ15 Q)) ∧ (¬ (a1 + a2) ≤ 1000 → Q (some (vB false)) τ3))))))))))))) : M0 E (d + 1) qX10_hearForms [vR 2, vI a0, vI a1, vI a2] τ Q := M0_of rfl (Nat.le_of_ble_eq_true rfl) [some (vR 2), some (vI a0), some (vI a1), some (vI a2), none] rfl (bX10_hearForms_0  h)
set_option maxRecDepth 20000 in
theorem bX10_hearForms_63 {E : mm_Env} {d : Nat} {τ : mm_Mem} {Q : mm_Q0} {x1 : Int} {x2 : Int} {x3 : Int} {x4 : Int} (h : inR x4 ∧ inR (x2 + x3) ∧ (((x2 + x3) ≤ x4 → Q (some (vB true)) τ) ∧ (¬ (x2 + x3) ≤ x4 → M0 E d qX9_tuneAt [vR 78, vI x1, vI (x4 - 1)] τ (fun v τ3 => ∃ r4 : Int, v = some (vI r4) ∧ M0 E d qX9_tuneAt [vR 78, vI x1, vI x4] τ3 (fun v τ5 => ∃ r6 : Int, v = some (vI r6) ∧ M0 E d qX1_narrow [vR 136, vI r4, vI r6] τ5 (fun v τ7 => v = none ∧ V0 E (d + 1) qX10_hearForms 63 [some (vR 2), some (vI x1), some (vI x2), some (vI x3), some (vI (x4 + 1))] [] τ7 Q)))))) : V0 E (d + 1) qX10_hearForms 63 [some (vR 2), some (vI x1), some (vI x2), some (vI x3), some (vI x4)] [] τ Q := by
  refine u_iload (i := 4) (pc' := 65) dX10_hearForms_63 rfl rfl ?_
  refine u_iload_n (i := 2) (pc' := 66) dX10_hearForms_65 rfl rfl rfl ?_
  refine u_iload_n (i := 3) (pc' := 67) dX10_hearForms_66 rfl rfl rfl ?_
  refine u_iadd (pc' := 68) dX10_hearForms_67 rfl ?_
  obtain ⟨c1, c2, h⟩ := h
  refine u_icmp_ge (tgt := 106) (pc' := 71) dX10_hearForms_68 rfl (by decide) c1 c2 (fun hb => ?_) (fun hb => ?_)
  · have h := h.1 hb
    refine u_iconst (pc' := 107) dX10_hearForms_106 rfl ?_
    exact u_zret (b := true) dX10_hearForms_107 rfl rfl h
  · have h := h.2 hb
    refine u_aload_n (i := 0) (pc' := 72) dX10_hearForms_71 rfl rfl rfl ?_
    refine u_getR (a := 136) (pc' := 75) dX10_hearForms_72 rfl fl_TuneDoor_72 rfl (by decide) kd_2 rfl ?_
    refine u_aload_n (i := 0) (pc' := 76) dX10_hearForms_75 rfl rfl rfl ?_
    refine u_getR (a := 78) (pc' := 79) dX10_hearForms_76 rfl fl_TuneDoor_42 rfl (by decide) kd_2 rfl ?_
    refine u_iload_n (i := 1) (pc' := 80) dX10_hearForms_79 rfl rfl rfl ?_
    refine u_iload (i := 4) (pc' := 82) dX10_hearForms_80 rfl rfl ?_
    refine u_iconst (pc' := 83) dX10_hearForms_82 rfl ?_
    refine u_isub (pc' := 84) dX10_hearForms_83 rfl ?_
    refine u_invV (q' := qX9_tuneAt) (As := [vI x1, vI (x4 - 1)]) (st := [vR 136]) (pc' := 87) dX10_hearForms_84 rfl gX9_tuneAt wm_871 rfl rfl (by decide) kd_78 wm_872 wm_873 rfl (Nat.le_of_ble_eq_true rfl) (M0.mono h (fun v τ3 h => ?_))
    obtain ⟨r4, rfl, h⟩ := h
    show V0 E (d + 1) qX10_hearForms 87 [some (vR 2), some (vI x1), some (vI x2), some (vI x3), some (vI x4)] [vI r4, vR 136] τ3 Q
    refine u_aload_n (i := 0) (pc' := 88) dX10_hearForms_87 rfl rfl rfl ?_
    refine u_getR (a := 78) (pc' := 91) dX10_hearForms_88 rfl fl_TuneDoor_42 rfl (by decide) kd_2 rfl ?_
    refine u_iload_n (i := 1) (pc' := 92) dX10_hearForms_91 rfl rfl rfl ?_
    refine u_iload (i := 4) (pc' := 94) dX10_hearForms_92 rfl rfl ?_
    refine u_invV (q' := qX9_tuneAt) (As := [vI x1, vI x4]) (st := [vI r4, vR 136]) (pc' := 97) dX10_hearForms_94 rfl gX9_tuneAt wm_871 rfl rfl (by decide) kd_78 wm_872 wm_873 rfl (Nat.le_of_ble_eq_true rfl) (M0.mono h (fun v τ5 h => ?_))
    obtain ⟨r6, rfl, h⟩ := h
    show V0 E (d + 1) qX10_hearForms 97 [some (vR 2), some (vI x1), some (vI x2), some (vI x3), some (vI x4)] [vI r6, vI r4, vR 136] τ5 Q
    refine u_invV (q' := qX1_narrow) (As := [vI r4, vI r6]) (st := []) (pc' := 100) dX10_hearForms_97 rfl gX1_narrow wm_1092 rfl rfl (by decide) kd_136 wm_1093 wm_1094 rfl (Nat.le_of_ble_eq_true rfl) (M0.mono h (fun v τ7 h => ?_))
    obtain ⟨rfl, h⟩ := h
    show V0 E (d + 1) qX10_hearForms 100 [some (vR 2), some (vI x1), some (vI x2), some (vI x3), some (vI x4)] [] τ7 Q
    refine s_iinc (i := 4) (ls' := [some (vR 2), some (vI x1), some (vI x2), some (vI x3), some (vI (x4 + 1))]) (pc' := 103) dX10_hearForms_100 rfl rfl (Nat.le_of_ble_eq_true rfl) rfl rfl ?_
    refine u_goto (tgt := 63) dX10_hearForms_103 (by decide) ?_
    exact u_less (ls' := [some (vR 2), some (vI x1), some (vI x2), some (vI x3), some (vI (x4 + 1))]) ⟨rfl, ⟨rfl, ⟨rfl, ⟨rfl, ⟨rfl, trivial⟩⟩⟩⟩⟩ h
set_option maxRecDepth 20000 in
theorem bX10_sure_0 {E : mm_Env} {d : Nat} {τ : mm_Mem} {Q : mm_Q0} {a0 : Int} {a1 : Int} (h : M0 E d qX10_isTune [vR 2, vI a0] τ (fun v τ1 => ∃ b2 : Bool, v = some (vB b2) ∧ ((b2 = false → Q (some (vI (-1))) τ1) ∧ (b2 = true → M0 E d qX10_isWhistle [vI a1] τ1 (fun v τ3 => ∃ b4 : Bool, v = some (vB b4) ∧ ((b4 = true → ∃ o5 : Nat, (τ3 2 2) = (o5 : Int) ∧ KD o5 = some (.inr 2) ∧ ∃ o9 : Nat, (τ3 2 2) = (o9 : Int) ∧ KD o9 = some (.inr 2) ∧ M0 E d qX1_begin [vR 136, vI (τ3 o5 1), vI (τ3 o9 0)] τ3 (fun v τ13 => v = none ∧ V0 E (d + 1) qX10_sure 40 [some (vR 2), some (vI a0), some (vI a1), some (vI 2), none] [] τ13 Q)) ∧ (b4 = false → Q (some (vI (-1))) τ3))))))) : V0 E (d + 1) qX10_sure 0 [some (vR 2), some (vI a0), some (vI a1), none, none] [] τ Q := by
  refine u_aload_n (i := 0) (pc' := 1) dX10_sure_0 rfl rfl rfl ?_
  refine u_iload_n (i := 1) (pc' := 2) dX10_sure_1 rfl rfl rfl ?_
  refine u_invV (q' := qX10_isTune) (As := [vI a0]) (st := []) (pc' := 5) dX10_sure_2 rfl gX10_isTune wm_841 rfl rfl (by decide) kd_2 wm_843 wp_45 rfl (Nat.le_of_ble_eq_true rfl) (M0.mono h (fun v τ1 h => ?_))
  obtain ⟨b2, rfl, h⟩ := h
  show V0 E (d + 1) qX10_sure 5 [some (vR 2), some (vI a0), some (vI a1), none, none] [vB b2] τ1 Q
  refine u_if_eq (tgt := 15) (pc' := 8) dX10_sure_5 rfl (by decide) (bI_R _) (fun hb => ?_) (fun hb => ?_)
  · have h := h.1 (bI_0.mp hb)
    refine u_iconst (pc' := 16) dX10_sure_15 rfl ?_
    exact u_iret dX10_sure_16 rfl h
  · have h := h.2 (bI_n0.mp hb)
    refine u_iload_n (i := 2) (pc' := 9) dX10_sure_8 rfl rfl rfl ?_
    refine u_invS (q' := qX10_isWhistle) (As := [vI a1]) (st := []) (pc' := 12) dX10_sure_9 rfl gX10_isWhistle wm_857 wm_858 rfl (Nat.le_of_ble_eq_true rfl) (M0.mono h (fun v τ3 h => ?_))
    obtain ⟨b4, rfl, h⟩ := h
    show V0 E (d + 1) qX10_sure 12 [some (vR 2), some (vI a0), some (vI a1), none, none] [vB b4] τ3 Q
    refine u_if_ne (tgt := 17) (pc' := 15) dX10_sure_12 rfl (by decide) (bI_R _) (fun hb => ?_) (fun hb => ?_)
    · have h := h.1 (bI_n0.mp hb)
      refine u_aload_n (i := 0) (pc' := 18) dX10_sure_17 rfl rfl rfl ?_
      refine u_getR (a := 136) (pc' := 21) dX10_sure_18 rfl fl_TuneDoor_72 rfl (by decide) kd_2 rfl ?_
      refine u_aload_n (i := 0) (pc' := 22) dX10_sure_21 rfl rfl rfl ?_
      obtain ⟨o5, z6, k7, h⟩ := h
      refine u_getD (a := o5) (pc' := 25) dX10_sure_22 rfl fl_TuneDoor_16 rfl (by decide) kd_2 rfl (z6) ?_
      refine u_getI (z := (τ3 o5 1)) (pc' := 28) dX10_sure_25 rfl fl_TuneDoor_119 rfl (by decide) (kHouse k7).1 k7 rfl (fun r8 => ?_)
      refine u_aload_n (i := 0) (pc' := 29) dX10_sure_28 rfl rfl rfl ?_
      obtain ⟨o9, z10, k11, h⟩ := h
      refine u_getD (a := o9) (pc' := 32) dX10_sure_29 rfl fl_TuneDoor_16 rfl (by decide) kd_2 rfl (z10) ?_
      refine u_getI (z := (τ3 o9 0)) (pc' := 35) dX10_sure_32 rfl fl_TuneDoor_116 rfl (by decide) (kHouse k11).1 k11 rfl (fun r12 => ?_)
      refine u_invV (q' := qX1_begin) (As := [vI (τ3 o5 1), vI (τ3 o9 0)]) (st := []) (pc' := 38) dX10_sure_35 rfl gX1_begin wm_1086 rfl rfl (by decide) kd_136 wm_1087 wm_1088 rfl (Nat.le_of_ble_eq_true rfl) (M0.mono h (fun v τ13 h => ?_))
      obtain ⟨rfl, h⟩ := h
      show V0 E (d + 1) qX10_sure 38 [some (vR 2), some (vI a0), some (vI a1), none, none] [] τ13 Q
      refine u_iconst (pc' := 39) dX10_sure_38 rfl ?_
      refine s_istore_n (i := 3) (ls' := [some (vR 2), some (vI a0), some (vI a1), some (vI 2), none]) (pc' := 40) dX10_sure_39 rfl rfl (Nat.le_of_ble_eq_true rfl) rfl rfl ?_
      exact u_less (ls' := [some (vR 2), some (vI a0), some (vI a1), some (vI 2), none]) ⟨rfl, ⟨rfl, ⟨rfl, ⟨rfl, trivial⟩⟩⟩⟩ h
    · have h := h.2 (bI_0.mp hb)
      refine u_iconst (pc' := 16) dX10_sure_15 rfl ?_
      exact u_iret dX10_sure_16 rfl h
theorem mX10_sure {E : mm_Env} {d : Nat} {τ : mm_Mem} {Q : mm_Q0} {a0 : Int} {a1 : Int} (h : M0 E d qX10_isTune [vR 2, vI a0] τ (fun v τ1 => ∃ b2 : Bool, v = some (vB b2) ∧ ((b2 = false → Q (some (vI (-1))) τ1) ∧ (b2 = true → M0 E d qX10_isWhistle [vI a1] τ1 (fun v τ3 => ∃ b4 : Bool, v = some (vB b4) ∧ ((b4 = true → ∃ o5 : Nat, (τ3 2 2) = (o5 : Int) ∧ KD o5 = some (.inr 2) ∧ ∃ o9 : Nat, (τ3 2 2) = (o9 : Int) ∧ KD o9 = some (.inr 2) ∧ M0 E d qX1_begin [vR 136, vI (τ3 o5 1), vI (τ3 o9 0)] τ3 (fun v τ13 => v = none ∧ V0 E (d + 1) qX10_sure 40 [some (vR 2), some (vI a0), some (vI a1), some (vI 2), none] [] τ13 Q)) ∧ (b4 = false → Q (some (vI (-1))) τ3))))))) : M0 E (d + 1) qX10_sure [vR 2, vI a0, vI a1] τ Q := M0_of rfl (Nat.le_of_ble_eq_true rfl) [some (vR 2), some (vI a0), some (vI a1), none, none] rfl (bX10_sure_0  h)
set_option maxRecDepth 20000 in
theorem bX10_sure_40 {E : mm_Env} {d : Nat} {τ : mm_Mem} {Q : mm_Q0} {x1 : Int} {x2 : Int} {x3 : Int} (h : inR x3 ∧ ((30 < x3 → Q (some (vI (-1))) τ) ∧ (¬ 30 < x3 → inR (x2 + x3) ∧ ((1000 < (x2 + x3) → Q (some (vI (-1))) τ) ∧ (¬ 1000 < (x2 + x3) → M0 E d qX9_tuneAt [vR 78, vI x1, vI ((x2 + x3) - 1)] τ (fun v τ3 => ∃ r4 : Int, v = some (vI r4) ∧ M0 E d qX9_tuneAt [vR 78, vI x1, vI ((x2 + x3) - 2)] τ3 (fun v τ5 => ∃ r6 : Int, v = some (vI r6) ∧ M0 E d qX1_narrow [vR 136, vI r6, vI r4] τ5 (fun v τ7 => v = none ∧ M0 E d qX1_agree [vR 136, vI r4] τ7 (fun v τ8 => ∃ b9 : Bool, v = some (vB b9) ∧ ((b9 = false → V0 E (d + 1) qX10_sure 40 [some (vR 2), some (vI x1), some (vI x2), some (vI (x3 + 1)), none] [] τ8 Q) ∧ (b9 = true → Q (some (vI x3)) τ8))))))))))) : V0 E (d + 1) qX10_sure 40 [some (vR 2), some (vI x1), some (vI x2), some (vI x3), none] [] τ Q := by
  refine u_iload_n (i := 3) (pc' := 41) dX10_sure_40 rfl rfl rfl ?_
  refine u_bipush (pc' := 43) dX10_sure_41 rfl (by decide) ?_
  obtain ⟨c1, h⟩ := h
  refine u_icmp_gt (tgt := 112) (pc' := 46) dX10_sure_43 rfl (by decide) c1 ⟨by decide, by decide⟩ (fun hb => ?_) (fun hb => ?_)
  · have h := h.1 hb
    refine u_iconst (pc' := 113) dX10_sure_112 rfl ?_
    exact u_iret dX10_sure_113 rfl h
  · have h := h.2 hb
    refine u_iload_n (i := 2) (pc' := 47) dX10_sure_46 rfl rfl rfl ?_
    refine u_iload_n (i := 3) (pc' := 48) dX10_sure_47 rfl rfl rfl ?_
    refine u_iadd (pc' := 49) dX10_sure_48 rfl ?_
    refine u_sipush (pc' := 52) dX10_sure_49 rfl (by decide) ?_
    obtain ⟨c2, h⟩ := h
    refine u_icmp_gt (tgt := 112) (pc' := 55) dX10_sure_52 rfl (by decide) c2 ⟨by decide, by decide⟩ (fun hb => ?_) (fun hb => ?_)
    · have h := h.1 hb
      refine u_iconst (pc' := 113) dX10_sure_112 rfl ?_
      exact u_iret dX10_sure_113 rfl h
    · have h := h.2 hb
      refine u_aload_n (i := 0) (pc' := 56) dX10_sure_55 rfl rfl rfl ?_
      refine u_getR (a := 78) (pc' := 59) dX10_sure_56 rfl fl_TuneDoor_42 rfl (by decide) kd_2 rfl ?_
      refine u_iload_n (i := 1) (pc' := 60) dX10_sure_59 rfl rfl rfl ?_
      refine u_iload_n (i := 2) (pc' := 61) dX10_sure_60 rfl rfl rfl ?_
      refine u_iload_n (i := 3) (pc' := 62) dX10_sure_61 rfl rfl rfl ?_
      refine u_iadd (pc' := 63) dX10_sure_62 rfl ?_
      refine u_iconst (pc' := 64) dX10_sure_63 rfl ?_
      refine u_isub (pc' := 65) dX10_sure_64 rfl ?_
      refine u_invV (q' := qX9_tuneAt) (As := [vI x1, vI ((x2 + x3) - 1)]) (st := []) (pc' := 68) dX10_sure_65 rfl gX9_tuneAt wm_871 rfl rfl (by decide) kd_78 wm_872 wm_873 rfl (Nat.le_of_ble_eq_true rfl) (M0.mono h (fun v τ3 h => ?_))
      obtain ⟨r4, rfl, h⟩ := h
      show V0 E (d + 1) qX10_sure 68 [some (vR 2), some (vI x1), some (vI x2), some (vI x3), none] [vI r4] τ3 Q
      refine s_istore (i := 4) (ls' := [some (vR 2), some (vI x1), some (vI x2), some (vI x3), some (vI r4)]) (pc' := 70) dX10_sure_68 rfl (Nat.le_of_ble_eq_true rfl) rfl rfl ?_
      refine u_aload_n (i := 0) (pc' := 71) dX10_sure_70 rfl rfl rfl ?_
      refine u_getR (a := 136) (pc' := 74) dX10_sure_71 rfl fl_TuneDoor_72 rfl (by decide) kd_2 rfl ?_
      refine u_aload_n (i := 0) (pc' := 75) dX10_sure_74 rfl rfl rfl ?_
      refine u_getR (a := 78) (pc' := 78) dX10_sure_75 rfl fl_TuneDoor_42 rfl (by decide) kd_2 rfl ?_
      refine u_iload_n (i := 1) (pc' := 79) dX10_sure_78 rfl rfl rfl ?_
      refine u_iload_n (i := 2) (pc' := 80) dX10_sure_79 rfl rfl rfl ?_
      refine u_iload_n (i := 3) (pc' := 81) dX10_sure_80 rfl rfl rfl ?_
      refine u_iadd (pc' := 82) dX10_sure_81 rfl ?_
      refine u_iconst (pc' := 83) dX10_sure_82 rfl ?_
      refine u_isub (pc' := 84) dX10_sure_83 rfl ?_
      refine u_invV (q' := qX9_tuneAt) (As := [vI x1, vI ((x2 + x3) - 2)]) (st := [vR 136]) (pc' := 87) dX10_sure_84 rfl gX9_tuneAt wm_871 rfl rfl (by decide) kd_78 wm_872 wm_873 rfl (Nat.le_of_ble_eq_true rfl) (M0.mono h (fun v τ5 h => ?_))
      obtain ⟨r6, rfl, h⟩ := h
      show V0 E (d + 1) qX10_sure 87 [some (vR 2), some (vI x1), some (vI x2), some (vI x3), some (vI r4)] [vI r6, vR 136] τ5 Q
      refine u_iload (i := 4) (pc' := 89) dX10_sure_87 rfl rfl ?_
      refine u_invV (q' := qX1_narrow) (As := [vI r6, vI r4]) (st := []) (pc' := 92) dX10_sure_89 rfl gX1_narrow wm_1092 rfl rfl (by decide) kd_136 wm_1093 wm_1094 rfl (Nat.le_of_ble_eq_true rfl) (M0.mono h (fun v τ7 h => ?_))
      obtain ⟨rfl, h⟩ := h
      show V0 E (d + 1) qX10_sure 92 [some (vR 2), some (vI x1), some (vI x2), some (vI x3), some (vI r4)] [] τ7 Q
      refine u_aload_n (i := 0) (pc' := 93) dX10_sure_92 rfl rfl rfl ?_
      refine u_getR (a := 136) (pc' := 96) dX10_sure_93 rfl fl_TuneDoor_72 rfl (by decide) kd_2 rfl ?_
      refine u_iload (i := 4) (pc' := 98) dX10_sure_96 rfl rfl ?_
      refine u_invV (q' := qX1_agree) (As := [vI r4]) (st := []) (pc' := 101) dX10_sure_98 rfl gX1_agree wm_1111 rfl rfl (by decide) kd_136 wm_1112 wm_1113 rfl (Nat.le_of_ble_eq_true rfl) (M0.mono h (fun v τ8 h => ?_))
      obtain ⟨b9, rfl, h⟩ := h
      show V0 E (d + 1) qX10_sure 101 [some (vR 2), some (vI x1), some (vI x2), some (vI x3), some (vI r4)] [vB b9] τ8 Q
      refine u_if_eq (tgt := 106) (pc' := 104) dX10_sure_101 rfl (by decide) (bI_R _) (fun hb => ?_) (fun hb => ?_)
      · have h := h.1 (bI_0.mp hb)
        refine s_iinc (i := 3) (ls' := [some (vR 2), some (vI x1), some (vI x2), some (vI (x3 + 1)), some (vI r4)]) (pc' := 109) dX10_sure_106 rfl rfl (Nat.le_of_ble_eq_true rfl) rfl rfl ?_
        refine u_goto (tgt := 40) dX10_sure_109 (by decide) ?_
        exact u_less (ls' := [some (vR 2), some (vI x1), some (vI x2), some (vI (x3 + 1)), none]) ⟨rfl, ⟨rfl, ⟨rfl, ⟨rfl, trivial⟩⟩⟩⟩ h
      · have h := h.2 (bI_n0.mp hb)
        refine u_iload_n (i := 3) (pc' := 105) dX10_sure_104 rfl rfl rfl ?_
        exact u_iret dX10_sure_105 rfl h
set_option maxRecDepth 20000 in
theorem bX10_right_0 {E : mm_Env} {d : Nat} {τ : mm_Mem} {Q : mm_Q0} {a0 : Int} {a1 : Int} {a2 : Int} (h : M0 E d qX10_hearForms [vR 2, vI a0, vI a1, vI a2] τ (fun v τ1 => ∃ b2 : Bool, v = some (vB b2) ∧ ((b2 = false → Q (some (vI (-1))) τ1) ∧ (b2 = true → M0 E d qX10_isWhistle [vI (a1 + a2)] τ1 (fun v τ3 => ∃ b4 : Bool, v = some (vB b4) ∧ ((b4 = true → M0 E d qX1_firstFrom [vR 136, vI 0] τ3 (fun v τ5 => ∃ r6 : Int, v = some (vI r6) ∧ inR r6 ∧ ((r6 ≠ (-1) → M0 E d qX9_tuneAt [vR 78, vI a0, vI ((a1 + a2) - 1)] τ5 (fun v τ8 => ∃ r9 : Int, v = some (vI r9) ∧ M0 E d qX1_nextBy [vR 136, vI r6, vI r9] τ8 (fun v τ10 => ∃ r11 : Int, v = some (vI r11) ∧ M0 E d qX9_tuneAt [vR 78, vI a0, vI (a1 + a2)] τ10 (fun v τ12 => ∃ r13 : Int, v = some (vI r13) ∧ inR r11 ∧ inR r13 ∧ ((r11 ≠ r13 → Q (some (vI 0)) τ12) ∧ (r11 = r13 → Q (some (vI 1)) τ12)))))) ∧ (r6 = (-1) → Q (some (vI (-1))) τ5)))) ∧ (b4 = false → Q (some (vI (-1))) τ3))))))) : V0 E (d + 1) qX10_right 0 [some (vR 2), some (vI a0), some (vI a1), some (vI a2), none] [] τ Q := by
  refine u_aload_n (i := 0) (pc' := 1) dX10_right_0 rfl rfl rfl ?_
  refine u_iload_n (i := 1) (pc' := 2) dX10_right_1 rfl rfl rfl ?_
  refine u_iload_n (i := 2) (pc' := 3) dX10_right_2 rfl rfl rfl ?_
  refine u_iload_n (i := 3) (pc' := 4) dX10_right_3 rfl rfl rfl ?_
  refine u_invV (q' := qX10_hearForms) (As := [vI a0, vI a1, vI a2]) (st := []) (pc' := 7) dX10_right_4 rfl gX10_hearForms wm_1082 rfl rfl (by decide) kd_2 wm_1084 wp_61 rfl (Nat.le_of_ble_eq_true rfl) (M0.mono h (fun v τ1 h => ?_))
  obtain ⟨b2, rfl, h⟩ := h
  show V0 E (d + 1) qX10_right 7 [some (vR 2), some (vI a0), some (vI a1), some (vI a2), none] [vB b2] τ1 Q
  refine u_if_eq (tgt := 19) (pc' := 10) dX10_right_7 rfl (by decide) (bI_R _) (fun hb => ?_) (fun hb => ?_)
  · have h := h.1 (bI_0.mp hb)
    refine u_iconst (pc' := 20) dX10_right_19 rfl ?_
    exact u_iret dX10_right_20 rfl h
  · have h := h.2 (bI_n0.mp hb)
    refine u_iload_n (i := 2) (pc' := 11) dX10_right_10 rfl rfl rfl ?_
    refine u_iload_n (i := 3) (pc' := 12) dX10_right_11 rfl rfl rfl ?_
    refine u_iadd (pc' := 13) dX10_right_12 rfl ?_
    refine u_invS (q' := qX10_isWhistle) (As := [vI (a1 + a2)]) (st := []) (pc' := 16) dX10_right_13 rfl gX10_isWhistle wm_857 wm_858 rfl (Nat.le_of_ble_eq_true rfl) (M0.mono h (fun v τ3 h => ?_))
    obtain ⟨b4, rfl, h⟩ := h
    show V0 E (d + 1) qX10_right 16 [some (vR 2), some (vI a0), some (vI a1), some (vI a2), none] [vB b4] τ3 Q
    refine u_if_ne (tgt := 21) (pc' := 19) dX10_right_16 rfl (by decide) (bI_R _) (fun hb => ?_) (fun hb => ?_)
    · have h := h.1 (bI_n0.mp hb)
      refine u_aload_n (i := 0) (pc' := 22) dX10_right_21 rfl rfl rfl ?_
      refine u_getR (a := 136) (pc' := 25) dX10_right_22 rfl fl_TuneDoor_72 rfl (by decide) kd_2 rfl ?_
      refine u_iconst (pc' := 26) dX10_right_25 rfl ?_
      refine u_invV (q' := qX1_firstFrom) (As := [vI 0]) (st := []) (pc' := 29) dX10_right_26 rfl gX1_firstFrom wm_1123 rfl rfl (by decide) kd_136 wm_1116 wm_1117 rfl (Nat.le_of_ble_eq_true rfl) (M0.mono h (fun v τ5 h => ?_))
      obtain ⟨r6, rfl, h⟩ := h
      show V0 E (d + 1) qX10_right 29 [some (vR 2), some (vI a0), some (vI a1), some (vI a2), none] [vI r6] τ5 Q
      refine s_istore (i := 4) (ls' := [some (vR 2), some (vI a0), some (vI a1), some (vI a2), some (vI r6)]) (pc' := 31) dX10_right_29 rfl (Nat.le_of_ble_eq_true rfl) rfl rfl ?_
      refine u_iload (i := 4) (pc' := 33) dX10_right_31 rfl rfl ?_
      refine u_iconst (pc' := 34) dX10_right_33 rfl ?_
      obtain ⟨c7, h⟩ := h
      refine u_icmp_ne (tgt := 39) (pc' := 37) dX10_right_34 rfl (by decide) c7 ⟨by decide, by decide⟩ (fun hb => ?_) (fun hb => ?_)
      · have h := h.1 hb
        refine u_aload_n (i := 0) (pc' := 40) dX10_right_39 rfl rfl rfl ?_
        refine u_getR (a := 136) (pc' := 43) dX10_right_40 rfl fl_TuneDoor_72 rfl (by decide) kd_2 rfl ?_
        refine u_iload (i := 4) (pc' := 45) dX10_right_43 rfl rfl ?_
        refine u_aload_n (i := 0) (pc' := 46) dX10_right_45 rfl rfl rfl ?_
        refine u_getR (a := 78) (pc' := 49) dX10_right_46 rfl fl_TuneDoor_42 rfl (by decide) kd_2 rfl ?_
        refine u_iload_n (i := 1) (pc' := 50) dX10_right_49 rfl rfl rfl ?_
        refine u_iload_n (i := 2) (pc' := 51) dX10_right_50 rfl rfl rfl ?_
        refine u_iload_n (i := 3) (pc' := 52) dX10_right_51 rfl rfl rfl ?_
        refine u_iadd (pc' := 53) dX10_right_52 rfl ?_
        refine u_iconst (pc' := 54) dX10_right_53 rfl ?_
        refine u_isub (pc' := 55) dX10_right_54 rfl ?_
        refine u_invV (q' := qX9_tuneAt) (As := [vI a0, vI ((a1 + a2) - 1)]) (st := [vI r6, vR 136]) (pc' := 58) dX10_right_55 rfl gX9_tuneAt wm_871 rfl rfl (by decide) kd_78 wm_872 wm_873 rfl (Nat.le_of_ble_eq_true rfl) (M0.mono h (fun v τ8 h => ?_))
        obtain ⟨r9, rfl, h⟩ := h
        show V0 E (d + 1) qX10_right 58 [some (vR 2), some (vI a0), some (vI a1), some (vI a2), some (vI r6)] [vI r9, vI r6, vR 136] τ8 Q
        refine u_invV (q' := qX1_nextBy) (As := [vI r6, vI r9]) (st := []) (pc' := 61) dX10_right_58 rfl gX1_nextBy wm_1124 rfl rfl (by decide) kd_136 wm_1097 wm_1098 rfl (Nat.le_of_ble_eq_true rfl) (M0.mono h (fun v τ10 h => ?_))
        obtain ⟨r11, rfl, h⟩ := h
        show V0 E (d + 1) qX10_right 61 [some (vR 2), some (vI a0), some (vI a1), some (vI a2), some (vI r6)] [vI r11] τ10 Q
        refine u_aload_n (i := 0) (pc' := 62) dX10_right_61 rfl rfl rfl ?_
        refine u_getR (a := 78) (pc' := 65) dX10_right_62 rfl fl_TuneDoor_42 rfl (by decide) kd_2 rfl ?_
        refine u_iload_n (i := 1) (pc' := 66) dX10_right_65 rfl rfl rfl ?_
        refine u_iload_n (i := 2) (pc' := 67) dX10_right_66 rfl rfl rfl ?_
        refine u_iload_n (i := 3) (pc' := 68) dX10_right_67 rfl rfl rfl ?_
        refine u_iadd (pc' := 69) dX10_right_68 rfl ?_
        refine u_invV (q' := qX9_tuneAt) (As := [vI a0, vI (a1 + a2)]) (st := [vI r11]) (pc' := 72) dX10_right_69 rfl gX9_tuneAt wm_871 rfl rfl (by decide) kd_78 wm_872 wm_873 rfl (Nat.le_of_ble_eq_true rfl) (M0.mono h (fun v τ12 h => ?_))
        obtain ⟨r13, rfl, h⟩ := h
        show V0 E (d + 1) qX10_right 72 [some (vR 2), some (vI a0), some (vI a1), some (vI a2), some (vI r6)] [vI r13, vI r11] τ12 Q
        obtain ⟨c14, c15, h⟩ := h
        refine u_icmp_ne (tgt := 79) (pc' := 75) dX10_right_72 rfl (by decide) c14 c15 (fun hb => ?_) (fun hb => ?_)
        · have h := h.1 hb
          refine u_iconst (pc' := 80) dX10_right_79 rfl ?_
          exact u_iret dX10_right_80 rfl h
        · have h := h.2 hb
          refine u_iconst (pc' := 76) dX10_right_75 rfl ?_
          refine u_goto (tgt := 80) dX10_right_76 (by decide) ?_
          exact u_iret dX10_right_80 rfl h
      · have h := h.2 hb
        refine u_iconst (pc' := 38) dX10_right_37 rfl ?_
        exact u_iret dX10_right_38 rfl h
    · have h := h.2 (bI_0.mp hb)
      refine u_iconst (pc' := 20) dX10_right_19 rfl ?_
      exact u_iret dX10_right_20 rfl h
theorem mX10_right {E : mm_Env} {d : Nat} {τ : mm_Mem} {Q : mm_Q0} {a0 : Int} {a1 : Int} {a2 : Int} (h : M0 E d qX10_hearForms [vR 2, vI a0, vI a1, vI a2] τ (fun v τ1 => ∃ b2 : Bool, v = some (vB b2) ∧ ((b2 = false → Q (some (vI (-1))) τ1) ∧ (b2 = true → M0 E d qX10_isWhistle [vI (a1 + a2)] τ1 (fun v τ3 => ∃ b4 : Bool, v = some (vB b4) ∧ ((b4 = true → M0 E d qX1_firstFrom [vR 136, vI 0] τ3 (fun v τ5 => ∃ r6 : Int, v = some (vI r6) ∧ inR r6 ∧ ((r6 ≠ (-1) → M0 E d qX9_tuneAt [vR 78, vI a0, vI ((a1 + a2) - 1)] τ5 (fun v τ8 => ∃ r9 : Int, v = some (vI r9) ∧ M0 E d qX1_nextBy [vR 136, vI r6, vI r9] τ8 (fun v τ10 => ∃ r11 : Int, v = some (vI r11) ∧ M0 E d qX9_tuneAt [vR 78, vI a0, vI (a1 + a2)] τ10 (fun v τ12 => ∃ r13 : Int, v = some (vI r13) ∧ inR r11 ∧ inR r13 ∧ ((r11 ≠ r13 → Q (some (vI 0)) τ12) ∧ (r11 = r13 → Q (some (vI 1)) τ12)))))) ∧ (r6 = (-1) → Q (some (vI (-1))) τ5)))) ∧ (b4 = false → Q (some (vI (-1))) τ3))))))) : M0 E (d + 1) qX10_right [vR 2, vI a0, vI a1, vI a2] τ Q := M0_of rfl (Nat.le_of_ble_eq_true rfl) [some (vR 2), some (vI a0), some (vI a1), some (vI a2), none] rfl (bX10_right_0  h)
set_option maxRecDepth 20000 in
theorem bX10_same_0 {E : mm_Env} {d : Nat} {τ : mm_Mem} {Q : mm_Q0} {a0 : Int} {a1 : Int} {a2 : Int} (h : M0 E d qX10_isTune [vR 2, vI a0] τ (fun v τ1 => ∃ b2 : Bool, v = some (vB b2) ∧ ((b2 = false → Q (some (vI (-1))) τ1) ∧ (b2 = true → M0 E d qX10_isTune [vR 2, vI a1] τ1 (fun v τ3 => ∃ b4 : Bool, v = some (vB b4) ∧ ((b4 = false → Q (some (vI (-1))) τ3) ∧ (b4 = true → inR a0 ∧ inR a1 ∧ ((a0 = a1 → Q (some (vI (-1))) τ3) ∧ (¬ a0 = a1 → inR a2 ∧ ((a2 < 0 → Q (some (vI (-1))) τ3) ∧ (¬ a2 < 0 → ((a2 ≤ 1 → M0 E d qX7_noteFirsts [vR 133, vI a1, vI 999] τ3 (fun v τ8 => v = none ∧ V0 E (d + 1) qX10_same 46 [some (vR 2), some (vI a0), none, some (vI a2), some (vI 0), none] [] τ8 Q)) ∧ (¬ a2 ≤ 1 → Q (some (vI (-1))) τ3))))))))))))) : V0 E (d + 1) qX10_same 0 [some (vR 2), some (vI a0), some (vI a1), some (vI a2), none, none] [] τ Q := by
  refine u_aload_n (i := 0) (pc' := 1) dX10_same_0 rfl rfl rfl ?_
  refine u_iload_n (i := 1) (pc' := 2) dX10_same_1 rfl rfl rfl ?_
  refine u_invV (q' := qX10_isTune) (As := [vI a0]) (st := []) (pc' := 5) dX10_same_2 rfl gX10_isTune wm_841 rfl rfl (by decide) kd_2 wm_843 wp_45 rfl (Nat.le_of_ble_eq_true rfl) (M0.mono h (fun v τ1 h => ?_))
  obtain ⟨b2, rfl, h⟩ := h
  show V0 E (d + 1) qX10_same 5 [some (vR 2), some (vI a0), some (vI a1), some (vI a2), none, none] [vB b2] τ1 Q
  refine u_if_eq (tgt := 30) (pc' := 8) dX10_same_5 rfl (by decide) (bI_R _) (fun hb => ?_) (fun hb => ?_)
  · have h := h.1 (bI_0.mp hb)
    refine u_iconst (pc' := 31) dX10_same_30 rfl ?_
    exact u_iret dX10_same_31 rfl h
  · have h := h.2 (bI_n0.mp hb)
    refine u_aload_n (i := 0) (pc' := 9) dX10_same_8 rfl rfl rfl ?_
    refine u_iload_n (i := 2) (pc' := 10) dX10_same_9 rfl rfl rfl ?_
    refine u_invV (q' := qX10_isTune) (As := [vI a1]) (st := []) (pc' := 13) dX10_same_10 rfl gX10_isTune wm_841 rfl rfl (by decide) kd_2 wm_843 wp_45 rfl (Nat.le_of_ble_eq_true rfl) (M0.mono h (fun v τ3 h => ?_))
    obtain ⟨b4, rfl, h⟩ := h
    show V0 E (d + 1) qX10_same 13 [some (vR 2), some (vI a0), some (vI a1), some (vI a2), none, none] [vB b4] τ3 Q
    refine u_if_eq (tgt := 30) (pc' := 16) dX10_same_13 rfl (by decide) (bI_R _) (fun hb => ?_) (fun hb => ?_)
    · have h := h.1 (bI_0.mp hb)
      refine u_iconst (pc' := 31) dX10_same_30 rfl ?_
      exact u_iret dX10_same_31 rfl h
    · have h := h.2 (bI_n0.mp hb)
      refine u_iload_n (i := 1) (pc' := 17) dX10_same_16 rfl rfl rfl ?_
      refine u_iload_n (i := 2) (pc' := 18) dX10_same_17 rfl rfl rfl ?_
      obtain ⟨c5, c6, h⟩ := h
      refine u_icmp_eq (tgt := 30) (pc' := 21) dX10_same_18 rfl (by decide) c5 c6 (fun hb => ?_) (fun hb => ?_)
      · have h := h.1 hb
        refine u_iconst (pc' := 31) dX10_same_30 rfl ?_
        exact u_iret dX10_same_31 rfl h
      · have h := h.2 hb
        refine u_iload_n (i := 3) (pc' := 22) dX10_same_21 rfl rfl rfl ?_
        obtain ⟨c7, h⟩ := h
        refine u_if_lt (tgt := 30) (pc' := 25) dX10_same_22 rfl (by decide) c7 (fun hb => ?_) (fun hb => ?_)
        · have h := h.1 hb
          refine u_iconst (pc' := 31) dX10_same_30 rfl ?_
          exact u_iret dX10_same_31 rfl h
        · have h := h.2 hb
          refine u_iload_n (i := 3) (pc' := 26) dX10_same_25 rfl rfl rfl ?_
          refine u_iconst (pc' := 27) dX10_same_26 rfl ?_
          refine u_icmp_le (tgt := 32) (pc' := 30) dX10_same_27 rfl (by decide) c7 ⟨by decide, by decide⟩ (fun hb => ?_) (fun hb => ?_)
          · have h := h.1 hb
            refine u_aload_n (i := 0) (pc' := 33) dX10_same_32 rfl rfl rfl ?_
            refine u_getR (a := 133) (pc' := 36) dX10_same_33 rfl fl_TuneDoor_65 rfl (by decide) kd_2 rfl ?_
            refine u_iload_n (i := 2) (pc' := 37) dX10_same_36 rfl rfl rfl ?_
            refine u_sipush (pc' := 40) dX10_same_37 rfl (by decide) ?_
            refine u_invV (q' := qX7_noteFirsts) (As := [vI a1, vI 999]) (st := []) (pc' := 43) dX10_same_40 rfl gX7_noteFirsts wm_1129 rfl rfl (by decide) kd_133 wm_1130 wm_1131 rfl (Nat.le_of_ble_eq_true rfl) (M0.mono h (fun v τ8 h => ?_))
            obtain ⟨rfl, h⟩ := h
            show V0 E (d + 1) qX10_same 43 [some (vR 2), some (vI a0), some (vI a1), some (vI a2), none, none] [] τ8 Q
            refine u_iconst (pc' := 44) dX10_same_43 rfl ?_
            refine s_istore (i := 4) (ls' := [some (vR 2), some (vI a0), some (vI a1), some (vI a2), some (vI 0), none]) (pc' := 46) dX10_same_44 rfl (Nat.le_of_ble_eq_true rfl) rfl rfl ?_
            exact u_less (ls' := [some (vR 2), some (vI a0), none, some (vI a2), some (vI 0), none]) ⟨rfl, ⟨rfl, ⟨rfl, ⟨rfl, trivial⟩⟩⟩⟩ h
          · have h := h.2 hb
            refine u_iconst (pc' := 31) dX10_same_30 rfl ?_
            exact u_iret dX10_same_31 rfl h
theorem mX10_same {E : mm_Env} {d : Nat} {τ : mm_Mem} {Q : mm_Q0} {a0 : Int} {a1 : Int} {a2 : Int} (h : M0 E d qX10_isTune [vR 2, vI a0] τ (fun v τ1 => ∃ b2 : Bool, v = some (vB b2) ∧ ((b2 = false → Q (some (vI (-1))) τ1) ∧ (b2 = true → M0 E d qX10_isTune [vR 2, vI a1] τ1 (fun v τ3 => ∃ b4 : Bool, v = some (vB b4) ∧ ((b4 = false → Q (some (vI (-1))) τ3) ∧ (b4 = true → inR a0 ∧ inR a1 ∧ ((a0 = a1 → Q (some (vI (-1))) τ3) ∧ (¬ a0 = a1 → inR a2 ∧ ((a2 < 0 → Q (some (vI (-1))) τ3) ∧ (¬ a2 < 0 → ((a2 ≤ 1 → M0 E d qX7_noteFirsts [vR 133, vI a1, vI 999] τ3 (fun v τ8 => v = none ∧ V0 E (d + 1) qX10_same 46 [some (vR 2), some (vI a0), none, some (vI a2), some (vI 0), none] [] τ8 Q)) ∧ (¬ a2 ≤ 1 → Q (some (vI (-1))) τ3))))))))))))) : M0 E (d + 1) qX10_same [vR 2, vI a0, vI a1, vI a2] τ Q := M0_of rfl (Nat.le_of_ble_eq_true rfl) [some (vR 2), some (vI a0), some (vI a1), some (vI a2), none, none] rfl (bX10_same_0  h)
set_option maxRecDepth 20000 in
theorem bX10_same_46 {E : mm_Env} {d : Nat} {τ : mm_Mem} {Q : mm_Q0} {x1 : Int} {x3 : Int} {x4 : Int} (h : inR x4 ∧ ((999 ≤ x4 → Q (some (vI (-1))) τ) ∧ (¬ 999 ≤ x4 → M0 E d qX9_numberAt [vR 78, vI x1, vI x4] τ (fun v τ2 => ∃ r3 : Int, v = some (vI r3) ∧ M0 E d qX7_firstOf [vR 133, vI r3] τ2 (fun v τ4 => ∃ r5 : Int, v = some (vI r5) ∧ inR r5 ∧ ((r5 = (-1) → V0 E (d + 1) qX10_same 46 [some (vR 2), some (vI x1), none, some (vI x3), some (vI (x4 + 1)), none] [] τ4 Q) ∧ (¬ r5 = (-1) → inR x3 ∧ ((x3 ≠ 0 → Q (some (vI r5)) τ4) ∧ (x3 = 0 → Q (some (vI x4)) τ4))))))))) : V0 E (d + 1) qX10_same 46 [some (vR 2), some (vI x1), none, some (vI x3), some (vI x4), none] [] τ Q := by
  refine u_iload (i := 4) (pc' := 48) dX10_same_46 rfl rfl ?_
  refine u_sipush (pc' := 51) dX10_same_48 rfl (by decide) ?_
  obtain ⟨c1, h⟩ := h
  refine u_icmp_ge (tgt := 97) (pc' := 54) dX10_same_51 rfl (by decide) c1 ⟨by decide, by decide⟩ (fun hb => ?_) (fun hb => ?_)
  · have h := h.1 hb
    refine u_iconst (pc' := 98) dX10_same_97 rfl ?_
    exact u_iret dX10_same_98 rfl h
  · have h := h.2 hb
    refine u_aload_n (i := 0) (pc' := 55) dX10_same_54 rfl rfl rfl ?_
    refine u_getR (a := 133) (pc' := 58) dX10_same_55 rfl fl_TuneDoor_65 rfl (by decide) kd_2 rfl ?_
    refine u_aload_n (i := 0) (pc' := 59) dX10_same_58 rfl rfl rfl ?_
    refine u_getR (a := 78) (pc' := 62) dX10_same_59 rfl fl_TuneDoor_42 rfl (by decide) kd_2 rfl ?_
    refine u_iload_n (i := 1) (pc' := 63) dX10_same_62 rfl rfl rfl ?_
    refine u_iload (i := 4) (pc' := 65) dX10_same_63 rfl rfl ?_
    refine u_invV (q' := qX9_numberAt) (As := [vI x1, vI x4]) (st := [vR 133]) (pc' := 68) dX10_same_65 rfl gX9_numberAt wm_860 rfl rfl (by decide) kd_78 wm_861 wm_862 rfl (Nat.le_of_ble_eq_true rfl) (M0.mono h (fun v τ2 h => ?_))
    obtain ⟨r3, rfl, h⟩ := h
    show V0 E (d + 1) qX10_same 68 [some (vR 2), some (vI x1), none, some (vI x3), some (vI x4), none] [vI r3, vR 133] τ2 Q
    refine u_invV (q' := qX7_firstOf) (As := [vI r3]) (st := []) (pc' := 71) dX10_same_68 rfl gX7_firstOf wm_1134 rfl rfl (by decide) kd_133 wm_1135 wm_1136 rfl (Nat.le_of_ble_eq_true rfl) (M0.mono h (fun v τ4 h => ?_))
    obtain ⟨r5, rfl, h⟩ := h
    show V0 E (d + 1) qX10_same 71 [some (vR 2), some (vI x1), none, some (vI x3), some (vI x4), none] [vI r5] τ4 Q
    refine s_istore (i := 5) (ls' := [some (vR 2), some (vI x1), none, some (vI x3), some (vI x4), some (vI r5)]) (pc' := 73) dX10_same_71 rfl (Nat.le_of_ble_eq_true rfl) rfl rfl ?_
    refine u_iload (i := 5) (pc' := 75) dX10_same_73 rfl rfl ?_
    refine u_iconst (pc' := 76) dX10_same_75 rfl ?_
    obtain ⟨c6, h⟩ := h
    refine u_icmp_eq (tgt := 91) (pc' := 79) dX10_same_76 rfl (by decide) c6 ⟨by decide, by decide⟩ (fun hb => ?_) (fun hb => ?_)
    · have h := h.1 hb
      refine s_iinc (i := 4) (ls' := [some (vR 2), some (vI x1), none, some (vI x3), some (vI (x4 + 1)), some (vI r5)]) (pc' := 94) dX10_same_91 rfl rfl (Nat.le_of_ble_eq_true rfl) rfl rfl ?_
      refine u_goto (tgt := 46) dX10_same_94 (by decide) ?_
      exact u_less (ls' := [some (vR 2), some (vI x1), none, some (vI x3), some (vI (x4 + 1)), none]) ⟨rfl, ⟨rfl, ⟨rfl, ⟨rfl, trivial⟩⟩⟩⟩ h
    · have h := h.2 hb
      refine u_iload_n (i := 3) (pc' := 80) dX10_same_79 rfl rfl rfl ?_
      obtain ⟨c7, h⟩ := h
      refine u_if_ne (tgt := 88) (pc' := 83) dX10_same_80 rfl (by decide) c7 (fun hb => ?_) (fun hb => ?_)
      · have h := h.1 hb
        refine u_iload (i := 5) (pc' := 90) dX10_same_88 rfl rfl ?_
        exact u_iret dX10_same_90 rfl h
      · have h := h.2 hb
        refine u_iload (i := 4) (pc' := 85) dX10_same_83 rfl rfl ?_
        refine u_goto (tgt := 90) dX10_same_85 (by decide) ?_
        exact u_iret dX10_same_90 rfl h
set_option maxRecDepth 20000 in
theorem bX10_tells_0 {E : mm_Env} {d : Nat} {τ : mm_Mem} {Q : mm_Q0} {a0 : Int} {a1 : Int} {a2 : Int} (h : M0 E d qX10_isTune [vR 2, vI a0] τ (fun v τ1 => ∃ b2 : Bool, v = some (vB b2) ∧ ((b2 = false → Q (some (vI (-1))) τ1) ∧ (b2 = true → M0 E d qX10_isTune [vR 2, vI a1] τ1 (fun v τ3 => ∃ b4 : Bool, v = some (vB b4) ∧ ((b4 = false → Q (some (vI (-1))) τ3) ∧ (b4 = true → inR a0 ∧ inR a1 ∧ ((a0 = a1 → Q (some (vI (-1))) τ3) ∧ (¬ a0 = a1 → M0 E d qX10_isWhistle [vI a2] τ3 (fun v τ7 => ∃ b8 : Bool, v = some (vB b8) ∧ ((b8 = true → V0 E (d + 1) qX10_tells 33 [some (vR 2), some (vI a0), some (vI a1), some (vI a2), some (vI a2)] [] τ7 Q) ∧ (b8 = false → Q (some (vI (-1))) τ7)))))))))))) : V0 E (d + 1) qX10_tells 0 [some (vR 2), some (vI a0), some (vI a1), some (vI a2), none] [] τ Q := by
  refine u_aload_n (i := 0) (pc' := 1) dX10_tells_0 rfl rfl rfl ?_
  refine u_iload_n (i := 1) (pc' := 2) dX10_tells_1 rfl rfl rfl ?_
  refine u_invV (q' := qX10_isTune) (As := [vI a0]) (st := []) (pc' := 5) dX10_tells_2 rfl gX10_isTune wm_841 rfl rfl (by decide) kd_2 wm_843 wp_45 rfl (Nat.le_of_ble_eq_true rfl) (M0.mono h (fun v τ1 h => ?_))
  obtain ⟨b2, rfl, h⟩ := h
  show V0 E (d + 1) qX10_tells 5 [some (vR 2), some (vI a0), some (vI a1), some (vI a2), none] [vB b2] τ1 Q
  refine u_if_eq (tgt := 28) (pc' := 8) dX10_tells_5 rfl (by decide) (bI_R _) (fun hb => ?_) (fun hb => ?_)
  · have h := h.1 (bI_0.mp hb)
    refine u_iconst (pc' := 29) dX10_tells_28 rfl ?_
    exact u_iret dX10_tells_29 rfl h
  · have h := h.2 (bI_n0.mp hb)
    refine u_aload_n (i := 0) (pc' := 9) dX10_tells_8 rfl rfl rfl ?_
    refine u_iload_n (i := 2) (pc' := 10) dX10_tells_9 rfl rfl rfl ?_
    refine u_invV (q' := qX10_isTune) (As := [vI a1]) (st := []) (pc' := 13) dX10_tells_10 rfl gX10_isTune wm_841 rfl rfl (by decide) kd_2 wm_843 wp_45 rfl (Nat.le_of_ble_eq_true rfl) (M0.mono h (fun v τ3 h => ?_))
    obtain ⟨b4, rfl, h⟩ := h
    show V0 E (d + 1) qX10_tells 13 [some (vR 2), some (vI a0), some (vI a1), some (vI a2), none] [vB b4] τ3 Q
    refine u_if_eq (tgt := 28) (pc' := 16) dX10_tells_13 rfl (by decide) (bI_R _) (fun hb => ?_) (fun hb => ?_)
    · have h := h.1 (bI_0.mp hb)
      refine u_iconst (pc' := 29) dX10_tells_28 rfl ?_
      exact u_iret dX10_tells_29 rfl h
    · have h := h.2 (bI_n0.mp hb)
      refine u_iload_n (i := 1) (pc' := 17) dX10_tells_16 rfl rfl rfl ?_
      refine u_iload_n (i := 2) (pc' := 18) dX10_tells_17 rfl rfl rfl ?_
      obtain ⟨c5, c6, h⟩ := h
      refine u_icmp_eq (tgt := 28) (pc' := 21) dX10_tells_18 rfl (by decide) c5 c6 (fun hb => ?_) (fun hb => ?_)
      · have h := h.1 hb
        refine u_iconst (pc' := 29) dX10_tells_28 rfl ?_
        exact u_iret dX10_tells_29 rfl h
      · have h := h.2 hb
        refine u_iload_n (i := 3) (pc' := 22) dX10_tells_21 rfl rfl rfl ?_
        refine u_invS (q' := qX10_isWhistle) (As := [vI a2]) (st := []) (pc' := 25) dX10_tells_22 rfl gX10_isWhistle wm_857 wm_858 rfl (Nat.le_of_ble_eq_true rfl) (M0.mono h (fun v τ7 h => ?_))
        obtain ⟨b8, rfl, h⟩ := h
        show V0 E (d + 1) qX10_tells 25 [some (vR 2), some (vI a0), some (vI a1), some (vI a2), none] [vB b8] τ7 Q
        refine u_if_ne (tgt := 30) (pc' := 28) dX10_tells_25 rfl (by decide) (bI_R _) (fun hb => ?_) (fun hb => ?_)
        · have h := h.1 (bI_n0.mp hb)
          refine u_iload_n (i := 3) (pc' := 31) dX10_tells_30 rfl rfl rfl ?_
          refine s_istore (i := 4) (ls' := [some (vR 2), some (vI a0), some (vI a1), some (vI a2), some (vI a2)]) (pc' := 33) dX10_tells_31 rfl (Nat.le_of_ble_eq_true rfl) rfl rfl ?_
          exact u_less (ls' := [some (vR 2), some (vI a0), some (vI a1), some (vI a2), some (vI a2)]) ⟨rfl, ⟨rfl, ⟨rfl, ⟨rfl, ⟨rfl, trivial⟩⟩⟩⟩⟩ h
        · have h := h.2 (bI_0.mp hb)
          refine u_iconst (pc' := 29) dX10_tells_28 rfl ?_
          exact u_iret dX10_tells_29 rfl h
theorem mX10_tells {E : mm_Env} {d : Nat} {τ : mm_Mem} {Q : mm_Q0} {a0 : Int} {a1 : Int} {a2 : Int} (h : M0 E d qX10_isTune [vR 2, vI a0] τ (fun v τ1 => ∃ b2 : Bool, v = some (vB b2) ∧ ((b2 = false → Q (some (vI (-1))) τ1) ∧ (b2 = true → M0 E d qX10_isTune [vR 2, vI a1] τ1 (fun v τ3 => ∃ b4 : Bool, v = some (vB b4) ∧ ((b4 = false → Q (some (vI (-1))) τ3) ∧ (b4 = true → inR a0 ∧ inR a1 ∧ ((a0 = a1 → Q (some (vI (-1))) τ3) ∧ (¬ a0 = a1 → M0 E d qX10_isWhistle [vI a2] τ3 (fun v τ7 => ∃ b8 : Bool, v = some (vB b8) ∧ ((b8 = true → V0 E (d + 1) qX10_tells 33 [some (vR 2), some (vI a0), some (vI a1), some (vI a2), some (vI a2)] [] τ7 Q) ∧ (b8 = false → Q (some (vI (-1))) τ7)))))))))))) : M0 E (d + 1) qX10_tells [vR 2, vI a0, vI a1, vI a2] τ Q := M0_of rfl (Nat.le_of_ble_eq_true rfl) [some (vR 2), some (vI a0), some (vI a1), some (vI a2), none] rfl (bX10_tells_0  h)
set_option maxRecDepth 20000 in
theorem bX10_tells_33 {E : mm_Env} {d : Nat} {τ : mm_Mem} {Q : mm_Q0} {x1 : Int} {x2 : Int} {x3 : Int} {x4 : Int} (h : inR x4 ∧ ((1000 ≤ x4 → Q (some (vI (-1))) τ) ∧ (¬ 1000 ≤ x4 → M0 E d qX9_tuneAt [vR 78, vI x1, vI x4] τ (fun v τ2 => ∃ r3 : Int, v = some (vI r3) ∧ M0 E d qX9_tuneAt [vR 78, vI x2, vI x4] τ2 (fun v τ4 => ∃ r5 : Int, v = some (vI r5) ∧ inR r3 ∧ inR r5 ∧ ((r3 = r5 → V0 E (d + 1) qX10_tells 33 [some (vR 2), some (vI x1), some (vI x2), some (vI x3), some (vI (x4 + 1))] [] τ4 Q) ∧ (¬ r3 = r5 → Q (some (vI ((x4 - x3) + 1))) τ4))))))) : V0 E (d + 1) qX10_tells 33 [some (vR 2), some (vI x1), some (vI x2), some (vI x3), some (vI x4)] [] τ Q := by
  refine u_iload (i := 4) (pc' := 35) dX10_tells_33 rfl rfl ?_
  refine u_sipush (pc' := 38) dX10_tells_35 rfl (by decide) ?_
  obtain ⟨c1, h⟩ := h
  refine u_icmp_ge (tgt := 77) (pc' := 41) dX10_tells_38 rfl (by decide) c1 ⟨by decide, by decide⟩ (fun hb => ?_) (fun hb => ?_)
  · have h := h.1 hb
    refine u_iconst (pc' := 78) dX10_tells_77 rfl ?_
    exact u_iret dX10_tells_78 rfl h
  · have h := h.2 hb
    refine u_aload_n (i := 0) (pc' := 42) dX10_tells_41 rfl rfl rfl ?_
    refine u_getR (a := 78) (pc' := 45) dX10_tells_42 rfl fl_TuneDoor_42 rfl (by decide) kd_2 rfl ?_
    refine u_iload_n (i := 1) (pc' := 46) dX10_tells_45 rfl rfl rfl ?_
    refine u_iload (i := 4) (pc' := 48) dX10_tells_46 rfl rfl ?_
    refine u_invV (q' := qX9_tuneAt) (As := [vI x1, vI x4]) (st := []) (pc' := 51) dX10_tells_48 rfl gX9_tuneAt wm_871 rfl rfl (by decide) kd_78 wm_872 wm_873 rfl (Nat.le_of_ble_eq_true rfl) (M0.mono h (fun v τ2 h => ?_))
    obtain ⟨r3, rfl, h⟩ := h
    show V0 E (d + 1) qX10_tells 51 [some (vR 2), some (vI x1), some (vI x2), some (vI x3), some (vI x4)] [vI r3] τ2 Q
    refine u_aload_n (i := 0) (pc' := 52) dX10_tells_51 rfl rfl rfl ?_
    refine u_getR (a := 78) (pc' := 55) dX10_tells_52 rfl fl_TuneDoor_42 rfl (by decide) kd_2 rfl ?_
    refine u_iload_n (i := 2) (pc' := 56) dX10_tells_55 rfl rfl rfl ?_
    refine u_iload (i := 4) (pc' := 58) dX10_tells_56 rfl rfl ?_
    refine u_invV (q' := qX9_tuneAt) (As := [vI x2, vI x4]) (st := [vI r3]) (pc' := 61) dX10_tells_58 rfl gX9_tuneAt wm_871 rfl rfl (by decide) kd_78 wm_872 wm_873 rfl (Nat.le_of_ble_eq_true rfl) (M0.mono h (fun v τ4 h => ?_))
    obtain ⟨r5, rfl, h⟩ := h
    show V0 E (d + 1) qX10_tells 61 [some (vR 2), some (vI x1), some (vI x2), some (vI x3), some (vI x4)] [vI r5, vI r3] τ4 Q
    obtain ⟨c6, c7, h⟩ := h
    refine u_icmp_eq (tgt := 71) (pc' := 64) dX10_tells_61 rfl (by decide) c6 c7 (fun hb => ?_) (fun hb => ?_)
    · have h := h.1 hb
      refine s_iinc (i := 4) (ls' := [some (vR 2), some (vI x1), some (vI x2), some (vI x3), some (vI (x4 + 1))]) (pc' := 74) dX10_tells_71 rfl rfl (Nat.le_of_ble_eq_true rfl) rfl rfl ?_
      refine u_goto (tgt := 33) dX10_tells_74 (by decide) ?_
      exact u_less (ls' := [some (vR 2), some (vI x1), some (vI x2), some (vI x3), some (vI (x4 + 1))]) ⟨rfl, ⟨rfl, ⟨rfl, ⟨rfl, ⟨rfl, trivial⟩⟩⟩⟩⟩ h
    · have h := h.2 hb
      refine u_iload (i := 4) (pc' := 66) dX10_tells_64 rfl rfl ?_
      refine u_iload_n (i := 3) (pc' := 67) dX10_tells_66 rfl rfl rfl ?_
      refine u_isub (pc' := 68) dX10_tells_67 rfl ?_
      refine u_iconst (pc' := 69) dX10_tells_68 rfl ?_
      refine u_iadd (pc' := 70) dX10_tells_69 rfl ?_
      exact u_iret dX10_tells_70 rfl h
set_option maxRecDepth 20000 in
theorem bX10_bird_0 {E : mm_Env} {d : Nat} {τ : mm_Mem} {Q : mm_Q0} {a0 : Int} {a1 : Int} {a2 : Int} {a3 : Int} (h : M0 E d qX10_isTune [vR 2, vI a1] τ (fun v τ1 => ∃ b2 : Bool, v = some (vB b2) ∧ ((b2 = false → Q (some (vI (-1))) τ1) ∧ (b2 = true → M0 E d qX10_isWhistle [vI a2] τ1 (fun v τ3 => ∃ b4 : Bool, v = some (vB b4) ∧ ((b4 = false → Q (some (vI (-1))) τ3) ∧ (b4 = true → inR a3 ∧ ((a3 < 1 → Q (some (vI (-1))) τ3) ∧ (¬ a3 < 1 → ((100 < a3 → Q (some (vI (-1))) τ3) ∧ (¬ 100 < a3 → M0 E d qX10_tryAt [vR 2, vI a0] τ3 (fun v τ6 => ∃ b7 : Bool, v = some (vB b7) ∧ ((b7 = true → V0 E (d + 1) qX10_bird 44 [some (vR 2), none, some (vI a1), some (vI a2), some (vI a3), some (vI 0), some (vI 0)] [] τ6 Q) ∧ (b7 = false → Q (some (vI (-1))) τ6)))))))))))))) : V0 E (d + 1) qX10_bird 0 [some (vR 2), some (vI a0), some (vI a1), some (vI a2), some (vI a3), none, none] [] τ Q := by
  refine u_aload_n (i := 0) (pc' := 1) dX10_bird_0 rfl rfl rfl ?_
  refine u_iload_n (i := 2) (pc' := 2) dX10_bird_1 rfl rfl rfl ?_
  refine u_invV (q' := qX10_isTune) (As := [vI a1]) (st := []) (pc' := 5) dX10_bird_2 rfl gX10_isTune wm_841 rfl rfl (by decide) kd_2 wm_843 wp_45 rfl (Nat.le_of_ble_eq_true rfl) (M0.mono h (fun v τ1 h => ?_))
  obtain ⟨b2, rfl, h⟩ := h
  show V0 E (d + 1) qX10_bird 5 [some (vR 2), some (vI a0), some (vI a1), some (vI a2), some (vI a3), none, none] [vB b2] τ1 Q
  refine u_if_eq (tgt := 36) (pc' := 8) dX10_bird_5 rfl (by decide) (bI_R _) (fun hb => ?_) (fun hb => ?_)
  · have h := h.1 (bI_0.mp hb)
    refine u_iconst (pc' := 37) dX10_bird_36 rfl ?_
    exact u_iret dX10_bird_37 rfl h
  · have h := h.2 (bI_n0.mp hb)
    refine u_iload_n (i := 3) (pc' := 9) dX10_bird_8 rfl rfl rfl ?_
    refine u_invS (q' := qX10_isWhistle) (As := [vI a2]) (st := []) (pc' := 12) dX10_bird_9 rfl gX10_isWhistle wm_857 wm_858 rfl (Nat.le_of_ble_eq_true rfl) (M0.mono h (fun v τ3 h => ?_))
    obtain ⟨b4, rfl, h⟩ := h
    show V0 E (d + 1) qX10_bird 12 [some (vR 2), some (vI a0), some (vI a1), some (vI a2), some (vI a3), none, none] [vB b4] τ3 Q
    refine u_if_eq (tgt := 36) (pc' := 15) dX10_bird_12 rfl (by decide) (bI_R _) (fun hb => ?_) (fun hb => ?_)
    · have h := h.1 (bI_0.mp hb)
      refine u_iconst (pc' := 37) dX10_bird_36 rfl ?_
      exact u_iret dX10_bird_37 rfl h
    · have h := h.2 (bI_n0.mp hb)
      refine u_iload (i := 4) (pc' := 17) dX10_bird_15 rfl rfl ?_
      refine u_iconst (pc' := 18) dX10_bird_17 rfl ?_
      obtain ⟨c5, h⟩ := h
      refine u_icmp_lt (tgt := 36) (pc' := 21) dX10_bird_18 rfl (by decide) c5 ⟨by decide, by decide⟩ (fun hb => ?_) (fun hb => ?_)
      · have h := h.1 hb
        refine u_iconst (pc' := 37) dX10_bird_36 rfl ?_
        exact u_iret dX10_bird_37 rfl h
      · have h := h.2 hb
        refine u_iload (i := 4) (pc' := 23) dX10_bird_21 rfl rfl ?_
        refine u_bipush (pc' := 25) dX10_bird_23 rfl (by decide) ?_
        refine u_icmp_gt (tgt := 36) (pc' := 28) dX10_bird_25 rfl (by decide) c5 ⟨by decide, by decide⟩ (fun hb => ?_) (fun hb => ?_)
        · have h := h.1 hb
          refine u_iconst (pc' := 37) dX10_bird_36 rfl ?_
          exact u_iret dX10_bird_37 rfl h
        · have h := h.2 hb
          refine u_aload_n (i := 0) (pc' := 29) dX10_bird_28 rfl rfl rfl ?_
          refine u_iload_n (i := 1) (pc' := 30) dX10_bird_29 rfl rfl rfl ?_
          refine u_invV (q' := qX10_tryAt) (As := [vI a0]) (st := []) (pc' := 33) dX10_bird_30 rfl gX10_tryAt wm_969 rfl rfl (by decide) kd_2 wm_971 wp_50 rfl (Nat.le_of_ble_eq_true rfl) (M0.mono h (fun v τ6 h => ?_))
          obtain ⟨b7, rfl, h⟩ := h
          show V0 E (d + 1) qX10_bird 33 [some (vR 2), some (vI a0), some (vI a1), some (vI a2), some (vI a3), none, none] [vB b7] τ6 Q
          refine u_if_ne (tgt := 38) (pc' := 36) dX10_bird_33 rfl (by decide) (bI_R _) (fun hb => ?_) (fun hb => ?_)
          · have h := h.1 (bI_n0.mp hb)
            refine u_iconst (pc' := 39) dX10_bird_38 rfl ?_
            refine s_istore (i := 5) (ls' := [some (vR 2), some (vI a0), some (vI a1), some (vI a2), some (vI a3), some (vI 0), none]) (pc' := 41) dX10_bird_39 rfl (Nat.le_of_ble_eq_true rfl) rfl rfl ?_
            refine u_iconst (pc' := 42) dX10_bird_41 rfl ?_
            refine s_istore (i := 6) (ls' := [some (vR 2), some (vI a0), some (vI a1), some (vI a2), some (vI a3), some (vI 0), some (vI 0)]) (pc' := 44) dX10_bird_42 rfl (Nat.le_of_ble_eq_true rfl) rfl rfl ?_
            exact u_less (ls' := [some (vR 2), none, some (vI a1), some (vI a2), some (vI a3), some (vI 0), some (vI 0)]) ⟨rfl, ⟨rfl, ⟨rfl, ⟨rfl, ⟨rfl, ⟨rfl, trivial⟩⟩⟩⟩⟩⟩ h
          · have h := h.2 (bI_0.mp hb)
            refine u_iconst (pc' := 37) dX10_bird_36 rfl ?_
            exact u_iret dX10_bird_37 rfl h
theorem mX10_bird {E : mm_Env} {d : Nat} {τ : mm_Mem} {Q : mm_Q0} {a0 : Int} {a1 : Int} {a2 : Int} {a3 : Int} (h : M0 E d qX10_isTune [vR 2, vI a1] τ (fun v τ1 => ∃ b2 : Bool, v = some (vB b2) ∧ ((b2 = false → Q (some (vI (-1))) τ1) ∧ (b2 = true → M0 E d qX10_isWhistle [vI a2] τ1 (fun v τ3 => ∃ b4 : Bool, v = some (vB b4) ∧ ((b4 = false → Q (some (vI (-1))) τ3) ∧ (b4 = true → inR a3 ∧ ((a3 < 1 → Q (some (vI (-1))) τ3) ∧ (¬ a3 < 1 → ((100 < a3 → Q (some (vI (-1))) τ3) ∧ (¬ 100 < a3 → M0 E d qX10_tryAt [vR 2, vI a0] τ3 (fun v τ6 => ∃ b7 : Bool, v = some (vB b7) ∧ ((b7 = true → V0 E (d + 1) qX10_bird 44 [some (vR 2), none, some (vI a1), some (vI a2), some (vI a3), some (vI 0), some (vI 0)] [] τ6 Q) ∧ (b7 = false → Q (some (vI (-1))) τ6)))))))))))))) : M0 E (d + 1) qX10_bird [vR 2, vI a0, vI a1, vI a2, vI a3] τ Q := M0_of rfl (Nat.le_of_ble_eq_true rfl) [some (vR 2), some (vI a0), some (vI a1), some (vI a2), some (vI a3), none, none] rfl (bX10_bird_0  h)
set_option maxRecDepth 20000 in
theorem bX10_bird_44 {E : mm_Env} {d : Nat} {τ : mm_Mem} {Q : mm_Q0} {x2 : Int} {x3 : Int} {x4 : Int} {x5 : Int} {x6 : Int} (h : inR x6 ∧ inR x4 ∧ ((x4 ≤ x6 → Q (some (vI x5)) τ) ∧ (¬ x4 ≤ x6 → M0 E d qX10_trialOpens [vR 2, vI x2, vI x3] τ (fun v τ3 => ∃ b4 : Bool, v = some (vB b4) ∧ ((b4 = false → V0 E (d + 1) qX10_bird 44 [some (vR 2), none, some (vI x2), some (vI x3), some (vI x4), some (vI x5), some (vI (x6 + 1))] [] τ3 Q) ∧ (b4 = true → V0 E (d + 1) qX10_bird 44 [some (vR 2), none, some (vI x2), some (vI x3), some (vI x4), some (vI (x5 + 1)), some (vI (x6 + 1))] [] τ3 Q)))))) : V0 E (d + 1) qX10_bird 44 [some (vR 2), none, some (vI x2), some (vI x3), some (vI x4), some (vI x5), some (vI x6)] [] τ Q := by
  refine u_iload (i := 6) (pc' := 46) dX10_bird_44 rfl rfl ?_
  refine u_iload (i := 4) (pc' := 48) dX10_bird_46 rfl rfl ?_
  obtain ⟨c1, c2, h⟩ := h
  refine u_icmp_ge (tgt := 69) (pc' := 51) dX10_bird_48 rfl (by decide) c1 c2 (fun hb => ?_) (fun hb => ?_)
  · have h := h.1 hb
    refine u_iload (i := 5) (pc' := 71) dX10_bird_69 rfl rfl ?_
    exact u_iret dX10_bird_71 rfl h
  · have h := h.2 hb
    refine u_aload_n (i := 0) (pc' := 52) dX10_bird_51 rfl rfl rfl ?_
    refine u_iload_n (i := 2) (pc' := 53) dX10_bird_52 rfl rfl rfl ?_
    refine u_iload_n (i := 3) (pc' := 54) dX10_bird_53 rfl rfl rfl ?_
    refine u_invV (q' := qX10_trialOpens) (As := [vI x2, vI x3]) (st := []) (pc' := 57) dX10_bird_54 rfl gX10_trialOpens wm_977 rfl rfl (by decide) kd_2 wm_979 wp_51 rfl (Nat.le_of_ble_eq_true rfl) (M0.mono h (fun v τ3 h => ?_))
    obtain ⟨b4, rfl, h⟩ := h
    show V0 E (d + 1) qX10_bird 57 [some (vR 2), none, some (vI x2), some (vI x3), some (vI x4), some (vI x5), some (vI x6)] [vB b4] τ3 Q
    refine u_if_eq (tgt := 63) (pc' := 60) dX10_bird_57 rfl (by decide) (bI_R _) (fun hb => ?_) (fun hb => ?_)
    · have h := h.1 (bI_0.mp hb)
      refine s_iinc (i := 6) (ls' := [some (vR 2), none, some (vI x2), some (vI x3), some (vI x4), some (vI x5), some (vI (x6 + 1))]) (pc' := 66) dX10_bird_63 rfl rfl (Nat.le_of_ble_eq_true rfl) rfl rfl ?_
      refine u_goto (tgt := 44) dX10_bird_66 (by decide) ?_
      exact u_less (ls' := [some (vR 2), none, some (vI x2), some (vI x3), some (vI x4), some (vI x5), some (vI (x6 + 1))]) ⟨rfl, ⟨rfl, ⟨rfl, ⟨rfl, ⟨rfl, ⟨rfl, trivial⟩⟩⟩⟩⟩⟩ h
    · have h := h.2 (bI_n0.mp hb)
      refine s_iinc (i := 5) (ls' := [some (vR 2), none, some (vI x2), some (vI x3), some (vI x4), some (vI (x5 + 1)), some (vI x6)]) (pc' := 63) dX10_bird_60 rfl rfl (Nat.le_of_ble_eq_true rfl) rfl rfl ?_
      refine s_iinc (i := 6) (ls' := [some (vR 2), none, some (vI x2), some (vI x3), some (vI x4), some (vI (x5 + 1)), some (vI (x6 + 1))]) (pc' := 66) dX10_bird_63 rfl rfl (Nat.le_of_ble_eq_true rfl) rfl rfl ?_
      refine u_goto (tgt := 44) dX10_bird_66 (by decide) ?_
      exact u_less (ls' := [some (vR 2), none, some (vI x2), some (vI x3), some (vI x4), some (vI (x5 + 1)), some (vI (x6 + 1))]) ⟨rfl, ⟨rfl, ⟨rfl, ⟨rfl, ⟨rfl, ⟨rfl, trivial⟩⟩⟩⟩⟩⟩ h
set_option maxRecDepth 20000 in
theorem bX10_nights_0 {E : mm_Env} {d : Nat} {τ : mm_Mem} {Q : mm_Q0} {a0 : Int} (h : inR a0 ∧ ((a0 < 1 → inR ((τ 139 3) + 1) ∧ Q (some (vI (-1))) (wr τ 139 3 ((τ 139 3) + 1))) ∧ (¬ a0 < 1 → ((60 < a0 → inR ((τ 139 3) + 1) ∧ Q (some (vI (-1))) (wr τ 139 3 ((τ 139 3) + 1))) ∧ (¬ 60 < a0 → ∃ o6 : Nat, (τ 2 2) = (o6 : Int) ∧ KD o6 = some (.inr 2) ∧ (((τ o6 4) ≠ 0 → V0 E (d + 1) qX10_nights 37 [some (vR 2), some (vI a0), some (vI 0), some (vI 0)] [] τ Q) ∧ ((τ o6 4) = 0 → inR ((τ 139 3) + 1) ∧ Q (some (vI (-1))) (wr τ 139 3 ((τ 139 3) + 1))))))))) : V0 E (d + 1) qX10_nights 0 [some (vR 2), some (vI a0), none, none] [] τ Q := by
  refine u_iload_n (i := 1) (pc' := 1) dX10_nights_0 rfl rfl rfl ?_
  refine u_iconst (pc' := 2) dX10_nights_1 rfl ?_
  obtain ⟨c1, h⟩ := h
  refine u_icmp_lt (tgt := 21) (pc' := 5) dX10_nights_2 rfl (by decide) c1 ⟨by decide, by decide⟩ (fun hb => ?_) (fun hb => ?_)
  · have h := h.1 hb
    refine u_aload_n (i := 0) (pc' := 22) dX10_nights_21 rfl rfl rfl ?_
    refine u_getR (a := 139) (pc' := 25) dX10_nights_22 rfl fl_TuneDoor_79 rfl (by decide) kd_2 rfl ?_
    refine u_iconst (pc' := 26) dX10_nights_25 rfl ?_
    refine u_dup2 (pc' := 27) dX10_nights_26 rfl (fun _ hh => by cases hh) (fun _ hh => by cases hh) ?_
    refine u_iaload (k := 3) (z := (τ 139 3)) (pc' := 28) dX10_nights_27 rfl (by decide) kd_139 (by decide) (by decide) (by decide) rfl rfl (fun r2 => ?_)
    refine u_iconst (pc' := 29) dX10_nights_28 rfl ?_
    refine u_iadd (pc' := 30) dX10_nights_29 rfl ?_
    obtain ⟨c3, h⟩ := h
    refine u_iastore (k := 3) (pc' := 31) dX10_nights_30 rfl (by decide) kd_139 (by decide) (by decide) (by decide) rfl c3 ?_
    refine u_iconst (pc' := 32) dX10_nights_31 rfl ?_
    exact u_iret dX10_nights_32 rfl h
  · have h := h.2 hb
    refine u_iload_n (i := 1) (pc' := 6) dX10_nights_5 rfl rfl rfl ?_
    refine u_bipush (pc' := 8) dX10_nights_6 rfl (by decide) ?_
    refine u_icmp_gt (tgt := 21) (pc' := 11) dX10_nights_8 rfl (by decide) c1 ⟨by decide, by decide⟩ (fun hb => ?_) (fun hb => ?_)
    · have h := h.1 hb
      refine u_aload_n (i := 0) (pc' := 22) dX10_nights_21 rfl rfl rfl ?_
      refine u_getR (a := 139) (pc' := 25) dX10_nights_22 rfl fl_TuneDoor_79 rfl (by decide) kd_2 rfl ?_
      refine u_iconst (pc' := 26) dX10_nights_25 rfl ?_
      refine u_dup2 (pc' := 27) dX10_nights_26 rfl (fun _ hh => by cases hh) (fun _ hh => by cases hh) ?_
      refine u_iaload (k := 3) (z := (τ 139 3)) (pc' := 28) dX10_nights_27 rfl (by decide) kd_139 (by decide) (by decide) (by decide) rfl rfl (fun r4 => ?_)
      refine u_iconst (pc' := 29) dX10_nights_28 rfl ?_
      refine u_iadd (pc' := 30) dX10_nights_29 rfl ?_
      obtain ⟨c5, h⟩ := h
      refine u_iastore (k := 3) (pc' := 31) dX10_nights_30 rfl (by decide) kd_139 (by decide) (by decide) (by decide) rfl c5 ?_
      refine u_iconst (pc' := 32) dX10_nights_31 rfl ?_
      exact u_iret dX10_nights_32 rfl h
    · have h := h.2 hb
      refine u_aload_n (i := 0) (pc' := 12) dX10_nights_11 rfl rfl rfl ?_
      obtain ⟨o6, z7, k8, h⟩ := h
      refine u_getD (a := o6) (pc' := 15) dX10_nights_12 rfl fl_TuneDoor_16 rfl (by decide) kd_2 rfl (z7) ?_
      refine u_getI (z := (τ o6 4)) (pc' := 18) dX10_nights_15 rfl fl_TuneDoor_128 rfl (by decide) (kHouse k8).1 k8 rfl (fun r9 => ?_)
      refine u_if_ne (tgt := 33) (pc' := 21) dX10_nights_18 rfl (by decide) r9 (fun hb => ?_) (fun hb => ?_)
      · have h := h.1 hb
        refine u_iconst (pc' := 34) dX10_nights_33 rfl ?_
        refine s_istore_n (i := 2) (ls' := [some (vR 2), some (vI a0), some (vI 0), none]) (pc' := 35) dX10_nights_34 rfl rfl (Nat.le_of_ble_eq_true rfl) rfl rfl ?_
        refine u_iconst (pc' := 36) dX10_nights_35 rfl ?_
        refine s_istore_n (i := 3) (ls' := [some (vR 2), some (vI a0), some (vI 0), some (vI 0)]) (pc' := 37) dX10_nights_36 rfl rfl (Nat.le_of_ble_eq_true rfl) rfl rfl ?_
        exact u_less (ls' := [some (vR 2), some (vI a0), some (vI 0), some (vI 0)]) ⟨rfl, ⟨rfl, ⟨rfl, ⟨rfl, trivial⟩⟩⟩⟩ h
      · have h := h.2 hb
        refine u_aload_n (i := 0) (pc' := 22) dX10_nights_21 rfl rfl rfl ?_
        refine u_getR (a := 139) (pc' := 25) dX10_nights_22 rfl fl_TuneDoor_79 rfl (by decide) kd_2 rfl ?_
        refine u_iconst (pc' := 26) dX10_nights_25 rfl ?_
        refine u_dup2 (pc' := 27) dX10_nights_26 rfl (fun _ hh => by cases hh) (fun _ hh => by cases hh) ?_
        refine u_iaload (k := 3) (z := (τ 139 3)) (pc' := 28) dX10_nights_27 rfl (by decide) kd_139 (by decide) (by decide) (by decide) rfl rfl (fun r10 => ?_)
        refine u_iconst (pc' := 29) dX10_nights_28 rfl ?_
        refine u_iadd (pc' := 30) dX10_nights_29 rfl ?_
        obtain ⟨c11, h⟩ := h
        refine u_iastore (k := 3) (pc' := 31) dX10_nights_30 rfl (by decide) kd_139 (by decide) (by decide) (by decide) rfl c11 ?_
        refine u_iconst (pc' := 32) dX10_nights_31 rfl ?_
        exact u_iret dX10_nights_32 rfl h
theorem mX10_nights {E : mm_Env} {d : Nat} {τ : mm_Mem} {Q : mm_Q0} {a0 : Int} (h : inR a0 ∧ ((a0 < 1 → inR ((τ 139 3) + 1) ∧ Q (some (vI (-1))) (wr τ 139 3 ((τ 139 3) + 1))) ∧ (¬ a0 < 1 → ((60 < a0 → inR ((τ 139 3) + 1) ∧ Q (some (vI (-1))) (wr τ 139 3 ((τ 139 3) + 1))) ∧ (¬ 60 < a0 → ∃ o6 : Nat, (τ 2 2) = (o6 : Int) ∧ KD o6 = some (.inr 2) ∧ (((τ o6 4) ≠ 0 → V0 E (d + 1) qX10_nights 37 [some (vR 2), some (vI a0), some (vI 0), some (vI 0)] [] τ Q) ∧ ((τ o6 4) = 0 → inR ((τ 139 3) + 1) ∧ Q (some (vI (-1))) (wr τ 139 3 ((τ 139 3) + 1))))))))) : M0 E (d + 1) qX10_nights [vR 2, vI a0] τ Q := M0_of rfl (Nat.le_of_ble_eq_true rfl) [some (vR 2), some (vI a0), none, none] rfl (bX10_nights_0  h)
set_option maxRecDepth 20000 in
theorem bX10_nights_37 {E : mm_Env} {d : Nat} {τ : mm_Mem} {Q : mm_Q0} {x1 : Int} {x2 : Int} {x3 : Int} (h : inR x3 ∧ inR x1 ∧ ((x1 ≤ x3 → Q (some (vI x2)) τ) ∧ (¬ x1 ≤ x3 → M0 E d qX10_night [vR 2] τ (fun v τ3 => ∃ b4 : Bool, v = some (vB b4) ∧ ((b4 = false → V0 E (d + 1) qX10_nights 37 [some (vR 2), some (vI x1), some (vI x2), some (vI (x3 + 1))] [] τ3 Q) ∧ (b4 = true → V0 E (d + 1) qX10_nights 37 [some (vR 2), some (vI x1), some (vI (x2 + 1)), some (vI (x3 + 1))] [] τ3 Q)))))) : V0 E (d + 1) qX10_nights 37 [some (vR 2), some (vI x1), some (vI x2), some (vI x3)] [] τ Q := by
  refine u_iload_n (i := 3) (pc' := 38) dX10_nights_37 rfl rfl rfl ?_
  refine u_iload_n (i := 1) (pc' := 39) dX10_nights_38 rfl rfl rfl ?_
  obtain ⟨c1, c2, h⟩ := h
  refine u_icmp_ge (tgt := 58) (pc' := 42) dX10_nights_39 rfl (by decide) c1 c2 (fun hb => ?_) (fun hb => ?_)
  · have h := h.1 hb
    refine u_iload_n (i := 2) (pc' := 59) dX10_nights_58 rfl rfl rfl ?_
    exact u_iret dX10_nights_59 rfl h
  · have h := h.2 hb
    refine u_aload_n (i := 0) (pc' := 43) dX10_nights_42 rfl rfl rfl ?_
    refine u_invV (q' := qX10_night) (As := []) (st := []) (pc' := 46) dX10_nights_43 rfl gX10_night wm_1150 rfl rfl (by decide) kd_2 wm_1152 wp_62 rfl (Nat.le_of_ble_eq_true rfl) (M0.mono h (fun v τ3 h => ?_))
    obtain ⟨b4, rfl, h⟩ := h
    show V0 E (d + 1) qX10_nights 46 [some (vR 2), some (vI x1), some (vI x2), some (vI x3)] [vB b4] τ3 Q
    refine u_if_eq (tgt := 52) (pc' := 49) dX10_nights_46 rfl (by decide) (bI_R _) (fun hb => ?_) (fun hb => ?_)
    · have h := h.1 (bI_0.mp hb)
      refine s_iinc (i := 3) (ls' := [some (vR 2), some (vI x1), some (vI x2), some (vI (x3 + 1))]) (pc' := 55) dX10_nights_52 rfl rfl (Nat.le_of_ble_eq_true rfl) rfl rfl ?_
      refine u_goto (tgt := 37) dX10_nights_55 (by decide) ?_
      exact u_less (ls' := [some (vR 2), some (vI x1), some (vI x2), some (vI (x3 + 1))]) ⟨rfl, ⟨rfl, ⟨rfl, ⟨rfl, trivial⟩⟩⟩⟩ h
    · have h := h.2 (bI_n0.mp hb)
      refine s_iinc (i := 2) (ls' := [some (vR 2), some (vI x1), some (vI (x2 + 1)), some (vI x3)]) (pc' := 52) dX10_nights_49 rfl rfl (Nat.le_of_ble_eq_true rfl) rfl rfl ?_
      refine s_iinc (i := 3) (ls' := [some (vR 2), some (vI x1), some (vI (x2 + 1)), some (vI (x3 + 1))]) (pc' := 55) dX10_nights_52 rfl rfl (Nat.le_of_ble_eq_true rfl) rfl rfl ?_
      refine u_goto (tgt := 37) dX10_nights_55 (by decide) ?_
      exact u_less (ls' := [some (vR 2), some (vI x1), some (vI (x2 + 1)), some (vI (x3 + 1))]) ⟨rfl, ⟨rfl, ⟨rfl, ⟨rfl, trivial⟩⟩⟩⟩ h
set_option maxRecDepth 20000 in
theorem bX10_night_0 {E : mm_Env} {d : Nat} {τ : mm_Mem} {Q : mm_Q0}  (h : ∃ o1 : Nat, (τ 2 2) = (o1 : Int) ∧ KD o1 = some (.inr 2) ∧ M0 E d qX10_draw [vR 2, vI (τ o1 4)] τ (fun v τ5 => ∃ r6 : Int, v = some (vI r6) ∧ M0 E d qX10_personAt [vR 2, vI r6] τ5 (fun v τ7 => ∃ o8 : Nat, v = some (vR o8) ∧ ((¬ o8 = 0 → M0 E d qX10_draw [vR 2, vI 100] τ7 (fun v τ9 => ∃ r10 : Int, v = some (vI r10) ∧ KD o8 = some (.inr 3) ∧ inR r10 ∧ (((τ9 o8 3) ≤ r10 → V0 E (d + 1) qX10_night 40 [some (vR 2), some (vR o8), none, none, none, none, none, none] [vI 0] τ9 Q) ∧ (¬ (τ9 o8 3) ≤ r10 → V0 E (d + 1) qX10_night 40 [some (vR 2), some (vR o8), none, none, none, none, none, none] [vI 1] τ9 Q)))) ∧ (o8 = 0 → Q (some (vB false)) τ7))))) : V0 E (d + 1) qX10_night 0 [some (vR 2), none, none, none, none, none, none, none] [] τ Q := by
  refine u_aload_n (i := 0) (pc' := 1) dX10_night_0 rfl rfl rfl ?_
  refine u_aload_n (i := 0) (pc' := 2) dX10_night_1 rfl rfl rfl ?_
  refine u_aload_n (i := 0) (pc' := 3) dX10_night_2 rfl rfl rfl ?_
  obtain ⟨o1, z2, k3, h⟩ := h
  refine u_getD (a := o1) (pc' := 6) dX10_night_3 rfl fl_TuneDoor_16 rfl (by decide) kd_2 rfl (z2) ?_
  refine u_getI (z := (τ o1 4)) (pc' := 9) dX10_night_6 rfl fl_TuneDoor_128 rfl (by decide) (kHouse k3).1 k3 rfl (fun r4 => ?_)
  refine u_invV (q' := qX10_draw) (As := [vI (τ o1 4)]) (st := [vR 2]) (pc' := 12) dX10_night_9 rfl gX10_draw wm_1154 rfl rfl (by decide) kd_2 wm_1156 wp_63 rfl (Nat.le_of_ble_eq_true rfl) (M0.mono h (fun v τ5 h => ?_))
  obtain ⟨r6, rfl, h⟩ := h
  show V0 E (d + 1) qX10_night 12 [some (vR 2), none, none, none, none, none, none, none] [vI r6, vR 2] τ5 Q
  refine u_invV (q' := qX10_personAt) (As := [vI r6]) (st := []) (pc' := 15) dX10_night_12 rfl gX10_personAt wm_837 rfl rfl (by decide) kd_2 wm_839 wp_44 rfl (Nat.le_of_ble_eq_true rfl) (M0.mono h (fun v τ7 h => ?_))
  obtain ⟨o8, rfl, h⟩ := h
  show V0 E (d + 1) qX10_night 15 [some (vR 2), none, none, none, none, none, none, none] [vR o8] τ7 Q
  refine s_astore_n (i := 1) (ls' := [some (vR 2), some (vR o8), none, none, none, none, none, none]) (pc' := 16) dX10_night_15 rfl rfl (Nat.le_of_ble_eq_true rfl) rfl rfl ?_
  refine u_aload_n (i := 1) (pc' := 17) dX10_night_16 rfl rfl rfl ?_
  refine u_ifnonnull (tgt := 22) (pc' := 20) dX10_night_17 rfl (by decide) (fun hb => ?_) (fun hb => ?_)
  · have h := h.1 hb
    refine u_aload_n (i := 0) (pc' := 23) dX10_night_22 rfl rfl rfl ?_
    refine u_bipush (pc' := 25) dX10_night_23 rfl (by decide) ?_
    refine u_invV (q' := qX10_draw) (As := [vI 100]) (st := []) (pc' := 28) dX10_night_25 rfl gX10_draw wm_1154 rfl rfl (by decide) kd_2 wm_1156 wp_63 rfl (Nat.le_of_ble_eq_true rfl) (M0.mono h (fun v τ9 h => ?_))
    obtain ⟨r10, rfl, h⟩ := h
    show V0 E (d + 1) qX10_night 28 [some (vR 2), some (vR o8), none, none, none, none, none, none] [vI r10] τ9 Q
    refine u_aload_n (i := 1) (pc' := 29) dX10_night_28 rfl rfl rfl ?_
    obtain ⟨k11, h⟩ := h
    refine u_getI (z := (τ9 o8 3)) (pc' := 32) dX10_night_29 rfl fl_TuneDoor_199 rfl (by decide) (kPerson k11) k11 rfl (fun r12 => ?_)
    obtain ⟨c13, h⟩ := h
    refine u_icmp_ge (tgt := 39) (pc' := 35) dX10_night_32 rfl (by decide) c13 r12 (fun hb => ?_) (fun hb => ?_)
    · have h := h.1 hb
      refine u_iconst (pc' := 40) dX10_night_39 rfl ?_
      exact u_less (ls' := [some (vR 2), some (vR o8), none, none, none, none, none, none]) ⟨rfl, ⟨rfl, trivial⟩⟩ h
    · have h := h.2 hb
      refine u_iconst (pc' := 36) dX10_night_35 rfl ?_
      refine u_goto (tgt := 40) dX10_night_36 (by decide) ?_
      exact u_less (ls' := [some (vR 2), some (vR o8), none, none, none, none, none, none]) ⟨rfl, ⟨rfl, trivial⟩⟩ h
  · have h := h.2 hb
    refine u_iconst (pc' := 21) dX10_night_20 rfl ?_
    exact u_zret (b := false) dX10_night_21 rfl rfl h
theorem mX10_night {E : mm_Env} {d : Nat} {τ : mm_Mem} {Q : mm_Q0}  (h : ∃ o1 : Nat, (τ 2 2) = (o1 : Int) ∧ KD o1 = some (.inr 2) ∧ M0 E d qX10_draw [vR 2, vI (τ o1 4)] τ (fun v τ5 => ∃ r6 : Int, v = some (vI r6) ∧ M0 E d qX10_personAt [vR 2, vI r6] τ5 (fun v τ7 => ∃ o8 : Nat, v = some (vR o8) ∧ ((¬ o8 = 0 → M0 E d qX10_draw [vR 2, vI 100] τ7 (fun v τ9 => ∃ r10 : Int, v = some (vI r10) ∧ KD o8 = some (.inr 3) ∧ inR r10 ∧ (((τ9 o8 3) ≤ r10 → V0 E (d + 1) qX10_night 40 [some (vR 2), some (vR o8), none, none, none, none, none, none] [vI 0] τ9 Q) ∧ (¬ (τ9 o8 3) ≤ r10 → V0 E (d + 1) qX10_night 40 [some (vR 2), some (vR o8), none, none, none, none, none, none] [vI 1] τ9 Q)))) ∧ (o8 = 0 → Q (some (vB false)) τ7))))) : M0 E (d + 1) qX10_night [vR 2] τ Q := M0_of rfl (Nat.le_of_ble_eq_true rfl) [some (vR 2), none, none, none, none, none, none, none] rfl (bX10_night_0  h)
set_option maxRecDepth 20000 in
theorem bX10_night_40 {E : mm_Env} {d : Nat} {τ : mm_Mem} {Q : mm_Q0} {x1 : Nat} {y0 : Int} (h : M0 E d qX10_draw [vR 2, vI 100] τ (fun v τ1 => ∃ r2 : Int, v = some (vI r2) ∧ KD x1 = some (.inr 3) ∧ inR r2 ∧ (((τ1 x1 4) ≤ r2 → V0 E (d + 1) qX10_night 79 [some (vR 2), some (vR x1), some (vI y0), some (vI 0), none, none, none, none] [vI 0] τ1 Q) ∧ (¬ (τ1 x1 4) ≤ r2 → ∃ o6 : Nat, (τ1 2 2) = (o6 : Int) ∧ KD o6 = some (.inr 2) ∧ M0 E d qX10_draw [vR 2, vI (τ1 o6 1)] τ1 (fun v τ10 => ∃ r11 : Int, v = some (vI r11) ∧ V0 E (d + 1) qX10_night 79 [some (vR 2), some (vR x1), some (vI y0), some (vI 1), none, none, none, none] [vI r11] τ10 Q))))) : V0 E (d + 1) qX10_night 40 [some (vR 2), some (vR x1), none, none, none, none, none, none] [vI y0] τ Q := by
  refine s_istore_n (i := 2) (ls' := [some (vR 2), some (vR x1), some (vI y0), none, none, none, none, none]) (pc' := 41) dX10_night_40 rfl rfl (Nat.le_of_ble_eq_true rfl) rfl rfl ?_
  refine u_aload_n (i := 0) (pc' := 42) dX10_night_41 rfl rfl rfl ?_
  refine u_bipush (pc' := 44) dX10_night_42 rfl (by decide) ?_
  refine u_invV (q' := qX10_draw) (As := [vI 100]) (st := []) (pc' := 47) dX10_night_44 rfl gX10_draw wm_1154 rfl rfl (by decide) kd_2 wm_1156 wp_63 rfl (Nat.le_of_ble_eq_true rfl) (M0.mono h (fun v τ1 h => ?_))
  obtain ⟨r2, rfl, h⟩ := h
  show V0 E (d + 1) qX10_night 47 [some (vR 2), some (vR x1), some (vI y0), none, none, none, none, none] [vI r2] τ1 Q
  refine u_aload_n (i := 1) (pc' := 48) dX10_night_47 rfl rfl rfl ?_
  obtain ⟨k3, h⟩ := h
  refine u_getI (z := (τ1 x1 4)) (pc' := 51) dX10_night_48 rfl fl_TuneDoor_202 rfl (by decide) (kPerson k3) k3 rfl (fun r4 => ?_)
  obtain ⟨c5, h⟩ := h
  refine u_icmp_ge (tgt := 58) (pc' := 54) dX10_night_51 rfl (by decide) c5 r4 (fun hb => ?_) (fun hb => ?_)
  · have h := h.1 hb
    refine u_iconst (pc' := 59) dX10_night_58 rfl ?_
    refine s_istore_n (i := 3) (ls' := [some (vR 2), some (vR x1), some (vI y0), some (vI 0), none, none, none, none]) (pc' := 60) dX10_night_59 rfl rfl (Nat.le_of_ble_eq_true rfl) rfl rfl ?_
    refine u_iload_n (i := 3) (pc' := 61) dX10_night_60 rfl rfl rfl ?_
    refine u_if_eq (tgt := 78) (pc' := 64) dX10_night_61 rfl (by decide) ⟨by decide, by decide⟩ (fun _ => ?_) (fun hb => absurd hb (by decide))
    refine u_iconst (pc' := 79) dX10_night_78 rfl ?_
    exact u_less (ls' := [some (vR 2), some (vR x1), some (vI y0), some (vI 0), none, none, none, none]) ⟨rfl, ⟨rfl, ⟨rfl, ⟨rfl, trivial⟩⟩⟩⟩ h
  · have h := h.2 hb
    refine u_iconst (pc' := 55) dX10_night_54 rfl ?_
    refine u_goto (tgt := 59) dX10_night_55 (by decide) ?_
    refine s_istore_n (i := 3) (ls' := [some (vR 2), some (vR x1), some (vI y0), some (vI 1), none, none, none, none]) (pc' := 60) dX10_night_59 rfl rfl (Nat.le_of_ble_eq_true rfl) rfl rfl ?_
    refine u_iload_n (i := 3) (pc' := 61) dX10_night_60 rfl rfl rfl ?_
    refine u_if_eq (tgt := 78) (pc' := 64) dX10_night_61 rfl (by decide) ⟨by decide, by decide⟩ (fun hb => absurd hb (by decide)) (fun _ => ?_)
    refine u_aload_n (i := 0) (pc' := 65) dX10_night_64 rfl rfl rfl ?_
    refine u_aload_n (i := 0) (pc' := 66) dX10_night_65 rfl rfl rfl ?_
    obtain ⟨o6, z7, k8, h⟩ := h
    refine u_getD (a := o6) (pc' := 69) dX10_night_66 rfl fl_TuneDoor_16 rfl (by decide) kd_2 rfl (z7) ?_
    refine u_getI (z := (τ1 o6 1)) (pc' := 72) dX10_night_69 rfl fl_TuneDoor_119 rfl (by decide) (kHouse k8).1 k8 rfl (fun r9 => ?_)
    refine u_invV (q' := qX10_draw) (As := [vI (τ1 o6 1)]) (st := []) (pc' := 75) dX10_night_72 rfl gX10_draw wm_1154 rfl rfl (by decide) kd_2 wm_1156 wp_63 rfl (Nat.le_of_ble_eq_true rfl) (M0.mono h (fun v τ10 h => ?_))
    obtain ⟨r11, rfl, h⟩ := h
    show V0 E (d + 1) qX10_night 75 [some (vR 2), some (vR x1), some (vI y0), some (vI 1), none, none, none, none] [vI r11] τ10 Q
    refine u_goto (tgt := 79) dX10_night_75 (by decide) ?_
    exact u_less (ls' := [some (vR 2), some (vR x1), some (vI y0), some (vI 1), none, none, none, none]) ⟨rfl, ⟨rfl, ⟨rfl, ⟨rfl, trivial⟩⟩⟩⟩ h
set_option maxRecDepth 20000 in
theorem bX10_night_79 {E : mm_Env} {d : Nat} {τ : mm_Mem} {Q : mm_Q0} {x1 : Nat} {x2 : Int} {x3 : Int} {y0 : Int} (h : inR x3 ∧ ((x3 = 0 → inR x2 ∧ ((x2 = 0 → V0 E (d + 1) qX10_night 130 [some (vR 2), some (vR x1), none, none, some (vI y0), some (vI 0), none, none] [] τ Q) ∧ (¬ x2 = 0 → KD x1 = some (.inr 3) ∧ ((1000 ≤ (τ x1 5) → V0 E (d + 1) qX10_night 130 [some (vR 2), some (vR x1), none, none, some (vI y0), some (vI 0), none, none] [] τ Q) ∧ (¬ 1000 ≤ (τ x1 5) → inR ((τ x1 5) + 1) ∧ V0 E (d + 1) qX10_night 130 [some (vR 2), some (vR x1), none, none, some (vI y0), some (vI 0), none, none] [] (wr τ x1 5 ((τ x1 5) + 1)) Q))))) ∧ (¬ x3 = 0 → ∃ o7 : Nat, (τ 2 2) = (o7 : Int) ∧ KD o7 = some (.inr 2) ∧ M0 E d qX10_draw [vR 2, vI ((τ o7 0) - 1)] τ (fun v τ11 => ∃ r12 : Int, v = some (vI r12) ∧ inR x2 ∧ ((x2 = 0 → V0 E (d + 1) qX10_night 130 [some (vR 2), some (vR x1), none, none, some (vI y0), some (vI (r12 + 1)), none, none] [] τ11 Q) ∧ (¬ x2 = 0 → KD x1 = some (.inr 3) ∧ ((1000 ≤ (τ11 x1 5) → V0 E (d + 1) qX10_night 130 [some (vR 2), some (vR x1), none, none, some (vI y0), some (vI (r12 + 1)), none, none] [] τ11 Q) ∧ (¬ 1000 ≤ (τ11 x1 5) → inR ((τ11 x1 5) + 1) ∧ V0 E (d + 1) qX10_night 130 [some (vR 2), some (vR x1), none, none, some (vI y0), some (vI (r12 + 1)), none, none] [] (wr τ11 x1 5 ((τ11 x1 5) + 1)) Q)))))))) : V0 E (d + 1) qX10_night 79 [some (vR 2), some (vR x1), some (vI x2), some (vI x3), none, none, none, none] [vI y0] τ Q := by
  refine s_istore (i := 4) (ls' := [some (vR 2), some (vR x1), some (vI x2), some (vI x3), some (vI y0), none, none, none]) (pc' := 81) dX10_night_79 rfl (Nat.le_of_ble_eq_true rfl) rfl rfl ?_
  refine u_iload_n (i := 3) (pc' := 82) dX10_night_81 rfl rfl rfl ?_
  obtain ⟨c1, h⟩ := h
  refine u_if_eq (tgt := 103) (pc' := 85) dX10_night_82 rfl (by decide) c1 (fun hb => ?_) (fun hb => ?_)
  · have h := h.1 hb
    refine u_iconst (pc' := 104) dX10_night_103 rfl ?_
    refine s_istore (i := 5) (ls' := [some (vR 2), some (vR x1), some (vI x2), some (vI x3), some (vI y0), some (vI 0), none, none]) (pc' := 106) dX10_night_104 rfl (Nat.le_of_ble_eq_true rfl) rfl rfl ?_
    refine u_iload_n (i := 2) (pc' := 107) dX10_night_106 rfl rfl rfl ?_
    obtain ⟨c2, h⟩ := h
    refine u_if_eq (tgt := 130) (pc' := 110) dX10_night_107 rfl (by decide) c2 (fun hb => ?_) (fun hb => ?_)
    · have h := h.1 hb
      exact u_less (ls' := [some (vR 2), some (vR x1), none, none, some (vI y0), some (vI 0), none, none]) ⟨rfl, ⟨rfl, ⟨rfl, ⟨rfl, trivial⟩⟩⟩⟩ h
    · have h := h.2 hb
      refine u_aload_n (i := 1) (pc' := 111) dX10_night_110 rfl rfl rfl ?_
      obtain ⟨k3, h⟩ := h
      refine u_getI (z := (τ x1 5)) (pc' := 114) dX10_night_111 rfl fl_TuneDoor_196 rfl (by decide) (kPerson k3) k3 rfl (fun r4 => ?_)
      refine u_sipush (pc' := 117) dX10_night_114 rfl (by decide) ?_
      refine u_icmp_ge (tgt := 130) (pc' := 120) dX10_night_117 rfl (by decide) r4 ⟨by decide, by decide⟩ (fun hb => ?_) (fun hb => ?_)
      · have h := h.1 hb
        exact u_less (ls' := [some (vR 2), some (vR x1), none, none, some (vI y0), some (vI 0), none, none]) ⟨rfl, ⟨rfl, ⟨rfl, ⟨rfl, trivial⟩⟩⟩⟩ h
      · have h := h.2 hb
        refine u_aload_n (i := 1) (pc' := 121) dX10_night_120 rfl rfl rfl ?_
        refine u_dup (pc' := 122) dX10_night_121 rfl (fun _ hh => by cases hh) ?_
        refine u_getI (z := (τ x1 5)) (pc' := 125) dX10_night_122 rfl fl_TuneDoor_196 rfl (by decide) (kPerson k3) k3 rfl (fun r5 => ?_)
        refine u_iconst (pc' := 126) dX10_night_125 rfl ?_
        refine u_iadd (pc' := 127) dX10_night_126 rfl ?_
        obtain ⟨c6, h⟩ := h
        refine u_putI (pc' := 130) dX10_night_127 rfl fl_TuneDoor_196 rfl rfl (by decide) (kPerson k3) k3 c6 ?_
        exact u_less (ls' := [some (vR 2), some (vR x1), none, none, some (vI y0), some (vI 0), none, none]) ⟨rfl, ⟨rfl, ⟨rfl, ⟨rfl, trivial⟩⟩⟩⟩ h
  · have h := h.2 hb
    refine u_aload_n (i := 0) (pc' := 86) dX10_night_85 rfl rfl rfl ?_
    refine u_aload_n (i := 0) (pc' := 87) dX10_night_86 rfl rfl rfl ?_
    obtain ⟨o7, z8, k9, h⟩ := h
    refine u_getD (a := o7) (pc' := 90) dX10_night_87 rfl fl_TuneDoor_16 rfl (by decide) kd_2 rfl (z8) ?_
    refine u_getI (z := (τ o7 0)) (pc' := 93) dX10_night_90 rfl fl_TuneDoor_116 rfl (by decide) (kHouse k9).1 k9 rfl (fun r10 => ?_)
    refine u_iconst (pc' := 94) dX10_night_93 rfl ?_
    refine u_isub (pc' := 95) dX10_night_94 rfl ?_
    refine u_invV (q' := qX10_draw) (As := [vI ((τ o7 0) - 1)]) (st := []) (pc' := 98) dX10_night_95 rfl gX10_draw wm_1154 rfl rfl (by decide) kd_2 wm_1156 wp_63 rfl (Nat.le_of_ble_eq_true rfl) (M0.mono h (fun v τ11 h => ?_))
    obtain ⟨r12, rfl, h⟩ := h
    show V0 E (d + 1) qX10_night 98 [some (vR 2), some (vR x1), some (vI x2), some (vI x3), some (vI y0), none, none, none] [vI r12] τ11 Q
    refine u_iconst (pc' := 99) dX10_night_98 rfl ?_
    refine u_iadd (pc' := 100) dX10_night_99 rfl ?_
    refine u_goto (tgt := 104) dX10_night_100 (by decide) ?_
    refine s_istore (i := 5) (ls' := [some (vR 2), some (vR x1), some (vI x2), some (vI x3), some (vI y0), some (vI (r12 + 1)), none, none]) (pc' := 106) dX10_night_104 rfl (Nat.le_of_ble_eq_true rfl) rfl rfl ?_
    refine u_iload_n (i := 2) (pc' := 107) dX10_night_106 rfl rfl rfl ?_
    obtain ⟨c13, h⟩ := h
    refine u_if_eq (tgt := 130) (pc' := 110) dX10_night_107 rfl (by decide) c13 (fun hb => ?_) (fun hb => ?_)
    · have h := h.1 hb
      exact u_less (ls' := [some (vR 2), some (vR x1), none, none, some (vI y0), some (vI (r12 + 1)), none, none]) ⟨rfl, ⟨rfl, ⟨rfl, ⟨rfl, trivial⟩⟩⟩⟩ h
    · have h := h.2 hb
      refine u_aload_n (i := 1) (pc' := 111) dX10_night_110 rfl rfl rfl ?_
      obtain ⟨k14, h⟩ := h
      refine u_getI (z := (τ11 x1 5)) (pc' := 114) dX10_night_111 rfl fl_TuneDoor_196 rfl (by decide) (kPerson k14) k14 rfl (fun r15 => ?_)
      refine u_sipush (pc' := 117) dX10_night_114 rfl (by decide) ?_
      refine u_icmp_ge (tgt := 130) (pc' := 120) dX10_night_117 rfl (by decide) r15 ⟨by decide, by decide⟩ (fun hb => ?_) (fun hb => ?_)
      · have h := h.1 hb
        exact u_less (ls' := [some (vR 2), some (vR x1), none, none, some (vI y0), some (vI (r12 + 1)), none, none]) ⟨rfl, ⟨rfl, ⟨rfl, ⟨rfl, trivial⟩⟩⟩⟩ h
      · have h := h.2 hb
        refine u_aload_n (i := 1) (pc' := 121) dX10_night_120 rfl rfl rfl ?_
        refine u_dup (pc' := 122) dX10_night_121 rfl (fun _ hh => by cases hh) ?_
        refine u_getI (z := (τ11 x1 5)) (pc' := 125) dX10_night_122 rfl fl_TuneDoor_196 rfl (by decide) (kPerson k14) k14 rfl (fun r16 => ?_)
        refine u_iconst (pc' := 126) dX10_night_125 rfl ?_
        refine u_iadd (pc' := 127) dX10_night_126 rfl ?_
        obtain ⟨c17, h⟩ := h
        refine u_putI (pc' := 130) dX10_night_127 rfl fl_TuneDoor_196 rfl rfl (by decide) (kPerson k14) k14 c17 ?_
        exact u_less (ls' := [some (vR 2), some (vR x1), none, none, some (vI y0), some (vI (r12 + 1)), none, none]) ⟨rfl, ⟨rfl, ⟨rfl, ⟨rfl, trivial⟩⟩⟩⟩ h
set_option maxRecDepth 20000 in
theorem bX10_night_130 {E : mm_Env} {d : Nat} {τ : mm_Mem} {Q : mm_Q0} {x1 : Nat} {x4 : Int} {x5 : Int} (h : KD x1 = some (.inr 3) ∧ (((τ x1 5) < 1000 → M0 E d qX9_tuneAt [vR 78, vI (τ x1 2), vI (τ x1 5)] τ (fun v τ5 => ∃ r6 : Int, v = some (vI r6) ∧ M0 E d qX9_noteIn [vI r6, vI x4] τ5 (fun v τ7 => ∃ r8 : Int, v = some (vI r8) ∧ ∃ o9 : Nat, (τ7 2 2) = (o9 : Int) ∧ KD o9 = some (.inr 2) ∧ M0 E d qX10_modulo [vI (r8 + x5), vI (τ7 o9 0)] τ7 (fun v τ13 => ∃ r14 : Int, v = some (vI r14) ∧ M0 E d qX9_withNote [vI r6, vI x4, vI r14] τ13 (fun v τ15 => ∃ r16 : Int, v = some (vI r16) ∧ M0 E d qX10_whistleAtDoor [vR 2, vR x1, vI r16] τ15 (fun v τ17 => ∃ r18 : Int, v = some (vI r18) ∧ inR r18 ∧ ((r18 = (-1) → Q (some (vB false)) τ17) ∧ (¬ r18 = (-1) → Q (some (vB true)) τ17)))))))) ∧ (¬ (τ x1 5) < 1000 → Q (some (vB false)) τ))) : V0 E (d + 1) qX10_night 130 [some (vR 2), some (vR x1), none, none, some (vI x4), some (vI x5), none, none] [] τ Q := by
  refine u_aload_n (i := 1) (pc' := 131) dX10_night_130 rfl rfl rfl ?_
  obtain ⟨k1, h⟩ := h
  refine u_getI (z := (τ x1 5)) (pc' := 134) dX10_night_131 rfl fl_TuneDoor_196 rfl (by decide) (kPerson k1) k1 rfl (fun r2 => ?_)
  refine u_sipush (pc' := 137) dX10_night_134 rfl (by decide) ?_
  refine u_icmp_lt (tgt := 142) (pc' := 140) dX10_night_137 rfl (by decide) r2 ⟨by decide, by decide⟩ (fun hb => ?_) (fun hb => ?_)
  · have h := h.1 hb
    refine u_aload_n (i := 0) (pc' := 143) dX10_night_142 rfl rfl rfl ?_
    refine u_getR (a := 78) (pc' := 146) dX10_night_143 rfl fl_TuneDoor_42 rfl (by decide) kd_2 rfl ?_
    refine u_aload_n (i := 1) (pc' := 147) dX10_night_146 rfl rfl rfl ?_
    refine u_getI (z := (τ x1 2)) (pc' := 150) dX10_night_147 rfl fl_TuneDoor_193 rfl (by decide) (kPerson k1) k1 rfl (fun r3 => ?_)
    refine u_aload_n (i := 1) (pc' := 151) dX10_night_150 rfl rfl rfl ?_
    refine u_getI (z := (τ x1 5)) (pc' := 154) dX10_night_151 rfl fl_TuneDoor_196 rfl (by decide) (kPerson k1) k1 rfl (fun r4 => ?_)
    refine u_invV (q' := qX9_tuneAt) (As := [vI (τ x1 2), vI (τ x1 5)]) (st := []) (pc' := 157) dX10_night_154 rfl gX9_tuneAt wm_871 rfl rfl (by decide) kd_78 wm_872 wm_873 rfl (Nat.le_of_ble_eq_true rfl) (M0.mono h (fun v τ5 h => ?_))
    obtain ⟨r6, rfl, h⟩ := h
    show V0 E (d + 1) qX10_night 157 [some (vR 2), some (vR x1), none, none, some (vI x4), some (vI x5), none, none] [vI r6] τ5 Q
    refine s_istore (i := 6) (ls' := [some (vR 2), some (vR x1), none, none, some (vI x4), some (vI x5), some (vI r6), none]) (pc' := 159) dX10_night_157 rfl (Nat.le_of_ble_eq_true rfl) rfl rfl ?_
    refine u_iload (i := 6) (pc' := 161) dX10_night_159 rfl rfl ?_
    refine u_iload (i := 4) (pc' := 163) dX10_night_161 rfl rfl ?_
    refine u_invS (q' := qX9_noteIn) (As := [vI r6, vI x4]) (st := []) (pc' := 166) dX10_night_163 rfl gX9_noteIn wm_875 wm_744 rfl (Nat.le_of_ble_eq_true rfl) (M0.mono h (fun v τ7 h => ?_))
    obtain ⟨r8, rfl, h⟩ := h
    show V0 E (d + 1) qX10_night 166 [some (vR 2), some (vR x1), none, none, some (vI x4), some (vI x5), some (vI r6), none] [vI r8] τ7 Q
    refine u_iload (i := 5) (pc' := 168) dX10_night_166 rfl rfl ?_
    refine u_iadd (pc' := 169) dX10_night_168 rfl ?_
    refine u_aload_n (i := 0) (pc' := 170) dX10_night_169 rfl rfl rfl ?_
    obtain ⟨o9, z10, k11, h⟩ := h
    refine u_getD (a := o9) (pc' := 173) dX10_night_170 rfl fl_TuneDoor_16 rfl (by decide) kd_2 rfl (z10) ?_
    refine u_getI (z := (τ7 o9 0)) (pc' := 176) dX10_night_173 rfl fl_TuneDoor_116 rfl (by decide) (kHouse k11).1 k11 rfl (fun r12 => ?_)
    refine u_invS (q' := qX10_modulo) (As := [vI (r8 + x5), vI (τ7 o9 0)]) (st := []) (pc' := 179) dX10_night_176 rfl gX10_modulo wm_1162 wm_799 rfl (Nat.le_of_ble_eq_true rfl) (M0.mono h (fun v τ13 h => ?_))
    obtain ⟨r14, rfl, h⟩ := h
    show V0 E (d + 1) qX10_night 179 [some (vR 2), some (vR x1), none, none, some (vI x4), some (vI x5), some (vI r6), none] [vI r14] τ13 Q
    refine s_istore (i := 7) (ls' := [some (vR 2), some (vR x1), none, none, some (vI x4), some (vI x5), some (vI r6), some (vI r14)]) (pc' := 181) dX10_night_179 rfl (Nat.le_of_ble_eq_true rfl) rfl rfl ?_
    refine u_aload_n (i := 0) (pc' := 182) dX10_night_181 rfl rfl rfl ?_
    refine u_aload_n (i := 1) (pc' := 183) dX10_night_182 rfl rfl rfl ?_
    refine u_iload (i := 6) (pc' := 185) dX10_night_183 rfl rfl ?_
    refine u_iload (i := 4) (pc' := 187) dX10_night_185 rfl rfl ?_
    refine u_iload (i := 7) (pc' := 189) dX10_night_187 rfl rfl ?_
    refine u_invS (q' := qX9_withNote) (As := [vI r6, vI x4, vI r14]) (st := [vR x1, vR 2]) (pc' := 192) dX10_night_189 rfl gX9_withNote wm_944 wm_630 rfl (Nat.le_of_ble_eq_true rfl) (M0.mono h (fun v τ15 h => ?_))
    obtain ⟨r16, rfl, h⟩ := h
    show V0 E (d + 1) qX10_night 192 [some (vR 2), some (vR x1), none, none, some (vI x4), some (vI x5), some (vI r6), some (vI r14)] [vI r16, vR x1, vR 2] τ15 Q
    refine u_invV (q' := qX10_whistleAtDoor) (As := [vR x1, vI r16]) (st := []) (pc' := 195) dX10_night_192 rfl gX10_whistleAtDoor wm_904 rfl rfl (by decide) kd_2 wm_906 wp_46 rfl (Nat.le_of_ble_eq_true rfl) (M0.mono h (fun v τ17 h => ?_))
    obtain ⟨r18, rfl, h⟩ := h
    show V0 E (d + 1) qX10_night 195 [some (vR 2), some (vR x1), none, none, some (vI x4), some (vI x5), some (vI r6), some (vI r14)] [vI r18] τ17 Q
    refine u_iconst (pc' := 196) dX10_night_195 rfl ?_
    obtain ⟨c19, h⟩ := h
    refine u_icmp_eq (tgt := 203) (pc' := 199) dX10_night_196 rfl (by decide) c19 ⟨by decide, by decide⟩ (fun hb => ?_) (fun hb => ?_)
    · have h := h.1 hb
      refine u_iconst (pc' := 204) dX10_night_203 rfl ?_
      exact u_zret (b := false) dX10_night_204 rfl rfl h
    · have h := h.2 hb
      refine u_iconst (pc' := 200) dX10_night_199 rfl ?_
      refine u_goto (tgt := 204) dX10_night_200 (by decide) ?_
      exact u_zret (b := true) dX10_night_204 rfl rfl h
  · have h := h.2 hb
    refine u_iconst (pc' := 141) dX10_night_140 rfl ?_
    exact u_zret (b := false) dX10_night_141 rfl rfl h
set_option maxRecDepth 20000 in
theorem bX10_draw_0 {E : mm_Env} {d : Nat} {τ : mm_Mem} {Q : mm_Q0} {a0 : Int} (h : inR a0 ∧ ((1 ≤ a0 → inL (mm_land ((1103515245 * (τ 2 14)) + 12345) 2147483647) ∧ inL (Int.tdiv (mm_land ((1103515245 * (τ 2 14)) + 12345) 2147483647) 64) ∧ a0 ≠ 0 ∧ inL (Int.tmod (Int.tdiv (mm_land ((1103515245 * (τ 2 14)) + 12345) 2147483647) 64) a0) ∧ Q (some (vI (Int.tmod (Int.tdiv (mm_land ((1103515245 * (τ 2 14)) + 12345) 2147483647) 64) a0))) (wr τ 2 14 (mm_land ((1103515245 * (τ 2 14)) + 12345) 2147483647))) ∧ (¬ 1 ≤ a0 → Q (some (vI 0)) (wr τ 2 14 (mm_land ((1103515245 * (τ 2 14)) + 12345) 2147483647))))) : V0 E d qX10_draw 0 [some (vR 2), some (vI a0)] [] τ Q := by
  refine u_aload_n (i := 0) (pc' := 1) dX10_draw_0 rfl rfl rfl ?_
  refine u_ldc2 (z := 1103515245) (pc' := 4) dX10_draw_1 rfl wm_1158 (by decide) ?_
  refine u_aload_n (i := 0) (pc' := 5) dX10_draw_4 rfl rfl rfl ?_
  refine u_getL (z := (τ 2 14)) (pc' := 8) dX10_draw_5 rfl fl_TuneDoor_82 rfl rfl (by decide) kd_2 rfl ?_
  refine u_lmul (pc' := 9) dX10_draw_8 rfl ?_
  refine u_ldc2 (z := 12345) (pc' := 12) dX10_draw_9 rfl wm_1159 (by decide) ?_
  refine u_ladd (pc' := 13) dX10_draw_12 rfl ?_
  refine u_ldc2 (z := 2147483647) (pc' := 16) dX10_draw_13 rfl wm_1160 (by decide) ?_
  refine u_land (pc' := 17) dX10_draw_16 rfl ?_
  refine u_putL (pc' := 20) dX10_draw_17 rfl fl_TuneDoor_82 rfl rfl rfl (by decide) kd_2 ?_
  refine u_iload_n (i := 1) (pc' := 21) dX10_draw_20 rfl rfl rfl ?_
  refine u_iconst (pc' := 22) dX10_draw_21 rfl ?_
  obtain ⟨c1, h⟩ := h
  refine u_icmp_ge (tgt := 29) (pc' := 25) dX10_draw_22 rfl (by decide) c1 ⟨by decide, by decide⟩ (fun hb => ?_) (fun hb => ?_)
  · have h := h.1 hb
    refine u_aload_n (i := 0) (pc' := 30) dX10_draw_29 rfl rfl rfl ?_
    refine u_getL (z := (mm_land ((1103515245 * (τ 2 14)) + 12345) 2147483647)) (pc' := 33) dX10_draw_30 rfl fl_TuneDoor_82 rfl rfl (by decide) kd_2 rfl ?_
    refine u_ldc2 (z := 64) (pc' := 36) dX10_draw_33 rfl wm_1161 (by decide) ?_
    obtain ⟨c2, h⟩ := h
    refine u_ldiv (pc' := 37) dX10_draw_36 rfl c2 ⟨by decide, by decide⟩ (by decide) ?_
    refine u_iload_n (i := 1) (pc' := 38) dX10_draw_37 rfl rfl rfl ?_
    refine u_i2l (pc' := 39) dX10_draw_38 rfl c1 ?_
    obtain ⟨c3, c4, h⟩ := h
    refine u_lrem (pc' := 40) dX10_draw_39 rfl c3 (inL_R c1) c4 ?_
    obtain ⟨c5, h⟩ := h
    refine u_l2i (pc' := 41) dX10_draw_40 rfl c5 ?_
    exact u_iret dX10_draw_41 rfl h
  · have h := h.2 hb
    refine u_iconst (pc' := 26) dX10_draw_25 rfl ?_
    refine u_goto (tgt := 41) dX10_draw_26 (by decide) ?_
    exact u_iret dX10_draw_41 rfl h
theorem mX10_draw {E : mm_Env} {d : Nat} {τ : mm_Mem} {Q : mm_Q0} {a0 : Int} (h : inR a0 ∧ ((1 ≤ a0 → inL (mm_land ((1103515245 * (τ 2 14)) + 12345) 2147483647) ∧ inL (Int.tdiv (mm_land ((1103515245 * (τ 2 14)) + 12345) 2147483647) 64) ∧ a0 ≠ 0 ∧ inL (Int.tmod (Int.tdiv (mm_land ((1103515245 * (τ 2 14)) + 12345) 2147483647) 64) a0) ∧ Q (some (vI (Int.tmod (Int.tdiv (mm_land ((1103515245 * (τ 2 14)) + 12345) 2147483647) 64) a0))) (wr τ 2 14 (mm_land ((1103515245 * (τ 2 14)) + 12345) 2147483647))) ∧ (¬ 1 ≤ a0 → Q (some (vI 0)) (wr τ 2 14 (mm_land ((1103515245 * (τ 2 14)) + 12345) 2147483647))))) : M0 E d qX10_draw [vR 2, vI a0] τ Q := M0_of rfl (Nat.le_of_ble_eq_true rfl) [some (vR 2), some (vI a0)] rfl (bX10_draw_0  h)
set_option maxRecDepth 20000 in
theorem bX10_seed_0 {E : mm_Env} {d : Nat} {τ : mm_Mem} {Q : mm_Q0} {a0 : Int} (h : inR a0 ∧ ((0 ≤ a0 → Q (some (vB true)) (wr τ 2 14 a0)) ∧ (¬ 0 ≤ a0 → inR ((τ 139 4) + 1) ∧ Q (some (vB false)) (wr τ 139 4 ((τ 139 4) + 1))))) : V0 E d qX10_seed 0 [some (vR 2), some (vI a0)] [] τ Q := by
  refine u_iload_n (i := 1) (pc' := 1) dX10_seed_0 rfl rfl rfl ?_
  obtain ⟨c1, h⟩ := h
  refine u_if_ge (tgt := 16) (pc' := 4) dX10_seed_1 rfl (by decide) c1 (fun hb => ?_) (fun hb => ?_)
  · have h := h.1 hb
    refine u_aload_n (i := 0) (pc' := 17) dX10_seed_16 rfl rfl rfl ?_
    refine u_iload_n (i := 1) (pc' := 18) dX10_seed_17 rfl rfl rfl ?_
    refine u_i2l (pc' := 19) dX10_seed_18 rfl c1 ?_
    refine u_putL (pc' := 22) dX10_seed_19 rfl fl_TuneDoor_82 rfl rfl rfl (by decide) kd_2 ?_
    refine u_iconst (pc' := 23) dX10_seed_22 rfl ?_
    exact u_zret (b := true) dX10_seed_23 rfl rfl h
  · have h := h.2 hb
    refine u_aload_n (i := 0) (pc' := 5) dX10_seed_4 rfl rfl rfl ?_
    refine u_getR (a := 139) (pc' := 8) dX10_seed_5 rfl fl_TuneDoor_79 rfl (by decide) kd_2 rfl ?_
    refine u_iconst (pc' := 9) dX10_seed_8 rfl ?_
    refine u_dup2 (pc' := 10) dX10_seed_9 rfl (fun _ hh => by cases hh) (fun _ hh => by cases hh) ?_
    refine u_iaload (k := 4) (z := (τ 139 4)) (pc' := 11) dX10_seed_10 rfl (by decide) kd_139 (by decide) (by decide) (by decide) rfl rfl (fun r2 => ?_)
    refine u_iconst (pc' := 12) dX10_seed_11 rfl ?_
    refine u_iadd (pc' := 13) dX10_seed_12 rfl ?_
    obtain ⟨c3, h⟩ := h
    refine u_iastore (k := 4) (pc' := 14) dX10_seed_13 rfl (by decide) kd_139 (by decide) (by decide) (by decide) rfl c3 ?_
    refine u_iconst (pc' := 15) dX10_seed_14 rfl ?_
    exact u_zret (b := false) dX10_seed_15 rfl rfl h
theorem mX10_seed {E : mm_Env} {d : Nat} {τ : mm_Mem} {Q : mm_Q0} {a0 : Int} (h : inR a0 ∧ ((0 ≤ a0 → Q (some (vB true)) (wr τ 2 14 a0)) ∧ (¬ 0 ≤ a0 → inR ((τ 139 4) + 1) ∧ Q (some (vB false)) (wr τ 139 4 ((τ 139 4) + 1))))) : M0 E d qX10_seed [vR 2, vI a0] τ Q := M0_of rfl (Nat.le_of_ble_eq_true rfl) [some (vR 2), some (vI a0)] rfl (bX10_seed_0  h)
set_option maxRecDepth 20000 in
theorem bX10_image_0 {E : mm_Env} {d : Nat} {τ : mm_Mem} {Q : mm_Q0}  (h : V0 E (d + 1) qX10_image 7 [some (vR 2), some (vI 0), none, none] [] (wr τ 2 12 0) Q) : V0 E (d + 1) qX10_image 0 [some (vR 2), none, none, none] [] τ Q := by
  refine u_aload_n (i := 0) (pc' := 1) dX10_image_0 rfl rfl rfl ?_
  refine u_iconst (pc' := 2) dX10_image_1 rfl ?_
  refine u_putI (pc' := 5) dX10_image_2 rfl fl_TuneDoor_359 rfl rfl (by decide) (by decide) kd_2 ⟨by decide, by decide⟩ ?_
  refine u_iconst (pc' := 6) dX10_image_5 rfl ?_
  refine s_istore_n (i := 1) (ls' := [some (vR 2), some (vI 0), none, none]) (pc' := 7) dX10_image_6 rfl rfl (Nat.le_of_ble_eq_true rfl) rfl rfl ?_
  exact u_less (ls' := [some (vR 2), some (vI 0), none, none]) ⟨rfl, ⟨rfl, trivial⟩⟩ h
theorem mX10_image {E : mm_Env} {d : Nat} {τ : mm_Mem} {Q : mm_Q0}  (h : V0 E (d + 1) qX10_image 7 [some (vR 2), some (vI 0), none, none] [] (wr τ 2 12 0) Q) : M0 E (d + 1) qX10_image [vR 2] τ Q := M0_of rfl (Nat.le_of_ble_eq_true rfl) [some (vR 2), none, none, none] rfl (bX10_image_0  h)
set_option maxRecDepth 20000 in
theorem bX10_image_7 {E : mm_Env} {d : Nat} {τ : mm_Mem} {Q : mm_Q0} {x1 : Int} (h : ∃ o1 : Nat, (τ 2 2) = (o1 : Int) ∧ KD o1 = some (.inr 2) ∧ inR x1 ∧ (((τ o1 4) ≤ x1 → V0 E (d + 1) qX10_image 48 [some (vR 2), some (vI 0), none, none] [] τ Q) ∧ (¬ (τ o1 4) ≤ x1 → M0 E d qX10_personAt [vR 2, vI x1] τ (fun v τ6 => ∃ o7 : Nat, v = some (vR o7) ∧ ((¬ o7 = 0 → KD o7 = some (.inr 3) ∧ M0 E d qX10_putTwo [vR 2, vI (τ6 o7 5)] τ6 (fun v τ10 => v = none ∧ V0 E (d + 1) qX10_image 7 [some (vR 2), some (vI (x1 + 1)), none, none] [] τ10 Q)) ∧ (o7 = 0 → M0 E d qX10_putTwo [vR 2, vI 0] τ6 (fun v τ11 => v = none ∧ V0 E (d + 1) qX10_image 7 [some (vR 2), some (vI (x1 + 1)), none, none] [] τ11 Q))))))) : V0 E (d + 1) qX10_image 7 [some (vR 2), some (vI x1), none, none] [] τ Q := by
  refine u_iload_n (i := 1) (pc' := 8) dX10_image_7 rfl rfl rfl ?_
  refine u_aload_n (i := 0) (pc' := 9) dX10_image_8 rfl rfl rfl ?_
  obtain ⟨o1, z2, k3, h⟩ := h
  refine u_getD (a := o1) (pc' := 12) dX10_image_9 rfl fl_TuneDoor_16 rfl (by decide) kd_2 rfl (z2) ?_
  refine u_getI (z := (τ o1 4)) (pc' := 15) dX10_image_12 rfl fl_TuneDoor_128 rfl (by decide) (kHouse k3).1 k3 rfl (fun r4 => ?_)
  obtain ⟨c5, h⟩ := h
  refine u_icmp_ge (tgt := 46) (pc' := 18) dX10_image_15 rfl (by decide) c5 r4 (fun hb => ?_) (fun hb => ?_)
  · have h := h.1 hb
    refine u_iconst (pc' := 47) dX10_image_46 rfl ?_
    refine s_istore_n (i := 1) (ls' := [some (vR 2), some (vI 0), none, none]) (pc' := 48) dX10_image_47 rfl rfl (Nat.le_of_ble_eq_true rfl) rfl rfl ?_
    exact u_less (ls' := [some (vR 2), some (vI 0), none, none]) ⟨rfl, ⟨rfl, trivial⟩⟩ h
  · have h := h.2 hb
    refine u_aload_n (i := 0) (pc' := 19) dX10_image_18 rfl rfl rfl ?_
    refine u_iload_n (i := 1) (pc' := 20) dX10_image_19 rfl rfl rfl ?_
    refine u_invV (q' := qX10_personAt) (As := [vI x1]) (st := []) (pc' := 23) dX10_image_20 rfl gX10_personAt wm_837 rfl rfl (by decide) kd_2 wm_839 wp_44 rfl (Nat.le_of_ble_eq_true rfl) (M0.mono h (fun v τ6 h => ?_))
    obtain ⟨o7, rfl, h⟩ := h
    show V0 E (d + 1) qX10_image 23 [some (vR 2), some (vI x1), none, none] [vR o7] τ6 Q
    refine s_astore_n (i := 2) (ls' := [some (vR 2), some (vI x1), some (vR o7), none]) (pc' := 24) dX10_image_23 rfl rfl (Nat.le_of_ble_eq_true rfl) rfl rfl ?_
    refine u_aload_n (i := 0) (pc' := 25) dX10_image_24 rfl rfl rfl ?_
    refine u_aload_n (i := 2) (pc' := 26) dX10_image_25 rfl rfl rfl ?_
    refine u_ifnonnull (tgt := 33) (pc' := 29) dX10_image_26 rfl (by decide) (fun hb => ?_) (fun hb => ?_)
    · have h := h.1 hb
      refine u_aload_n (i := 2) (pc' := 34) dX10_image_33 rfl rfl rfl ?_
      obtain ⟨k8, h⟩ := h
      refine u_getI (z := (τ6 o7 5)) (pc' := 37) dX10_image_34 rfl fl_TuneDoor_196 rfl (by decide) (kPerson k8) k8 rfl (fun r9 => ?_)
      refine u_invV (q' := qX10_putTwo) (As := [vI (τ6 o7 5)]) (st := []) (pc' := 40) dX10_image_37 rfl gX10_putTwo wm_1171 rfl rfl (by decide) kd_2 wm_1173 wp_64 rfl (Nat.le_of_ble_eq_true rfl) (M0.mono h (fun v τ10 h => ?_))
      obtain ⟨rfl, h⟩ := h
      show V0 E (d + 1) qX10_image 40 [some (vR 2), some (vI x1), some (vR o7), none] [] τ10 Q
      refine s_iinc (i := 1) (ls' := [some (vR 2), some (vI (x1 + 1)), some (vR o7), none]) (pc' := 43) dX10_image_40 rfl rfl (Nat.le_of_ble_eq_true rfl) rfl rfl ?_
      refine u_goto (tgt := 7) dX10_image_43 (by decide) ?_
      exact u_less (ls' := [some (vR 2), some (vI (x1 + 1)), none, none]) ⟨rfl, ⟨rfl, trivial⟩⟩ h
    · have h := h.2 hb
      refine u_iconst (pc' := 30) dX10_image_29 rfl ?_
      refine u_goto (tgt := 37) dX10_image_30 (by decide) ?_
      refine u_invV (q' := qX10_putTwo) (As := [vI 0]) (st := []) (pc' := 40) dX10_image_37 rfl gX10_putTwo wm_1171 rfl rfl (by decide) kd_2 wm_1173 wp_64 rfl (Nat.le_of_ble_eq_true rfl) (M0.mono h (fun v τ11 h => ?_))
      obtain ⟨rfl, h⟩ := h
      show V0 E (d + 1) qX10_image 40 [some (vR 2), some (vI x1), some (vR o7), none] [] τ11 Q
      refine s_iinc (i := 1) (ls' := [some (vR 2), some (vI (x1 + 1)), some (vR o7), none]) (pc' := 43) dX10_image_40 rfl rfl (Nat.le_of_ble_eq_true rfl) rfl rfl ?_
      refine u_goto (tgt := 7) dX10_image_43 (by decide) ?_
      exact u_less (ls' := [some (vR 2), some (vI (x1 + 1)), none, none]) ⟨rfl, ⟨rfl, trivial⟩⟩ h
set_option maxRecDepth 20000 in
theorem bX10_image_48 {E : mm_Env} {d : Nat} {τ : mm_Mem} {Q : mm_Q0} {x1 : Int} (h : ∃ o1 : Nat, (τ 2 2) = (o1 : Int) ∧ KD o1 = some (.inr 2) ∧ inR x1 ∧ (((τ o1 3) ≤ x1 → M0 E d qX10_checkOf [vR 138, vI (τ 2 12)] τ (fun v τ7 => ∃ r8 : Int, v = some (vI r8) ∧ M0 E d qX10_putOctet [vR 2, vI r8] τ7 (fun v τ9 => v = none ∧ Q (some (vI (τ9 2 12))) τ9))) ∧ (¬ (τ o1 3) ≤ x1 → M0 E d qX10_doorAt [vR 2, vI x1] τ (fun v τ11 => ∃ o12 : Nat, v = some (vR o12) ∧ V0 E (d + 1) qX10_image 67 [some (vR 2), some (vI x1), some (vR o12), some (vI 0)] [] τ11 Q)))) : V0 E (d + 1) qX10_image 48 [some (vR 2), some (vI x1), none, none] [] τ Q := by
  refine u_iload_n (i := 1) (pc' := 49) dX10_image_48 rfl rfl rfl ?_
  refine u_aload_n (i := 0) (pc' := 50) dX10_image_49 rfl rfl rfl ?_
  obtain ⟨o1, z2, k3, h⟩ := h
  refine u_getD (a := o1) (pc' := 53) dX10_image_50 rfl fl_TuneDoor_16 rfl (by decide) kd_2 rfl (z2) ?_
  refine u_getI (z := (τ o1 3)) (pc' := 56) dX10_image_53 rfl fl_TuneDoor_125 rfl (by decide) (kHouse k3).1 k3 rfl (fun r4 => ?_)
  obtain ⟨c5, h⟩ := h
  refine u_icmp_ge (tgt := 126) (pc' := 59) dX10_image_56 rfl (by decide) c5 r4 (fun hb => ?_) (fun hb => ?_)
  · have h := h.1 hb
    refine u_aload_n (i := 0) (pc' := 127) dX10_image_126 rfl rfl rfl ?_
    refine u_aload_n (i := 0) (pc' := 128) dX10_image_127 rfl rfl rfl ?_
    refine u_getR (a := 138) (pc' := 131) dX10_image_128 rfl fl_TuneDoor_76 rfl (by decide) kd_2 rfl ?_
    refine u_aload_n (i := 0) (pc' := 132) dX10_image_131 rfl rfl rfl ?_
    refine u_getI (z := (τ 2 12)) (pc' := 135) dX10_image_132 rfl fl_TuneDoor_359 rfl (by decide) (by decide) kd_2 rfl (fun r6 => ?_)
    refine u_invS (q' := qX10_checkOf) (As := [vR 138, vI (τ 2 12)]) (st := [vR 2]) (pc' := 138) dX10_image_135 rfl gX10_checkOf wm_1179 wm_1180 rfl (Nat.le_of_ble_eq_true rfl) (M0.mono h (fun v τ7 h => ?_))
    obtain ⟨r8, rfl, h⟩ := h
    show V0 E (d + 1) qX10_image 138 [some (vR 2), some (vI x1), none, none] [vI r8, vR 2] τ7 Q
    refine u_invV (q' := qX10_putOctet) (As := [vI r8]) (st := []) (pc' := 141) dX10_image_138 rfl gX10_putOctet wm_1175 rfl rfl (by decide) kd_2 wm_1177 wp_65 rfl (Nat.le_of_ble_eq_true rfl) (M0.mono h (fun v τ9 h => ?_))
    obtain ⟨rfl, h⟩ := h
    show V0 E (d + 1) qX10_image 141 [some (vR 2), some (vI x1), none, none] [] τ9 Q
    refine u_aload_n (i := 0) (pc' := 142) dX10_image_141 rfl rfl rfl ?_
    refine u_getI (z := (τ9 2 12)) (pc' := 145) dX10_image_142 rfl fl_TuneDoor_359 rfl (by decide) (by decide) kd_2 rfl (fun r10 => ?_)
    exact u_iret dX10_image_145 rfl h
  · have h := h.2 hb
    refine u_aload_n (i := 0) (pc' := 60) dX10_image_59 rfl rfl rfl ?_
    refine u_iload_n (i := 1) (pc' := 61) dX10_image_60 rfl rfl rfl ?_
    refine u_invV (q' := qX10_doorAt) (As := [vI x1]) (st := []) (pc' := 64) dX10_image_61 rfl gX10_doorAt wm_833 rfl rfl (by decide) kd_2 wm_835 wp_43 rfl (Nat.le_of_ble_eq_true rfl) (M0.mono h (fun v τ11 h => ?_))
    obtain ⟨o12, rfl, h⟩ := h
    show V0 E (d + 1) qX10_image 64 [some (vR 2), some (vI x1), none, none] [vR o12] τ11 Q
    refine s_astore_n (i := 2) (ls' := [some (vR 2), some (vI x1), some (vR o12), none]) (pc' := 65) dX10_image_64 rfl rfl (Nat.le_of_ble_eq_true rfl) rfl rfl ?_
    refine u_iconst (pc' := 66) dX10_image_65 rfl ?_
    refine s_istore_n (i := 3) (ls' := [some (vR 2), some (vI x1), some (vR o12), some (vI 0)]) (pc' := 67) dX10_image_66 rfl rfl (Nat.le_of_ble_eq_true rfl) rfl rfl ?_
    exact u_less (ls' := [some (vR 2), some (vI x1), some (vR o12), some (vI 0)]) ⟨rfl, ⟨rfl, ⟨rfl, ⟨rfl, trivial⟩⟩⟩⟩ h
set_option maxRecDepth 20000 in
theorem bX10_image_67 {E : mm_Env} {d : Nat} {τ : mm_Mem} {Q : mm_Q0} {x1 : Int} {x2 : Nat} {x3 : Int} (h : ∃ o1 : Nat, (τ 2 2) = (o1 : Int) ∧ KD o1 = some (.inr 2) ∧ inR x3 ∧ (((τ o1 2) ≤ x3 → V0 E (d + 1) qX10_image 48 [some (vR 2), some (vI (x1 + 1)), none, none] [] τ Q) ∧ (¬ (τ o1 2) ≤ x3 → ((x2 = 0 → V0 E (d + 1) qX10_image 48 [some (vR 2), some (vI (x1 + 1)), none, none] [] τ Q) ∧ (¬ x2 = 0 → KD x2 = some (.inr 0) ∧ 0 ≤ x3 ∧ x3 < 3 ∧ M0 E d qX10_putTwo [vR 2, vI (τ (x2 + 1) x3.toNat)] τ (fun v τ10 => v = none ∧ 0 ≤ x3 ∧ x3 < 3 ∧ M0 E d qX10_putTwo [vR 2, vI ((τ10 (x2 + 2) x3.toNat) + 1)] τ10 (fun v τ14 => v = none ∧ 0 ≤ x3 ∧ x3 < 3 ∧ M0 E d qX10_putOctet [vR 2, vI (τ14 (x2 + 3) x3.toNat)] τ14 (fun v τ18 => v = none ∧ V0 E (d + 1) qX10_image 67 [some (vR 2), some (vI x1), some (vR x2), some (vI (x3 + 1))] [] τ18 Q)))))))) : V0 E (d + 1) qX10_image 67 [some (vR 2), some (vI x1), some (vR x2), some (vI x3)] [] τ Q := by
  refine u_iload_n (i := 3) (pc' := 68) dX10_image_67 rfl rfl rfl ?_
  refine u_aload_n (i := 0) (pc' := 69) dX10_image_68 rfl rfl rfl ?_
  obtain ⟨o1, z2, k3, h⟩ := h
  refine u_getD (a := o1) (pc' := 72) dX10_image_69 rfl fl_TuneDoor_16 rfl (by decide) kd_2 rfl (z2) ?_
  refine u_getI (z := (τ o1 2)) (pc' := 75) dX10_image_72 rfl fl_TuneDoor_122 rfl (by decide) (kHouse k3).1 k3 rfl (fun r4 => ?_)
  obtain ⟨c5, h⟩ := h
  refine u_icmp_ge (tgt := 120) (pc' := 78) dX10_image_75 rfl (by decide) c5 r4 (fun hb => ?_) (fun hb => ?_)
  · have h := h.1 hb
    refine s_iinc (i := 1) (ls' := [some (vR 2), some (vI (x1 + 1)), some (vR x2), some (vI x3)]) (pc' := 123) dX10_image_120 rfl rfl (Nat.le_of_ble_eq_true rfl) rfl rfl ?_
    refine u_goto (tgt := 48) dX10_image_123 (by decide) ?_
    exact u_less (ls' := [some (vR 2), some (vI (x1 + 1)), none, none]) ⟨rfl, ⟨rfl, trivial⟩⟩ h
  · have h := h.2 hb
    refine u_aload_n (i := 2) (pc' := 79) dX10_image_78 rfl rfl rfl ?_
    refine u_ifnull (tgt := 120) (pc' := 82) dX10_image_79 rfl (by decide) (fun hb => ?_) (fun hb => ?_)
    · have h := h.1 hb
      refine s_iinc (i := 1) (ls' := [some (vR 2), some (vI (x1 + 1)), some (vR x2), some (vI x3)]) (pc' := 123) dX10_image_120 rfl rfl (Nat.le_of_ble_eq_true rfl) rfl rfl ?_
      refine u_goto (tgt := 48) dX10_image_123 (by decide) ?_
      exact u_less (ls' := [some (vR 2), some (vI (x1 + 1)), none, none]) ⟨rfl, ⟨rfl, trivial⟩⟩ h
    · have h := h.2 hb
      refine u_aload_n (i := 0) (pc' := 83) dX10_image_82 rfl rfl rfl ?_
      refine u_aload_n (i := 2) (pc' := 84) dX10_image_83 rfl rfl rfl ?_
      obtain ⟨k6, h⟩ := h
      refine u_getR (a := (x2 + 1)) (pc' := 87) dX10_image_84 rfl fl_TuneDoor_235 rfl (kDoor k6).1 k6 (kDoor k6).2.1 ?_
      refine u_iload_n (i := 3) (pc' := 88) dX10_image_87 rfl rfl rfl ?_
      obtain ⟨c7, c8, h⟩ := h
      refine u_iaload (k := x3.toNat) (z := (τ (x2 + 1) x3.toNat)) (pc' := 89) dX10_image_88 rfl (Nat.le_trans (kDoor k6).1 (Nat.le_add_right _ _)) (kDoor k6).2.2.2.2.1 c7 c8 (by decide) rfl rfl (fun r9 => ?_)
      refine u_invV (q' := qX10_putTwo) (As := [vI (τ (x2 + 1) x3.toNat)]) (st := []) (pc' := 92) dX10_image_89 rfl gX10_putTwo wm_1171 rfl rfl (by decide) kd_2 wm_1173 wp_64 rfl (Nat.le_of_ble_eq_true rfl) (M0.mono h (fun v τ10 h => ?_))
      obtain ⟨rfl, h⟩ := h
      show V0 E (d + 1) qX10_image 92 [some (vR 2), some (vI x1), some (vR x2), some (vI x3)] [] τ10 Q
      refine u_aload_n (i := 0) (pc' := 93) dX10_image_92 rfl rfl rfl ?_
      refine u_aload_n (i := 2) (pc' := 94) dX10_image_93 rfl rfl rfl ?_
      refine u_getR (a := (x2 + 2)) (pc' := 97) dX10_image_94 rfl fl_TuneDoor_237 rfl (kDoor k6).1 k6 (kDoor k6).2.2.1 ?_
      refine u_iload_n (i := 3) (pc' := 98) dX10_image_97 rfl rfl rfl ?_
      obtain ⟨c11, c12, h⟩ := h
      refine u_iaload (k := x3.toNat) (z := (τ10 (x2 + 2) x3.toNat)) (pc' := 99) dX10_image_98 rfl (Nat.le_trans (kDoor k6).1 (Nat.le_add_right _ _)) (kDoor k6).2.2.2.2.2.1 c11 c12 (by decide) rfl rfl (fun r13 => ?_)
      refine u_iconst (pc' := 100) dX10_image_99 rfl ?_
      refine u_iadd (pc' := 101) dX10_image_100 rfl ?_
      refine u_invV (q' := qX10_putTwo) (As := [vI ((τ10 (x2 + 2) x3.toNat) + 1)]) (st := []) (pc' := 104) dX10_image_101 rfl gX10_putTwo wm_1171 rfl rfl (by decide) kd_2 wm_1173 wp_64 rfl (Nat.le_of_ble_eq_true rfl) (M0.mono h (fun v τ14 h => ?_))
      obtain ⟨rfl, h⟩ := h
      show V0 E (d + 1) qX10_image 104 [some (vR 2), some (vI x1), some (vR x2), some (vI x3)] [] τ14 Q
      refine u_aload_n (i := 0) (pc' := 105) dX10_image_104 rfl rfl rfl ?_
      refine u_aload_n (i := 2) (pc' := 106) dX10_image_105 rfl rfl rfl ?_
      refine u_getR (a := (x2 + 3)) (pc' := 109) dX10_image_106 rfl fl_TuneDoor_240 rfl (kDoor k6).1 k6 (kDoor k6).2.2.2.1 ?_
      refine u_iload_n (i := 3) (pc' := 110) dX10_image_109 rfl rfl rfl ?_
      obtain ⟨c15, c16, h⟩ := h
      refine u_iaload (k := x3.toNat) (z := (τ14 (x2 + 3) x3.toNat)) (pc' := 111) dX10_image_110 rfl (Nat.le_trans (kDoor k6).1 (Nat.le_add_right _ _)) (kDoor k6).2.2.2.2.2.2 c15 c16 (by decide) rfl rfl (fun r17 => ?_)
      refine u_invV (q' := qX10_putOctet) (As := [vI (τ14 (x2 + 3) x3.toNat)]) (st := []) (pc' := 114) dX10_image_111 rfl gX10_putOctet wm_1175 rfl rfl (by decide) kd_2 wm_1177 wp_65 rfl (Nat.le_of_ble_eq_true rfl) (M0.mono h (fun v τ18 h => ?_))
      obtain ⟨rfl, h⟩ := h
      show V0 E (d + 1) qX10_image 114 [some (vR 2), some (vI x1), some (vR x2), some (vI x3)] [] τ18 Q
      refine s_iinc (i := 3) (ls' := [some (vR 2), some (vI x1), some (vR x2), some (vI (x3 + 1))]) (pc' := 117) dX10_image_114 rfl rfl (Nat.le_of_ble_eq_true rfl) rfl rfl ?_
      refine u_goto (tgt := 67) dX10_image_117 (by decide) ?_
      exact u_less (ls' := [some (vR 2), some (vI x1), some (vR x2), some (vI (x3 + 1))]) ⟨rfl, ⟨rfl, ⟨rfl, ⟨rfl, trivial⟩⟩⟩⟩ h
set_option maxRecDepth 20000 in
theorem bX10_putTwo_0 {E : mm_Env} {d : Nat} {τ : mm_Mem} {Q : mm_Q0} {a0 : Int} (h : M0 E d qX10_putOctet [vR 2, vI (mm_shr a0 8)] τ (fun v τ1 => v = none ∧ M0 E d qX10_putOctet [vR 2, vI (mm_and a0 255)] τ1 (fun v τ2 => v = none ∧ Q none τ2))) : V0 E (d + 1) qX10_putTwo 0 [some (vR 2), some (vI a0)] [] τ Q := by
  refine u_aload_n (i := 0) (pc' := 1) dX10_putTwo_0 rfl rfl rfl ?_
  refine u_iload_n (i := 1) (pc' := 2) dX10_putTwo_1 rfl rfl rfl ?_
  refine u_bipush (pc' := 4) dX10_putTwo_2 rfl (by decide) ?_
  refine u_ishr (pc' := 5) dX10_putTwo_4 rfl ?_
  refine u_invV (q' := qX10_putOctet) (As := [vI (mm_shr a0 8)]) (st := []) (pc' := 8) dX10_putTwo_5 rfl gX10_putOctet wm_1175 rfl rfl (by decide) kd_2 wm_1177 wp_65 rfl (Nat.le_of_ble_eq_true rfl) (M0.mono h (fun v τ1 h => ?_))
  obtain ⟨rfl, h⟩ := h
  show V0 E (d + 1) qX10_putTwo 8 [some (vR 2), some (vI a0)] [] τ1 Q
  refine u_aload_n (i := 0) (pc' := 9) dX10_putTwo_8 rfl rfl rfl ?_
  refine u_iload_n (i := 1) (pc' := 10) dX10_putTwo_9 rfl rfl rfl ?_
  refine u_sipush (pc' := 13) dX10_putTwo_10 rfl (by decide) ?_
  refine u_iand (pc' := 14) dX10_putTwo_13 rfl ?_
  refine u_invV (q' := qX10_putOctet) (As := [vI (mm_and a0 255)]) (st := []) (pc' := 17) dX10_putTwo_14 rfl gX10_putOctet wm_1175 rfl rfl (by decide) kd_2 wm_1177 wp_65 rfl (Nat.le_of_ble_eq_true rfl) (M0.mono h (fun v τ2 h => ?_))
  obtain ⟨rfl, h⟩ := h
  show V0 E (d + 1) qX10_putTwo 17 [some (vR 2), some (vI a0)] [] τ2 Q
  exact u_ret dX10_putTwo_17 rfl h
theorem mX10_putTwo {E : mm_Env} {d : Nat} {τ : mm_Mem} {Q : mm_Q0} {a0 : Int} (h : M0 E d qX10_putOctet [vR 2, vI (mm_shr a0 8)] τ (fun v τ1 => v = none ∧ M0 E d qX10_putOctet [vR 2, vI (mm_and a0 255)] τ1 (fun v τ2 => v = none ∧ Q none τ2))) : M0 E (d + 1) qX10_putTwo [vR 2, vI a0] τ Q := M0_of rfl (Nat.le_of_ble_eq_true rfl) [some (vR 2), some (vI a0)] rfl (bX10_putTwo_0  h)
set_option maxRecDepth 20000 in
theorem bX10_putOctet_0 {E : mm_Env} {d : Nat} {τ : mm_Mem} {Q : mm_Q0} {a0 : Int} (h : ((69 ≤ (τ 2 12) → Q none τ) ∧ (¬ 69 ≤ (τ 2 12) → 0 ≤ (τ 2 12) ∧ (τ 2 12) < 69 ∧ inR a0 ∧ inR ((τ 2 12) + 1) ∧ Q none (wr (wr τ 138 (τ 2 12).toNat a0) 2 12 ((τ 2 12) + 1))))) : V0 E d qX10_putOctet 0 [some (vR 2), some (vI a0)] [] τ Q := by
  refine u_aload_n (i := 0) (pc' := 1) dX10_putOctet_0 rfl rfl rfl ?_
  refine u_getI (z := (τ 2 12)) (pc' := 4) dX10_putOctet_1 rfl fl_TuneDoor_359 rfl (by decide) (by decide) kd_2 rfl (fun r1 => ?_)
  refine u_aload_n (i := 0) (pc' := 5) dX10_putOctet_4 rfl rfl rfl ?_
  refine u_getR (a := 138) (pc' := 8) dX10_putOctet_5 rfl fl_TuneDoor_76 rfl (by decide) kd_2 rfl ?_
  refine u_alen (t0 := 0) (pc' := 9) dX10_putOctet_8 rfl (by decide) kd_138 (fun _ => rfl) ?_
  refine u_icmp_ge (tgt := 32) (pc' := 12) dX10_putOctet_9 rfl (by decide) r1 ⟨by decide, by decide⟩ (fun hb => ?_) (fun hb => ?_)
  · have h := h.1 hb
    exact u_ret dX10_putOctet_32 rfl h
  · have h := h.2 hb
    refine u_aload_n (i := 0) (pc' := 13) dX10_putOctet_12 rfl rfl rfl ?_
    refine u_getR (a := 138) (pc' := 16) dX10_putOctet_13 rfl fl_TuneDoor_76 rfl (by decide) kd_2 rfl ?_
    refine u_aload_n (i := 0) (pc' := 17) dX10_putOctet_16 rfl rfl rfl ?_
    refine u_getI (z := (τ 2 12)) (pc' := 20) dX10_putOctet_17 rfl fl_TuneDoor_359 rfl (by decide) (by decide) kd_2 rfl (fun r2 => ?_)
    refine u_iload_n (i := 1) (pc' := 21) dX10_putOctet_20 rfl rfl rfl ?_
    obtain ⟨c3, c4, c5, h⟩ := h
    refine u_iastore (k := (τ 2 12).toNat) (pc' := 22) dX10_putOctet_21 rfl (by decide) kd_138 c3 c4 (by decide) rfl c5 ?_
    refine u_aload_n (i := 0) (pc' := 23) dX10_putOctet_22 rfl rfl rfl ?_
    refine u_dup (pc' := 24) dX10_putOctet_23 rfl (fun _ hh => by cases hh) ?_
    refine u_getI (z := (τ 2 12)) (pc' := 27) dX10_putOctet_24 rfl fl_TuneDoor_359 rfl (by decide) (by decide) kd_2 rfl (fun r6 => ?_)
    refine u_iconst (pc' := 28) dX10_putOctet_27 rfl ?_
    refine u_iadd (pc' := 29) dX10_putOctet_28 rfl ?_
    obtain ⟨c7, h⟩ := h
    refine u_putI (pc' := 32) dX10_putOctet_29 rfl fl_TuneDoor_359 rfl rfl (by decide) (by decide) kd_2 c7 ?_
    exact u_ret dX10_putOctet_32 rfl h
theorem mX10_putOctet {E : mm_Env} {d : Nat} {τ : mm_Mem} {Q : mm_Q0} {a0 : Int} (h : ((69 ≤ (τ 2 12) → Q none τ) ∧ (¬ 69 ≤ (τ 2 12) → 0 ≤ (τ 2 12) ∧ (τ 2 12) < 69 ∧ inR a0 ∧ inR ((τ 2 12) + 1) ∧ Q none (wr (wr τ 138 (τ 2 12).toNat a0) 2 12 ((τ 2 12) + 1))))) : M0 E d qX10_putOctet [vR 2, vI a0] τ Q := M0_of rfl (Nat.le_of_ble_eq_true rfl) [some (vR 2), some (vI a0)] rfl (bX10_putOctet_0  h)
set_option maxRecDepth 20000 in
theorem bX10_checkOf_0 {E : mm_Env} {d : Nat} {τ : mm_Mem} {Q : mm_Q0} {a0 : Nat} {n_a0 : Nat} {a1 : Int} (k_a0 : KD a0 = some (.inl (.int, n_a0))) (t_a0 : 2 ≤ a0) (l_a0 : n_a0 ≤ 2147483647) (h : V0 E d qX10_checkOf 5 [some (vR a0), some (vI a1), some (vI 33), some (vI 0)] [] τ Q) : V0 E d qX10_checkOf 0 [some (vR a0), some (vI a1), none, none] [] τ Q := by
  refine u_bipush (pc' := 2) dX10_checkOf_0 rfl (by decide) ?_
  refine s_istore_n (i := 2) (ls' := [some (vR a0), some (vI a1), some (vI 33), none]) (pc' := 3) dX10_checkOf_2 rfl rfl (Nat.le_of_ble_eq_true rfl) rfl rfl ?_
  refine u_iconst (pc' := 4) dX10_checkOf_3 rfl ?_
  refine s_istore_n (i := 3) (ls' := [some (vR a0), some (vI a1), some (vI 33), some (vI 0)]) (pc' := 5) dX10_checkOf_4 rfl rfl (Nat.le_of_ble_eq_true rfl) rfl rfl ?_
  exact u_less (ls' := [some (vR a0), some (vI a1), some (vI 33), some (vI 0)]) ⟨rfl, ⟨rfl, ⟨rfl, ⟨rfl, trivial⟩⟩⟩⟩ h
theorem mX10_checkOf {E : mm_Env} {d : Nat} {τ : mm_Mem} {Q : mm_Q0} {a0 : Nat} {n_a0 : Nat} {a1 : Int} (k_a0 : KD a0 = some (.inl (.int, n_a0))) (t_a0 : 2 ≤ a0) (l_a0 : n_a0 ≤ 2147483647) (h : V0 E d qX10_checkOf 5 [some (vR a0), some (vI a1), some (vI 33), some (vI 0)] [] τ Q) : M0 E d qX10_checkOf [vR a0, vI a1] τ Q := M0_of rfl (Nat.le_of_ble_eq_true rfl) [some (vR a0), some (vI a1), none, none] rfl (bX10_checkOf_0 k_a0 t_a0 l_a0 h)
set_option maxRecDepth 20000 in
theorem bX10_checkOf_5 {E : mm_Env} {d : Nat} {τ : mm_Mem} {Q : mm_Q0} {x0 : Nat} {n_x0 : Nat} {x1 : Int} {x2 : Int} {x3 : Int} (k_x0 : KD x0 = some (.inl (.int, n_x0))) (t_x0 : 2 ≤ x0) (l_x0 : n_x0 ≤ 2147483647) (h : inR x3 ∧ inR x1 ∧ ((x1 ≤ x3 → Q (some (vI x2)) τ) ∧ (¬ x1 ≤ x3 → inR (n_x0 : Int) ∧ (((n_x0 : Int) ≤ x3 → Q (some (vI x2)) τ) ∧ (¬ (n_x0 : Int) ≤ x3 → 0 ≤ x3 ∧ x3 < n_x0 ∧ inR ((7 * x2) + (τ x0 x3.toNat)) ∧ V0 E d qX10_checkOf 5 [some (vR x0), some (vI x1), some (vI (Int.tmod ((7 * x2) + (τ x0 x3.toNat)) 241)), some (vI (x3 + 1))] [] τ Q))))) : V0 E d qX10_checkOf 5 [some (vR x0), some (vI x1), some (vI x2), some (vI x3)] [] τ Q := by
  refine u_iload_n (i := 3) (pc' := 6) dX10_checkOf_5 rfl rfl rfl ?_
  refine u_iload_n (i := 1) (pc' := 7) dX10_checkOf_6 rfl rfl rfl ?_
  obtain ⟨c1, c2, h⟩ := h
  refine u_icmp_ge (tgt := 35) (pc' := 10) dX10_checkOf_7 rfl (by decide) c1 c2 (fun hb => ?_) (fun hb => ?_)
  · have h := h.1 hb
    refine u_iload_n (i := 2) (pc' := 36) dX10_checkOf_35 rfl rfl rfl ?_
    exact u_iret dX10_checkOf_36 rfl h
  · have h := h.2 hb
    refine u_iload_n (i := 3) (pc' := 11) dX10_checkOf_10 rfl rfl rfl ?_
    refine u_aload_n (i := 0) (pc' := 12) dX10_checkOf_11 rfl rfl rfl ?_
    refine u_alen (t0 := 0) (pc' := 13) dX10_checkOf_12 rfl t_x0 k_x0 (fun _ => rfl) ?_
    obtain ⟨c3, h⟩ := h
    refine u_icmp_ge (tgt := 35) (pc' := 16) dX10_checkOf_13 rfl (by decide) c1 c3 (fun hb => ?_) (fun hb => ?_)
    · have h := h.1 hb
      refine u_iload_n (i := 2) (pc' := 36) dX10_checkOf_35 rfl rfl rfl ?_
      exact u_iret dX10_checkOf_36 rfl h
    · have h := h.2 hb
      refine u_bipush (pc' := 18) dX10_checkOf_16 rfl (by decide) ?_
      refine u_iload_n (i := 2) (pc' := 19) dX10_checkOf_18 rfl rfl rfl ?_
      refine u_imul (pc' := 20) dX10_checkOf_19 rfl ?_
      refine u_aload_n (i := 0) (pc' := 21) dX10_checkOf_20 rfl rfl rfl ?_
      refine u_iload_n (i := 3) (pc' := 22) dX10_checkOf_21 rfl rfl rfl ?_
      obtain ⟨c4, c5, h⟩ := h
      refine u_iaload (k := x3.toNat) (z := (τ x0 x3.toNat)) (pc' := 23) dX10_checkOf_22 rfl t_x0 k_x0 c4 c5 l_x0 rfl rfl (fun r6 => ?_)
      refine u_iadd (pc' := 24) dX10_checkOf_23 rfl ?_
      refine u_sipush (pc' := 27) dX10_checkOf_24 rfl (by decide) ?_
      obtain ⟨c7, h⟩ := h
      refine u_irem (pc' := 28) dX10_checkOf_27 rfl c7 ⟨by decide, by decide⟩ (by decide) ?_
      refine s_istore_n (i := 2) (ls' := [some (vR x0), some (vI x1), some (vI (Int.tmod ((7 * x2) + (τ x0 x3.toNat)) 241)), some (vI x3)]) (pc' := 29) dX10_checkOf_28 rfl rfl (Nat.le_of_ble_eq_true rfl) rfl rfl ?_
      refine s_iinc (i := 3) (ls' := [some (vR x0), some (vI x1), some (vI (Int.tmod ((7 * x2) + (τ x0 x3.toNat)) 241)), some (vI (x3 + 1))]) (pc' := 32) dX10_checkOf_29 rfl rfl (Nat.le_of_ble_eq_true rfl) rfl rfl ?_
      refine u_goto (tgt := 5) dX10_checkOf_32 (by decide) ?_
      exact u_less (ls' := [some (vR x0), some (vI x1), some (vI (Int.tmod ((7 * x2) + (τ x0 x3.toNat)) 241)), some (vI (x3 + 1))]) ⟨rfl, ⟨rfl, ⟨rfl, ⟨rfl, trivial⟩⟩⟩⟩ h
set_option maxRecDepth 20000 in
theorem bX10_octet_0 {E : mm_Env} {d : Nat} {τ : mm_Mem} {Q : mm_Q0} {a0 : Int} (h : inR a0 ∧ ((a0 < 0 → Q (some (vI (-1))) τ) ∧ (¬ a0 < 0 → (((τ 2 12) ≤ a0 → Q (some (vI (-1))) τ) ∧ (¬ (τ 2 12) ≤ a0 → ((a0 < 69 → 0 ≤ a0 ∧ a0 < 69 ∧ Q (some (vI (τ 138 a0.toNat))) τ) ∧ (¬ a0 < 69 → Q (some (vI (-1))) τ))))))) : V0 E d qX10_octet 0 [some (vR 2), some (vI a0)] [] τ Q := by
  refine u_iload_n (i := 1) (pc' := 1) dX10_octet_0 rfl rfl rfl ?_
  obtain ⟨c1, h⟩ := h
  refine u_if_lt (tgt := 21) (pc' := 4) dX10_octet_1 rfl (by decide) c1 (fun hb => ?_) (fun hb => ?_)
  · have h := h.1 hb
    refine u_iconst (pc' := 22) dX10_octet_21 rfl ?_
    refine u_goto (tgt := 31) dX10_octet_22 (by decide) ?_
    exact u_iret dX10_octet_31 rfl h
  · have h := h.2 hb
    refine u_iload_n (i := 1) (pc' := 5) dX10_octet_4 rfl rfl rfl ?_
    refine u_aload_n (i := 0) (pc' := 6) dX10_octet_5 rfl rfl rfl ?_
    refine u_getI (z := (τ 2 12)) (pc' := 9) dX10_octet_6 rfl fl_TuneDoor_359 rfl (by decide) (by decide) kd_2 rfl (fun r2 => ?_)
    refine u_icmp_ge (tgt := 21) (pc' := 12) dX10_octet_9 rfl (by decide) c1 r2 (fun hb => ?_) (fun hb => ?_)
    · have h := h.1 hb
      refine u_iconst (pc' := 22) dX10_octet_21 rfl ?_
      refine u_goto (tgt := 31) dX10_octet_22 (by decide) ?_
      exact u_iret dX10_octet_31 rfl h
    · have h := h.2 hb
      refine u_iload_n (i := 1) (pc' := 13) dX10_octet_12 rfl rfl rfl ?_
      refine u_aload_n (i := 0) (pc' := 14) dX10_octet_13 rfl rfl rfl ?_
      refine u_getR (a := 138) (pc' := 17) dX10_octet_14 rfl fl_TuneDoor_76 rfl (by decide) kd_2 rfl ?_
      refine u_alen (t0 := 0) (pc' := 18) dX10_octet_17 rfl (by decide) kd_138 (fun _ => rfl) ?_
      refine u_icmp_lt (tgt := 25) (pc' := 21) dX10_octet_18 rfl (by decide) c1 ⟨by decide, by decide⟩ (fun hb => ?_) (fun hb => ?_)
      · have h := h.1 hb
        refine u_aload_n (i := 0) (pc' := 26) dX10_octet_25 rfl rfl rfl ?_
        refine u_getR (a := 138) (pc' := 29) dX10_octet_26 rfl fl_TuneDoor_76 rfl (by decide) kd_2 rfl ?_
        refine u_iload_n (i := 1) (pc' := 30) dX10_octet_29 rfl rfl rfl ?_
        obtain ⟨c3, c4, h⟩ := h
        refine u_iaload (k := a0.toNat) (z := (τ 138 a0.toNat)) (pc' := 31) dX10_octet_30 rfl (by decide) kd_138 c3 c4 (by decide) rfl rfl (fun r5 => ?_)
        exact u_iret dX10_octet_31 rfl h
      · have h := h.2 hb
        refine u_iconst (pc' := 22) dX10_octet_21 rfl ?_
        refine u_goto (tgt := 31) dX10_octet_22 (by decide) ?_
        exact u_iret dX10_octet_31 rfl h
theorem mX10_octet {E : mm_Env} {d : Nat} {τ : mm_Mem} {Q : mm_Q0} {a0 : Int} (h : inR a0 ∧ ((a0 < 0 → Q (some (vI (-1))) τ) ∧ (¬ a0 < 0 → (((τ 2 12) ≤ a0 → Q (some (vI (-1))) τ) ∧ (¬ (τ 2 12) ≤ a0 → ((a0 < 69 → 0 ≤ a0 ∧ a0 < 69 ∧ Q (some (vI (τ 138 a0.toNat))) τ) ∧ (¬ a0 < 69 → Q (some (vI (-1))) τ))))))) : M0 E d qX10_octet [vR 2, vI a0] τ Q := M0_of rfl (Nat.le_of_ble_eq_true rfl) [some (vR 2), some (vI a0)] rfl (bX10_octet_0  h)
set_option maxRecDepth 20000 in
theorem bX10_on_0 {E : mm_Env} {d : Nat} {τ : mm_Mem} {Q : mm_Q0}  (h : M0 E d qX10_takeTape [vR 2] τ (fun v τ1 => ∃ r2 : Int, v = some (vI r2) ∧ ∃ o3 : Nat, (τ1 2 2) = (o3 : Int) ∧ KD o3 = some (.inr 2) ∧ ∃ o7 : Nat, (τ1 2 2) = (o7 : Int) ∧ KD o7 = some (.inr 2) ∧ ∃ o11 : Nat, (τ1 2 2) = (o11 : Int) ∧ KD o11 = some (.inr 2) ∧ ∃ o15 : Nat, (τ1 2 2) = (o15 : Int) ∧ KD o15 = some (.inr 2) ∧ (((τ1 o15 0) ≤ 0 → inR ((τ1 139 5) + 1) ∧ Q (some (vB false)) (wr τ1 139 5 ((τ1 139 5) + 1))) ∧ (¬ (τ1 o15 0) ≤ 0 → inR r2 ∧ inR (((2 * (τ1 o3 4)) + ((5 * (τ1 o7 3)) * (τ1 o11 2))) + 1) ∧ ((r2 ≠ (((2 * (τ1 o3 4)) + ((5 * (τ1 o7 3)) * (τ1 o11 2))) + 1) → inR ((τ1 139 5) + 1) ∧ Q (some (vB false)) (wr τ1 139 5 ((τ1 139 5) + 1))) ∧ (r2 = (((2 * (τ1 o3 4)) + ((5 * (τ1 o7 3)) * (τ1 o11 2))) + 1) → ((1600 < r2 → inR ((τ1 139 5) + 1) ∧ Q (some (vB false)) (wr τ1 139 5 ((τ1 139 5) + 1))) ∧ (¬ 1600 < r2 → M0 E d qX10_checkOf [vR 3, vI (r2 - 1)] τ1 (fun v τ27 => ∃ r28 : Int, v = some (vI r28) ∧ 0 ≤ (r2 - 1) ∧ (r2 - 1) < 1600 ∧ inR r28 ∧ ((r28 ≠ (τ27 3 (r2 - 1).toNat) → inR ((τ27 139 5) + 1) ∧ Q (some (vB false)) (wr τ27 139 5 ((τ27 139 5) + 1))) ∧ (r28 = (τ27 3 (r2 - 1).toNat) → M0 E d qX10_personsFit [vR 2] τ27 (fun v τ35 => ∃ b36 : Bool, v = some (vB b36) ∧ ((b36 = false → inR ((τ35 139 5) + 1) ∧ Q (some (vB false)) (wr τ35 139 5 ((τ35 139 5) + 1))) ∧ (b36 = true → M0 E d qX10_earsFit [vR 2] τ35 (fun v τ39 => ∃ b40 : Bool, v = some (vB b40) ∧ ((b40 = false → inR ((τ39 139 5) + 1) ∧ Q (some (vB false)) (wr τ39 139 5 ((τ39 139 5) + 1))) ∧ (b40 = true → M0 E d qX10_restore [vR 2] τ39 (fun v τ43 => v = none ∧ Q (some (vB true)) τ43)))))))))))))))))) : V0 E (d + 1) qX10_on 0 [some (vR 2), none, none, none] [] τ Q := by
  refine u_aload_n (i := 0) (pc' := 1) dX10_on_0 rfl rfl rfl ?_
  refine u_invV (q' := qX10_takeTape) (As := []) (st := []) (pc' := 4) dX10_on_1 rfl gX10_takeTape wm_521 rfl rfl (by decide) kd_2 wm_523 wp_1 rfl (Nat.le_of_ble_eq_true rfl) (M0.mono h (fun v τ1 h => ?_))
  obtain ⟨r2, rfl, h⟩ := h
  show V0 E (d + 1) qX10_on 4 [some (vR 2), none, none, none] [vI r2] τ1 Q
  refine s_istore_n (i := 1) (ls' := [some (vR 2), some (vI r2), none, none]) (pc' := 5) dX10_on_4 rfl rfl (Nat.le_of_ble_eq_true rfl) rfl rfl ?_
  refine u_iconst (pc' := 6) dX10_on_5 rfl ?_
  refine u_aload_n (i := 0) (pc' := 7) dX10_on_6 rfl rfl rfl ?_
  obtain ⟨o3, z4, k5, h⟩ := h
  refine u_getD (a := o3) (pc' := 10) dX10_on_7 rfl fl_TuneDoor_16 rfl (by decide) kd_2 rfl (z4) ?_
  refine u_getI (z := (τ1 o3 4)) (pc' := 13) dX10_on_10 rfl fl_TuneDoor_128 rfl (by decide) (kHouse k5).1 k5 rfl (fun r6 => ?_)
  refine u_imul (pc' := 14) dX10_on_13 rfl ?_
  refine u_iconst (pc' := 15) dX10_on_14 rfl ?_
  refine u_aload_n (i := 0) (pc' := 16) dX10_on_15 rfl rfl rfl ?_
  obtain ⟨o7, z8, k9, h⟩ := h
  refine u_getD (a := o7) (pc' := 19) dX10_on_16 rfl fl_TuneDoor_16 rfl (by decide) kd_2 rfl (z8) ?_
  refine u_getI (z := (τ1 o7 3)) (pc' := 22) dX10_on_19 rfl fl_TuneDoor_125 rfl (by decide) (kHouse k9).1 k9 rfl (fun r10 => ?_)
  refine u_imul (pc' := 23) dX10_on_22 rfl ?_
  refine u_aload_n (i := 0) (pc' := 24) dX10_on_23 rfl rfl rfl ?_
  obtain ⟨o11, z12, k13, h⟩ := h
  refine u_getD (a := o11) (pc' := 27) dX10_on_24 rfl fl_TuneDoor_16 rfl (by decide) kd_2 rfl (z12) ?_
  refine u_getI (z := (τ1 o11 2)) (pc' := 30) dX10_on_27 rfl fl_TuneDoor_122 rfl (by decide) (kHouse k13).1 k13 rfl (fun r14 => ?_)
  refine u_imul (pc' := 31) dX10_on_30 rfl ?_
  refine u_iadd (pc' := 32) dX10_on_31 rfl ?_
  refine u_iconst (pc' := 33) dX10_on_32 rfl ?_
  refine u_iadd (pc' := 34) dX10_on_33 rfl ?_
  refine s_istore_n (i := 2) (ls' := [some (vR 2), some (vI r2), some (vI (((2 * (τ1 o3 4)) + ((5 * (τ1 o7 3)) * (τ1 o11 2))) + 1)), none]) (pc' := 35) dX10_on_34 rfl rfl (Nat.le_of_ble_eq_true rfl) rfl rfl ?_
  refine u_aload_n (i := 0) (pc' := 36) dX10_on_35 rfl rfl rfl ?_
  obtain ⟨o15, z16, k17, h⟩ := h
  refine u_getD (a := o15) (pc' := 39) dX10_on_36 rfl fl_TuneDoor_16 rfl (by decide) kd_2 rfl (z16) ?_
  refine u_getI (z := (τ1 o15 0)) (pc' := 42) dX10_on_39 rfl fl_TuneDoor_116 rfl (by decide) (kHouse k17).1 k17 rfl (fun r18 => ?_)
  refine u_if_le (tgt := 98) (pc' := 45) dX10_on_42 rfl (by decide) r18 (fun hb => ?_) (fun hb => ?_)
  · have h := h.1 hb
    refine u_iconst (pc' := 99) dX10_on_98 rfl ?_
    refine s_istore_n (i := 3) (ls' := [some (vR 2), some (vI r2), some (vI (((2 * (τ1 o3 4)) + ((5 * (τ1 o7 3)) * (τ1 o11 2))) + 1)), some (vI 0)]) (pc' := 100) dX10_on_99 rfl rfl (Nat.le_of_ble_eq_true rfl) rfl rfl ?_
    refine u_iload_n (i := 3) (pc' := 101) dX10_on_100 rfl rfl rfl ?_
    refine u_if_ne (tgt := 116) (pc' := 104) dX10_on_101 rfl (by decide) ⟨by decide, by decide⟩ (fun hb => absurd hb (by decide)) (fun _ => ?_)
    refine u_aload_n (i := 0) (pc' := 105) dX10_on_104 rfl rfl rfl ?_
    refine u_getR (a := 139) (pc' := 108) dX10_on_105 rfl fl_TuneDoor_79 rfl (by decide) kd_2 rfl ?_
    refine u_iconst (pc' := 109) dX10_on_108 rfl ?_
    refine u_dup2 (pc' := 110) dX10_on_109 rfl (fun _ hh => by cases hh) (fun _ hh => by cases hh) ?_
    refine u_iaload (k := 5) (z := (τ1 139 5)) (pc' := 111) dX10_on_110 rfl (by decide) kd_139 (by decide) (by decide) (by decide) rfl rfl (fun r19 => ?_)
    refine u_iconst (pc' := 112) dX10_on_111 rfl ?_
    refine u_iadd (pc' := 113) dX10_on_112 rfl ?_
    obtain ⟨c20, h⟩ := h
    refine u_iastore (k := 5) (pc' := 114) dX10_on_113 rfl (by decide) kd_139 (by decide) (by decide) (by decide) rfl c20 ?_
    refine u_iconst (pc' := 115) dX10_on_114 rfl ?_
    exact u_zret (b := false) dX10_on_115 rfl rfl h
  · have h := h.2 hb
    refine u_iload_n (i := 1) (pc' := 46) dX10_on_45 rfl rfl rfl ?_
    refine u_iload_n (i := 2) (pc' := 47) dX10_on_46 rfl rfl rfl ?_
    obtain ⟨c21, c22, h⟩ := h
    refine u_icmp_ne (tgt := 98) (pc' := 50) dX10_on_47 rfl (by decide) c21 c22 (fun hb => ?_) (fun hb => ?_)
    · have h := h.1 hb
      refine u_iconst (pc' := 99) dX10_on_98 rfl ?_
      refine s_istore_n (i := 3) (ls' := [some (vR 2), some (vI r2), some (vI (((2 * (τ1 o3 4)) + ((5 * (τ1 o7 3)) * (τ1 o11 2))) + 1)), some (vI 0)]) (pc' := 100) dX10_on_99 rfl rfl (Nat.le_of_ble_eq_true rfl) rfl rfl ?_
      refine u_iload_n (i := 3) (pc' := 101) dX10_on_100 rfl rfl rfl ?_
      refine u_if_ne (tgt := 116) (pc' := 104) dX10_on_101 rfl (by decide) ⟨by decide, by decide⟩ (fun hb => absurd hb (by decide)) (fun _ => ?_)
      refine u_aload_n (i := 0) (pc' := 105) dX10_on_104 rfl rfl rfl ?_
      refine u_getR (a := 139) (pc' := 108) dX10_on_105 rfl fl_TuneDoor_79 rfl (by decide) kd_2 rfl ?_
      refine u_iconst (pc' := 109) dX10_on_108 rfl ?_
      refine u_dup2 (pc' := 110) dX10_on_109 rfl (fun _ hh => by cases hh) (fun _ hh => by cases hh) ?_
      refine u_iaload (k := 5) (z := (τ1 139 5)) (pc' := 111) dX10_on_110 rfl (by decide) kd_139 (by decide) (by decide) (by decide) rfl rfl (fun r23 => ?_)
      refine u_iconst (pc' := 112) dX10_on_111 rfl ?_
      refine u_iadd (pc' := 113) dX10_on_112 rfl ?_
      obtain ⟨c24, h⟩ := h
      refine u_iastore (k := 5) (pc' := 114) dX10_on_113 rfl (by decide) kd_139 (by decide) (by decide) (by decide) rfl c24 ?_
      refine u_iconst (pc' := 115) dX10_on_114 rfl ?_
      exact u_zret (b := false) dX10_on_115 rfl rfl h
    · have h := h.2 hb
      refine u_iload_n (i := 1) (pc' := 51) dX10_on_50 rfl rfl rfl ?_
      refine u_aload_n (i := 0) (pc' := 52) dX10_on_51 rfl rfl rfl ?_
      refine u_getR (a := 3) (pc' := 55) dX10_on_52 rfl fl_TuneDoor_9 rfl (by decide) kd_2 rfl ?_
      refine u_alen (t0 := 0) (pc' := 56) dX10_on_55 rfl (by decide) kd_3 (fun _ => rfl) ?_
      refine u_icmp_gt (tgt := 98) (pc' := 59) dX10_on_56 rfl (by decide) c21 ⟨by decide, by decide⟩ (fun hb => ?_) (fun hb => ?_)
      · have h := h.1 hb
        refine u_iconst (pc' := 99) dX10_on_98 rfl ?_
        refine s_istore_n (i := 3) (ls' := [some (vR 2), some (vI r2), some (vI (((2 * (τ1 o3 4)) + ((5 * (τ1 o7 3)) * (τ1 o11 2))) + 1)), some (vI 0)]) (pc' := 100) dX10_on_99 rfl rfl (Nat.le_of_ble_eq_true rfl) rfl rfl ?_
        refine u_iload_n (i := 3) (pc' := 101) dX10_on_100 rfl rfl rfl ?_
        refine u_if_ne (tgt := 116) (pc' := 104) dX10_on_101 rfl (by decide) ⟨by decide, by decide⟩ (fun hb => absurd hb (by decide)) (fun _ => ?_)
        refine u_aload_n (i := 0) (pc' := 105) dX10_on_104 rfl rfl rfl ?_
        refine u_getR (a := 139) (pc' := 108) dX10_on_105 rfl fl_TuneDoor_79 rfl (by decide) kd_2 rfl ?_
        refine u_iconst (pc' := 109) dX10_on_108 rfl ?_
        refine u_dup2 (pc' := 110) dX10_on_109 rfl (fun _ hh => by cases hh) (fun _ hh => by cases hh) ?_
        refine u_iaload (k := 5) (z := (τ1 139 5)) (pc' := 111) dX10_on_110 rfl (by decide) kd_139 (by decide) (by decide) (by decide) rfl rfl (fun r25 => ?_)
        refine u_iconst (pc' := 112) dX10_on_111 rfl ?_
        refine u_iadd (pc' := 113) dX10_on_112 rfl ?_
        obtain ⟨c26, h⟩ := h
        refine u_iastore (k := 5) (pc' := 114) dX10_on_113 rfl (by decide) kd_139 (by decide) (by decide) (by decide) rfl c26 ?_
        refine u_iconst (pc' := 115) dX10_on_114 rfl ?_
        exact u_zret (b := false) dX10_on_115 rfl rfl h
      · have h := h.2 hb
        refine u_aload_n (i := 0) (pc' := 60) dX10_on_59 rfl rfl rfl ?_
        refine u_getR (a := 3) (pc' := 63) dX10_on_60 rfl fl_TuneDoor_9 rfl (by decide) kd_2 rfl ?_
        refine u_iload_n (i := 1) (pc' := 64) dX10_on_63 rfl rfl rfl ?_
        refine u_iconst (pc' := 65) dX10_on_64 rfl ?_
        refine u_isub (pc' := 66) dX10_on_65 rfl ?_
        refine u_invS (q' := qX10_checkOf) (As := [vR 3, vI (r2 - 1)]) (st := []) (pc' := 69) dX10_on_66 rfl gX10_checkOf wm_1179 wm_1180 rfl (Nat.le_of_ble_eq_true rfl) (M0.mono h (fun v τ27 h => ?_))
        obtain ⟨r28, rfl, h⟩ := h
        show V0 E (d + 1) qX10_on 69 [some (vR 2), some (vI r2), some (vI (((2 * (τ1 o3 4)) + ((5 * (τ1 o7 3)) * (τ1 o11 2))) + 1)), none] [vI r28] τ27 Q
        refine u_aload_n (i := 0) (pc' := 70) dX10_on_69 rfl rfl rfl ?_
        refine u_getR (a := 3) (pc' := 73) dX10_on_70 rfl fl_TuneDoor_9 rfl (by decide) kd_2 rfl ?_
        refine u_iload_n (i := 1) (pc' := 74) dX10_on_73 rfl rfl rfl ?_
        refine u_iconst (pc' := 75) dX10_on_74 rfl ?_
        refine u_isub (pc' := 76) dX10_on_75 rfl ?_
        obtain ⟨c29, c30, h⟩ := h
        refine u_iaload (k := (r2 - 1).toNat) (z := (τ27 3 (r2 - 1).toNat)) (pc' := 77) dX10_on_76 rfl (by decide) kd_3 c29 c30 (by decide) rfl rfl (fun r31 => ?_)
        obtain ⟨c32, h⟩ := h
        refine u_icmp_ne (tgt := 98) (pc' := 80) dX10_on_77 rfl (by decide) c32 r31 (fun hb => ?_) (fun hb => ?_)
        · have h := h.1 hb
          refine u_iconst (pc' := 99) dX10_on_98 rfl ?_
          refine s_istore_n (i := 3) (ls' := [some (vR 2), some (vI r2), some (vI (((2 * (τ1 o3 4)) + ((5 * (τ1 o7 3)) * (τ1 o11 2))) + 1)), some (vI 0)]) (pc' := 100) dX10_on_99 rfl rfl (Nat.le_of_ble_eq_true rfl) rfl rfl ?_
          refine u_iload_n (i := 3) (pc' := 101) dX10_on_100 rfl rfl rfl ?_
          refine u_if_ne (tgt := 116) (pc' := 104) dX10_on_101 rfl (by decide) ⟨by decide, by decide⟩ (fun hb => absurd hb (by decide)) (fun _ => ?_)
          refine u_aload_n (i := 0) (pc' := 105) dX10_on_104 rfl rfl rfl ?_
          refine u_getR (a := 139) (pc' := 108) dX10_on_105 rfl fl_TuneDoor_79 rfl (by decide) kd_2 rfl ?_
          refine u_iconst (pc' := 109) dX10_on_108 rfl ?_
          refine u_dup2 (pc' := 110) dX10_on_109 rfl (fun _ hh => by cases hh) (fun _ hh => by cases hh) ?_
          refine u_iaload (k := 5) (z := (τ27 139 5)) (pc' := 111) dX10_on_110 rfl (by decide) kd_139 (by decide) (by decide) (by decide) rfl rfl (fun r33 => ?_)
          refine u_iconst (pc' := 112) dX10_on_111 rfl ?_
          refine u_iadd (pc' := 113) dX10_on_112 rfl ?_
          obtain ⟨c34, h⟩ := h
          refine u_iastore (k := 5) (pc' := 114) dX10_on_113 rfl (by decide) kd_139 (by decide) (by decide) (by decide) rfl c34 ?_
          refine u_iconst (pc' := 115) dX10_on_114 rfl ?_
          exact u_zret (b := false) dX10_on_115 rfl rfl h
        · have h := h.2 hb
          refine u_aload_n (i := 0) (pc' := 81) dX10_on_80 rfl rfl rfl ?_
          refine u_invV (q' := qX10_personsFit) (As := []) (st := []) (pc' := 84) dX10_on_81 rfl gX10_personsFit wm_1190 rfl rfl (by decide) kd_2 wm_1192 wp_66 rfl (Nat.le_of_ble_eq_true rfl) (M0.mono h (fun v τ35 h => ?_))
          obtain ⟨b36, rfl, h⟩ := h
          show V0 E (d + 1) qX10_on 84 [some (vR 2), some (vI r2), some (vI (((2 * (τ1 o3 4)) + ((5 * (τ1 o7 3)) * (τ1 o11 2))) + 1)), none] [vB b36] τ35 Q
          refine u_if_eq (tgt := 98) (pc' := 87) dX10_on_84 rfl (by decide) (bI_R _) (fun hb => ?_) (fun hb => ?_)
          · have h := h.1 (bI_0.mp hb)
            refine u_iconst (pc' := 99) dX10_on_98 rfl ?_
            refine s_istore_n (i := 3) (ls' := [some (vR 2), some (vI r2), some (vI (((2 * (τ1 o3 4)) + ((5 * (τ1 o7 3)) * (τ1 o11 2))) + 1)), some (vI 0)]) (pc' := 100) dX10_on_99 rfl rfl (Nat.le_of_ble_eq_true rfl) rfl rfl ?_
            refine u_iload_n (i := 3) (pc' := 101) dX10_on_100 rfl rfl rfl ?_
            refine u_if_ne (tgt := 116) (pc' := 104) dX10_on_101 rfl (by decide) ⟨by decide, by decide⟩ (fun hb => absurd hb (by decide)) (fun _ => ?_)
            refine u_aload_n (i := 0) (pc' := 105) dX10_on_104 rfl rfl rfl ?_
            refine u_getR (a := 139) (pc' := 108) dX10_on_105 rfl fl_TuneDoor_79 rfl (by decide) kd_2 rfl ?_
            refine u_iconst (pc' := 109) dX10_on_108 rfl ?_
            refine u_dup2 (pc' := 110) dX10_on_109 rfl (fun _ hh => by cases hh) (fun _ hh => by cases hh) ?_
            refine u_iaload (k := 5) (z := (τ35 139 5)) (pc' := 111) dX10_on_110 rfl (by decide) kd_139 (by decide) (by decide) (by decide) rfl rfl (fun r37 => ?_)
            refine u_iconst (pc' := 112) dX10_on_111 rfl ?_
            refine u_iadd (pc' := 113) dX10_on_112 rfl ?_
            obtain ⟨c38, h⟩ := h
            refine u_iastore (k := 5) (pc' := 114) dX10_on_113 rfl (by decide) kd_139 (by decide) (by decide) (by decide) rfl c38 ?_
            refine u_iconst (pc' := 115) dX10_on_114 rfl ?_
            exact u_zret (b := false) dX10_on_115 rfl rfl h
          · have h := h.2 (bI_n0.mp hb)
            refine u_aload_n (i := 0) (pc' := 88) dX10_on_87 rfl rfl rfl ?_
            refine u_invV (q' := qX10_earsFit) (As := []) (st := []) (pc' := 91) dX10_on_88 rfl gX10_earsFit wm_1198 rfl rfl (by decide) kd_2 wm_1200 wp_68 rfl (Nat.le_of_ble_eq_true rfl) (M0.mono h (fun v τ39 h => ?_))
            obtain ⟨b40, rfl, h⟩ := h
            show V0 E (d + 1) qX10_on 91 [some (vR 2), some (vI r2), some (vI (((2 * (τ1 o3 4)) + ((5 * (τ1 o7 3)) * (τ1 o11 2))) + 1)), none] [vB b40] τ39 Q
            refine u_if_eq (tgt := 98) (pc' := 94) dX10_on_91 rfl (by decide) (bI_R _) (fun hb => ?_) (fun hb => ?_)
            · have h := h.1 (bI_0.mp hb)
              refine u_iconst (pc' := 99) dX10_on_98 rfl ?_
              refine s_istore_n (i := 3) (ls' := [some (vR 2), some (vI r2), some (vI (((2 * (τ1 o3 4)) + ((5 * (τ1 o7 3)) * (τ1 o11 2))) + 1)), some (vI 0)]) (pc' := 100) dX10_on_99 rfl rfl (Nat.le_of_ble_eq_true rfl) rfl rfl ?_
              refine u_iload_n (i := 3) (pc' := 101) dX10_on_100 rfl rfl rfl ?_
              refine u_if_ne (tgt := 116) (pc' := 104) dX10_on_101 rfl (by decide) ⟨by decide, by decide⟩ (fun hb => absurd hb (by decide)) (fun _ => ?_)
              refine u_aload_n (i := 0) (pc' := 105) dX10_on_104 rfl rfl rfl ?_
              refine u_getR (a := 139) (pc' := 108) dX10_on_105 rfl fl_TuneDoor_79 rfl (by decide) kd_2 rfl ?_
              refine u_iconst (pc' := 109) dX10_on_108 rfl ?_
              refine u_dup2 (pc' := 110) dX10_on_109 rfl (fun _ hh => by cases hh) (fun _ hh => by cases hh) ?_
              refine u_iaload (k := 5) (z := (τ39 139 5)) (pc' := 111) dX10_on_110 rfl (by decide) kd_139 (by decide) (by decide) (by decide) rfl rfl (fun r41 => ?_)
              refine u_iconst (pc' := 112) dX10_on_111 rfl ?_
              refine u_iadd (pc' := 113) dX10_on_112 rfl ?_
              obtain ⟨c42, h⟩ := h
              refine u_iastore (k := 5) (pc' := 114) dX10_on_113 rfl (by decide) kd_139 (by decide) (by decide) (by decide) rfl c42 ?_
              refine u_iconst (pc' := 115) dX10_on_114 rfl ?_
              exact u_zret (b := false) dX10_on_115 rfl rfl h
            · have h := h.2 (bI_n0.mp hb)
              refine u_iconst (pc' := 95) dX10_on_94 rfl ?_
              refine u_goto (tgt := 99) dX10_on_95 (by decide) ?_
              refine s_istore_n (i := 3) (ls' := [some (vR 2), some (vI r2), some (vI (((2 * (τ1 o3 4)) + ((5 * (τ1 o7 3)) * (τ1 o11 2))) + 1)), some (vI 1)]) (pc' := 100) dX10_on_99 rfl rfl (Nat.le_of_ble_eq_true rfl) rfl rfl ?_
              refine u_iload_n (i := 3) (pc' := 101) dX10_on_100 rfl rfl rfl ?_
              refine u_if_ne (tgt := 116) (pc' := 104) dX10_on_101 rfl (by decide) ⟨by decide, by decide⟩ (fun _ => ?_) (fun hb => absurd hb (by decide))
              refine u_aload_n (i := 0) (pc' := 117) dX10_on_116 rfl rfl rfl ?_
              refine u_invV (q' := qX10_restore) (As := []) (st := []) (pc' := 120) dX10_on_117 rfl gX10_restore wm_1210 rfl rfl (by decide) kd_2 wm_1212 wp_71 rfl (Nat.le_of_ble_eq_true rfl) (M0.mono h (fun v τ43 h => ?_))
              obtain ⟨rfl, h⟩ := h
              show V0 E (d + 1) qX10_on 120 [some (vR 2), some (vI r2), some (vI (((2 * (τ1 o3 4)) + ((5 * (τ1 o7 3)) * (τ1 o11 2))) + 1)), some (vI 1)] [] τ43 Q
              refine u_iconst (pc' := 121) dX10_on_120 rfl ?_
              exact u_zret (b := true) dX10_on_121 rfl rfl h
theorem mX10_on {E : mm_Env} {d : Nat} {τ : mm_Mem} {Q : mm_Q0}  (h : M0 E d qX10_takeTape [vR 2] τ (fun v τ1 => ∃ r2 : Int, v = some (vI r2) ∧ ∃ o3 : Nat, (τ1 2 2) = (o3 : Int) ∧ KD o3 = some (.inr 2) ∧ ∃ o7 : Nat, (τ1 2 2) = (o7 : Int) ∧ KD o7 = some (.inr 2) ∧ ∃ o11 : Nat, (τ1 2 2) = (o11 : Int) ∧ KD o11 = some (.inr 2) ∧ ∃ o15 : Nat, (τ1 2 2) = (o15 : Int) ∧ KD o15 = some (.inr 2) ∧ (((τ1 o15 0) ≤ 0 → inR ((τ1 139 5) + 1) ∧ Q (some (vB false)) (wr τ1 139 5 ((τ1 139 5) + 1))) ∧ (¬ (τ1 o15 0) ≤ 0 → inR r2 ∧ inR (((2 * (τ1 o3 4)) + ((5 * (τ1 o7 3)) * (τ1 o11 2))) + 1) ∧ ((r2 ≠ (((2 * (τ1 o3 4)) + ((5 * (τ1 o7 3)) * (τ1 o11 2))) + 1) → inR ((τ1 139 5) + 1) ∧ Q (some (vB false)) (wr τ1 139 5 ((τ1 139 5) + 1))) ∧ (r2 = (((2 * (τ1 o3 4)) + ((5 * (τ1 o7 3)) * (τ1 o11 2))) + 1) → ((1600 < r2 → inR ((τ1 139 5) + 1) ∧ Q (some (vB false)) (wr τ1 139 5 ((τ1 139 5) + 1))) ∧ (¬ 1600 < r2 → M0 E d qX10_checkOf [vR 3, vI (r2 - 1)] τ1 (fun v τ27 => ∃ r28 : Int, v = some (vI r28) ∧ 0 ≤ (r2 - 1) ∧ (r2 - 1) < 1600 ∧ inR r28 ∧ ((r28 ≠ (τ27 3 (r2 - 1).toNat) → inR ((τ27 139 5) + 1) ∧ Q (some (vB false)) (wr τ27 139 5 ((τ27 139 5) + 1))) ∧ (r28 = (τ27 3 (r2 - 1).toNat) → M0 E d qX10_personsFit [vR 2] τ27 (fun v τ35 => ∃ b36 : Bool, v = some (vB b36) ∧ ((b36 = false → inR ((τ35 139 5) + 1) ∧ Q (some (vB false)) (wr τ35 139 5 ((τ35 139 5) + 1))) ∧ (b36 = true → M0 E d qX10_earsFit [vR 2] τ35 (fun v τ39 => ∃ b40 : Bool, v = some (vB b40) ∧ ((b40 = false → inR ((τ39 139 5) + 1) ∧ Q (some (vB false)) (wr τ39 139 5 ((τ39 139 5) + 1))) ∧ (b40 = true → M0 E d qX10_restore [vR 2] τ39 (fun v τ43 => v = none ∧ Q (some (vB true)) τ43)))))))))))))))))) : M0 E (d + 1) qX10_on [vR 2] τ Q := M0_of rfl (Nat.le_of_ble_eq_true rfl) [some (vR 2), none, none, none] rfl (bX10_on_0  h)
set_option maxRecDepth 20000 in
theorem bX10_personsFit_0 {E : mm_Env} {d : Nat} {τ : mm_Mem} {Q : mm_Q0}  (h : V0 E (d + 1) qX10_personsFit 2 [some (vR 2), some (vI 0)] [] τ Q) : V0 E (d + 1) qX10_personsFit 0 [some (vR 2), none] [] τ Q := by
  refine u_iconst (pc' := 1) dX10_personsFit_0 rfl ?_
  refine s_istore_n (i := 1) (ls' := [some (vR 2), some (vI 0)]) (pc' := 2) dX10_personsFit_1 rfl rfl (Nat.le_of_ble_eq_true rfl) rfl rfl ?_
  exact u_less (ls' := [some (vR 2), some (vI 0)]) ⟨rfl, ⟨rfl, trivial⟩⟩ h
theorem mX10_personsFit {E : mm_Env} {d : Nat} {τ : mm_Mem} {Q : mm_Q0}  (h : V0 E (d + 1) qX10_personsFit 2 [some (vR 2), some (vI 0)] [] τ Q) : M0 E (d + 1) qX10_personsFit [vR 2] τ Q := M0_of rfl (Nat.le_of_ble_eq_true rfl) [some (vR 2), none] rfl (bX10_personsFit_0  h)
set_option maxRecDepth 20000 in
theorem bX10_personsFit_2 {E : mm_Env} {d : Nat} {τ : mm_Mem} {Q : mm_Q0} {x1 : Int} (h : ∃ o1 : Nat, (τ 2 2) = (o1 : Int) ∧ KD o1 = some (.inr 2) ∧ inR x1 ∧ (((τ o1 4) ≤ x1 → Q (some (vB true)) τ) ∧ (¬ (τ o1 4) ≤ x1 → M0 E d qX10_tapedTwo [vR 2, vI (2 * x1)] τ (fun v τ6 => ∃ r7 : Int, v = some (vI r7) ∧ inR r7 ∧ ((r7 ≤ 1000 → V0 E (d + 1) qX10_personsFit 2 [some (vR 2), some (vI (x1 + 1))] [] τ6 Q) ∧ (¬ r7 ≤ 1000 → Q (some (vB false)) τ6)))))) : V0 E (d + 1) qX10_personsFit 2 [some (vR 2), some (vI x1)] [] τ Q := by
  refine u_iload_n (i := 1) (pc' := 3) dX10_personsFit_2 rfl rfl rfl ?_
  refine u_aload_n (i := 0) (pc' := 4) dX10_personsFit_3 rfl rfl rfl ?_
  obtain ⟨o1, z2, k3, h⟩ := h
  refine u_getD (a := o1) (pc' := 7) dX10_personsFit_4 rfl fl_TuneDoor_16 rfl (by decide) kd_2 rfl (z2) ?_
  refine u_getI (z := (τ o1 4)) (pc' := 10) dX10_personsFit_7 rfl fl_TuneDoor_128 rfl (by decide) (kHouse k3).1 k3 rfl (fun r4 => ?_)
  obtain ⟨c5, h⟩ := h
  refine u_icmp_ge (tgt := 34) (pc' := 13) dX10_personsFit_10 rfl (by decide) c5 r4 (fun hb => ?_) (fun hb => ?_)
  · have h := h.1 hb
    refine u_iconst (pc' := 35) dX10_personsFit_34 rfl ?_
    exact u_zret (b := true) dX10_personsFit_35 rfl rfl h
  · have h := h.2 hb
    refine u_aload_n (i := 0) (pc' := 14) dX10_personsFit_13 rfl rfl rfl ?_
    refine u_iconst (pc' := 15) dX10_personsFit_14 rfl ?_
    refine u_iload_n (i := 1) (pc' := 16) dX10_personsFit_15 rfl rfl rfl ?_
    refine u_imul (pc' := 17) dX10_personsFit_16 rfl ?_
    refine u_invV (q' := qX10_tapedTwo) (As := [vI (2 * x1)]) (st := []) (pc' := 20) dX10_personsFit_17 rfl gX10_tapedTwo wm_1194 rfl rfl (by decide) kd_2 wm_1196 wp_67 rfl (Nat.le_of_ble_eq_true rfl) (M0.mono h (fun v τ6 h => ?_))
    obtain ⟨r7, rfl, h⟩ := h
    show V0 E (d + 1) qX10_personsFit 20 [some (vR 2), some (vI x1)] [vI r7] τ6 Q
    refine u_sipush (pc' := 23) dX10_personsFit_20 rfl (by decide) ?_
    obtain ⟨c8, h⟩ := h
    refine u_icmp_le (tgt := 28) (pc' := 26) dX10_personsFit_23 rfl (by decide) c8 ⟨by decide, by decide⟩ (fun hb => ?_) (fun hb => ?_)
    · have h := h.1 hb
      refine s_iinc (i := 1) (ls' := [some (vR 2), some (vI (x1 + 1))]) (pc' := 31) dX10_personsFit_28 rfl rfl (Nat.le_of_ble_eq_true rfl) rfl rfl ?_
      refine u_goto (tgt := 2) dX10_personsFit_31 (by decide) ?_
      exact u_less (ls' := [some (vR 2), some (vI (x1 + 1))]) ⟨rfl, ⟨rfl, trivial⟩⟩ h
    · have h := h.2 hb
      refine u_iconst (pc' := 27) dX10_personsFit_26 rfl ?_
      exact u_zret (b := false) dX10_personsFit_27 rfl rfl h
set_option maxRecDepth 20000 in
theorem bX10_tapedTwo_0 {E : mm_Env} {d : Nat} {τ : mm_Mem} {Q : mm_Q0} {a0 : Int} (h : inR a0 ∧ ((a0 < 0 → Q (some (vI 0)) τ) ∧ (¬ a0 < 0 → inR (a0 + 1) ∧ (((a0 + 1) < 1600 → 0 ≤ a0 ∧ a0 < 1600 ∧ 0 ≤ (a0 + 1) ∧ (a0 + 1) < 1600 ∧ Q (some (vI (((τ 3 a0.toNat) * 256) + (τ 3 (a0 + 1).toNat)))) τ) ∧ (¬ (a0 + 1) < 1600 → Q (some (vI 0)) τ))))) : V0 E d qX10_tapedTwo 0 [some (vR 2), some (vI a0)] [] τ Q := by
  refine u_iload_n (i := 1) (pc' := 1) dX10_tapedTwo_0 rfl rfl rfl ?_
  obtain ⟨c1, h⟩ := h
  refine u_if_lt (tgt := 15) (pc' := 4) dX10_tapedTwo_1 rfl (by decide) c1 (fun hb => ?_) (fun hb => ?_)
  · have h := h.1 hb
    refine u_iconst (pc' := 16) dX10_tapedTwo_15 rfl ?_
    refine u_goto (tgt := 38) dX10_tapedTwo_16 (by decide) ?_
    exact u_iret dX10_tapedTwo_38 rfl h
  · have h := h.2 hb
    refine u_iload_n (i := 1) (pc' := 5) dX10_tapedTwo_4 rfl rfl rfl ?_
    refine u_iconst (pc' := 6) dX10_tapedTwo_5 rfl ?_
    refine u_iadd (pc' := 7) dX10_tapedTwo_6 rfl ?_
    refine u_aload_n (i := 0) (pc' := 8) dX10_tapedTwo_7 rfl rfl rfl ?_
    refine u_getR (a := 3) (pc' := 11) dX10_tapedTwo_8 rfl fl_TuneDoor_9 rfl (by decide) kd_2 rfl ?_
    refine u_alen (t0 := 0) (pc' := 12) dX10_tapedTwo_11 rfl (by decide) kd_3 (fun _ => rfl) ?_
    obtain ⟨c2, h⟩ := h
    refine u_icmp_lt (tgt := 19) (pc' := 15) dX10_tapedTwo_12 rfl (by decide) c2 ⟨by decide, by decide⟩ (fun hb => ?_) (fun hb => ?_)
    · have h := h.1 hb
      refine u_aload_n (i := 0) (pc' := 20) dX10_tapedTwo_19 rfl rfl rfl ?_
      refine u_getR (a := 3) (pc' := 23) dX10_tapedTwo_20 rfl fl_TuneDoor_9 rfl (by decide) kd_2 rfl ?_
      refine u_iload_n (i := 1) (pc' := 24) dX10_tapedTwo_23 rfl rfl rfl ?_
      obtain ⟨c3, c4, h⟩ := h
      refine u_iaload (k := a0.toNat) (z := (τ 3 a0.toNat)) (pc' := 25) dX10_tapedTwo_24 rfl (by decide) kd_3 c3 c4 (by decide) rfl rfl (fun r5 => ?_)
      refine u_sipush (pc' := 28) dX10_tapedTwo_25 rfl (by decide) ?_
      refine u_imul (pc' := 29) dX10_tapedTwo_28 rfl ?_
      refine u_aload_n (i := 0) (pc' := 30) dX10_tapedTwo_29 rfl rfl rfl ?_
      refine u_getR (a := 3) (pc' := 33) dX10_tapedTwo_30 rfl fl_TuneDoor_9 rfl (by decide) kd_2 rfl ?_
      refine u_iload_n (i := 1) (pc' := 34) dX10_tapedTwo_33 rfl rfl rfl ?_
      refine u_iconst (pc' := 35) dX10_tapedTwo_34 rfl ?_
      refine u_iadd (pc' := 36) dX10_tapedTwo_35 rfl ?_
      obtain ⟨c6, c7, h⟩ := h
      refine u_iaload (k := (a0 + 1).toNat) (z := (τ 3 (a0 + 1).toNat)) (pc' := 37) dX10_tapedTwo_36 rfl (by decide) kd_3 c6 c7 (by decide) rfl rfl (fun r8 => ?_)
      refine u_iadd (pc' := 38) dX10_tapedTwo_37 rfl ?_
      exact u_iret dX10_tapedTwo_38 rfl h
    · have h := h.2 hb
      refine u_iconst (pc' := 16) dX10_tapedTwo_15 rfl ?_
      refine u_goto (tgt := 38) dX10_tapedTwo_16 (by decide) ?_
      exact u_iret dX10_tapedTwo_38 rfl h
theorem mX10_tapedTwo {E : mm_Env} {d : Nat} {τ : mm_Mem} {Q : mm_Q0} {a0 : Int} (h : inR a0 ∧ ((a0 < 0 → Q (some (vI 0)) τ) ∧ (¬ a0 < 0 → inR (a0 + 1) ∧ (((a0 + 1) < 1600 → 0 ≤ a0 ∧ a0 < 1600 ∧ 0 ≤ (a0 + 1) ∧ (a0 + 1) < 1600 ∧ Q (some (vI (((τ 3 a0.toNat) * 256) + (τ 3 (a0 + 1).toNat)))) τ) ∧ (¬ (a0 + 1) < 1600 → Q (some (vI 0)) τ))))) : M0 E d qX10_tapedTwo [vR 2, vI a0] τ Q := M0_of rfl (Nat.le_of_ble_eq_true rfl) [some (vR 2), some (vI a0)] rfl (bX10_tapedTwo_0  h)
set_option maxRecDepth 20000 in
theorem bX10_earsFit_0 {E : mm_Env} {d : Nat} {τ : mm_Mem} {Q : mm_Q0}  (h : V0 E (d + 1) qX10_earsFit 2 [some (vR 2), some (vI 0), none, none] [] τ Q) : V0 E (d + 1) qX10_earsFit 0 [some (vR 2), none, none, none] [] τ Q := by
  refine u_iconst (pc' := 1) dX10_earsFit_0 rfl ?_
  refine s_istore_n (i := 1) (ls' := [some (vR 2), some (vI 0), none, none]) (pc' := 2) dX10_earsFit_1 rfl rfl (Nat.le_of_ble_eq_true rfl) rfl rfl ?_
  exact u_less (ls' := [some (vR 2), some (vI 0), none, none]) ⟨rfl, ⟨rfl, trivial⟩⟩ h
theorem mX10_earsFit {E : mm_Env} {d : Nat} {τ : mm_Mem} {Q : mm_Q0}  (h : V0 E (d + 1) qX10_earsFit 2 [some (vR 2), some (vI 0), none, none] [] τ Q) : M0 E (d + 1) qX10_earsFit [vR 2] τ Q := M0_of rfl (Nat.le_of_ble_eq_true rfl) [some (vR 2), none, none, none] rfl (bX10_earsFit_0  h)
set_option maxRecDepth 20000 in
theorem bX10_earsFit_2 {E : mm_Env} {d : Nat} {τ : mm_Mem} {Q : mm_Q0} {x1 : Int} (h : ∃ o1 : Nat, (τ 2 2) = (o1 : Int) ∧ KD o1 = some (.inr 2) ∧ inR x1 ∧ (((τ o1 3) ≤ x1 → Q (some (vB true)) τ) ∧ (¬ (τ o1 3) ≤ x1 → M0 E d qX10_doorAt [vR 2, vI x1] τ (fun v τ6 => ∃ o7 : Nat, v = some (vR o7) ∧ V0 E (d + 1) qX10_earsFit 21 [some (vR 2), some (vI x1), some (vR o7), some (vI 0)] [] τ6 Q)))) : V0 E (d + 1) qX10_earsFit 2 [some (vR 2), some (vI x1), none, none] [] τ Q := by
  refine u_iload_n (i := 1) (pc' := 3) dX10_earsFit_2 rfl rfl rfl ?_
  refine u_aload_n (i := 0) (pc' := 4) dX10_earsFit_3 rfl rfl rfl ?_
  obtain ⟨o1, z2, k3, h⟩ := h
  refine u_getD (a := o1) (pc' := 7) dX10_earsFit_4 rfl fl_TuneDoor_16 rfl (by decide) kd_2 rfl (z2) ?_
  refine u_getI (z := (τ o1 3)) (pc' := 10) dX10_earsFit_7 rfl fl_TuneDoor_125 rfl (by decide) (kHouse k3).1 k3 rfl (fun r4 => ?_)
  obtain ⟨c5, h⟩ := h
  refine u_icmp_ge (tgt := 65) (pc' := 13) dX10_earsFit_10 rfl (by decide) c5 r4 (fun hb => ?_) (fun hb => ?_)
  · have h := h.1 hb
    refine u_iconst (pc' := 66) dX10_earsFit_65 rfl ?_
    exact u_zret (b := true) dX10_earsFit_66 rfl rfl h
  · have h := h.2 hb
    refine u_aload_n (i := 0) (pc' := 14) dX10_earsFit_13 rfl rfl rfl ?_
    refine u_iload_n (i := 1) (pc' := 15) dX10_earsFit_14 rfl rfl rfl ?_
    refine u_invV (q' := qX10_doorAt) (As := [vI x1]) (st := []) (pc' := 18) dX10_earsFit_15 rfl gX10_doorAt wm_833 rfl rfl (by decide) kd_2 wm_835 wp_43 rfl (Nat.le_of_ble_eq_true rfl) (M0.mono h (fun v τ6 h => ?_))
    obtain ⟨o7, rfl, h⟩ := h
    show V0 E (d + 1) qX10_earsFit 18 [some (vR 2), some (vI x1), none, none] [vR o7] τ6 Q
    refine s_astore_n (i := 2) (ls' := [some (vR 2), some (vI x1), some (vR o7), none]) (pc' := 19) dX10_earsFit_18 rfl rfl (Nat.le_of_ble_eq_true rfl) rfl rfl ?_
    refine u_iconst (pc' := 20) dX10_earsFit_19 rfl ?_
    refine s_istore_n (i := 3) (ls' := [some (vR 2), some (vI x1), some (vR o7), some (vI 0)]) (pc' := 21) dX10_earsFit_20 rfl rfl (Nat.le_of_ble_eq_true rfl) rfl rfl ?_
    exact u_less (ls' := [some (vR 2), some (vI x1), some (vR o7), some (vI 0)]) ⟨rfl, ⟨rfl, ⟨rfl, ⟨rfl, trivial⟩⟩⟩⟩ h
set_option maxRecDepth 20000 in
theorem bX10_earsFit_21 {E : mm_Env} {d : Nat} {τ : mm_Mem} {Q : mm_Q0} {x1 : Int} {x2 : Nat} {x3 : Int} (h : ∃ o1 : Nat, (τ 2 2) = (o1 : Int) ∧ KD o1 = some (.inr 2) ∧ inR x3 ∧ (((τ o1 2) ≤ x3 → V0 E (d + 1) qX10_earsFit 2 [some (vR 2), some (vI (x1 + 1)), none, none] [] τ Q) ∧ (¬ (τ o1 2) ≤ x3 → ((x2 = 0 → V0 E (d + 1) qX10_earsFit 2 [some (vR 2), some (vI (x1 + 1)), none, none] [] τ Q) ∧ (¬ x2 = 0 → M0 E d qX10_earPlace [vR 2, vI x1, vI x3] τ (fun v τ6 => ∃ r7 : Int, v = some (vI r7) ∧ M0 E d qX10_earFits [vR 2, vR x2, vI x3, vI r7] τ6 (fun v τ8 => ∃ b9 : Bool, v = some (vB b9) ∧ ((b9 = true → V0 E (d + 1) qX10_earsFit 21 [some (vR 2), some (vI x1), some (vR x2), some (vI (x3 + 1))] [] τ8 Q) ∧ (b9 = false → Q (some (vB false)) τ8))))))))) : V0 E (d + 1) qX10_earsFit 21 [some (vR 2), some (vI x1), some (vR x2), some (vI x3)] [] τ Q := by
  refine u_iload_n (i := 3) (pc' := 22) dX10_earsFit_21 rfl rfl rfl ?_
  refine u_aload_n (i := 0) (pc' := 23) dX10_earsFit_22 rfl rfl rfl ?_
  obtain ⟨o1, z2, k3, h⟩ := h
  refine u_getD (a := o1) (pc' := 26) dX10_earsFit_23 rfl fl_TuneDoor_16 rfl (by decide) kd_2 rfl (z2) ?_
  refine u_getI (z := (τ o1 2)) (pc' := 29) dX10_earsFit_26 rfl fl_TuneDoor_122 rfl (by decide) (kHouse k3).1 k3 rfl (fun r4 => ?_)
  obtain ⟨c5, h⟩ := h
  refine u_icmp_ge (tgt := 59) (pc' := 32) dX10_earsFit_29 rfl (by decide) c5 r4 (fun hb => ?_) (fun hb => ?_)
  · have h := h.1 hb
    refine s_iinc (i := 1) (ls' := [some (vR 2), some (vI (x1 + 1)), some (vR x2), some (vI x3)]) (pc' := 62) dX10_earsFit_59 rfl rfl (Nat.le_of_ble_eq_true rfl) rfl rfl ?_
    refine u_goto (tgt := 2) dX10_earsFit_62 (by decide) ?_
    exact u_less (ls' := [some (vR 2), some (vI (x1 + 1)), none, none]) ⟨rfl, ⟨rfl, trivial⟩⟩ h
  · have h := h.2 hb
    refine u_aload_n (i := 2) (pc' := 33) dX10_earsFit_32 rfl rfl rfl ?_
    refine u_ifnull (tgt := 59) (pc' := 36) dX10_earsFit_33 rfl (by decide) (fun hb => ?_) (fun hb => ?_)
    · have h := h.1 hb
      refine s_iinc (i := 1) (ls' := [some (vR 2), some (vI (x1 + 1)), some (vR x2), some (vI x3)]) (pc' := 62) dX10_earsFit_59 rfl rfl (Nat.le_of_ble_eq_true rfl) rfl rfl ?_
      refine u_goto (tgt := 2) dX10_earsFit_62 (by decide) ?_
      exact u_less (ls' := [some (vR 2), some (vI (x1 + 1)), none, none]) ⟨rfl, ⟨rfl, trivial⟩⟩ h
    · have h := h.2 hb
      refine u_aload_n (i := 0) (pc' := 37) dX10_earsFit_36 rfl rfl rfl ?_
      refine u_aload_n (i := 2) (pc' := 38) dX10_earsFit_37 rfl rfl rfl ?_
      refine u_iload_n (i := 3) (pc' := 39) dX10_earsFit_38 rfl rfl rfl ?_
      refine u_aload_n (i := 0) (pc' := 40) dX10_earsFit_39 rfl rfl rfl ?_
      refine u_iload_n (i := 1) (pc' := 41) dX10_earsFit_40 rfl rfl rfl ?_
      refine u_iload_n (i := 3) (pc' := 42) dX10_earsFit_41 rfl rfl rfl ?_
      refine u_invV (q' := qX10_earPlace) (As := [vI x1, vI x3]) (st := [vI x3, vR x2, vR 2]) (pc' := 45) dX10_earsFit_42 rfl gX10_earPlace wm_1202 rfl rfl (by decide) kd_2 wm_1204 wp_69 rfl (Nat.le_of_ble_eq_true rfl) (M0.mono h (fun v τ6 h => ?_))
      obtain ⟨r7, rfl, h⟩ := h
      show V0 E (d + 1) qX10_earsFit 45 [some (vR 2), some (vI x1), some (vR x2), some (vI x3)] [vI r7, vI x3, vR x2, vR 2] τ6 Q
      refine u_invV (q' := qX10_earFits) (As := [vR x2, vI x3, vI r7]) (st := []) (pc' := 48) dX10_earsFit_45 rfl gX10_earFits wm_1206 rfl rfl (by decide) kd_2 wm_1208 wp_70 rfl (Nat.le_of_ble_eq_true rfl) (M0.mono h (fun v τ8 h => ?_))
      obtain ⟨b9, rfl, h⟩ := h
      show V0 E (d + 1) qX10_earsFit 48 [some (vR 2), some (vI x1), some (vR x2), some (vI x3)] [vB b9] τ8 Q
      refine u_if_ne (tgt := 53) (pc' := 51) dX10_earsFit_48 rfl (by decide) (bI_R _) (fun hb => ?_) (fun hb => ?_)
      · have h := h.1 (bI_n0.mp hb)
        refine s_iinc (i := 3) (ls' := [some (vR 2), some (vI x1), some (vR x2), some (vI (x3 + 1))]) (pc' := 56) dX10_earsFit_53 rfl rfl (Nat.le_of_ble_eq_true rfl) rfl rfl ?_
        refine u_goto (tgt := 21) dX10_earsFit_56 (by decide) ?_
        exact u_less (ls' := [some (vR 2), some (vI x1), some (vR x2), some (vI (x3 + 1))]) ⟨rfl, ⟨rfl, ⟨rfl, ⟨rfl, trivial⟩⟩⟩⟩ h
      · have h := h.2 (bI_0.mp hb)
        refine u_iconst (pc' := 52) dX10_earsFit_51 rfl ?_
        exact u_zret (b := false) dX10_earsFit_52 rfl rfl h
set_option maxRecDepth 20000 in
theorem bX10_earPlace_0 {E : mm_Env} {d : Nat} {τ : mm_Mem} {Q : mm_Q0} {a0 : Int} {a1 : Int} (h : ∃ o1 : Nat, (τ 2 2) = (o1 : Int) ∧ KD o1 = some (.inr 2) ∧ ∃ o5 : Nat, (τ 2 2) = (o5 : Int) ∧ KD o5 = some (.inr 2) ∧ Q (some (vI ((2 * (τ o1 4)) + (5 * ((a0 * (τ o5 2)) + a1))))) τ) : V0 E d qX10_earPlace 0 [some (vR 2), some (vI a0), some (vI a1)] [] τ Q := by
  refine u_iconst (pc' := 1) dX10_earPlace_0 rfl ?_
  refine u_aload_n (i := 0) (pc' := 2) dX10_earPlace_1 rfl rfl rfl ?_
  obtain ⟨o1, z2, k3, h⟩ := h
  refine u_getD (a := o1) (pc' := 5) dX10_earPlace_2 rfl fl_TuneDoor_16 rfl (by decide) kd_2 rfl (z2) ?_
  refine u_getI (z := (τ o1 4)) (pc' := 8) dX10_earPlace_5 rfl fl_TuneDoor_128 rfl (by decide) (kHouse k3).1 k3 rfl (fun r4 => ?_)
  refine u_imul (pc' := 9) dX10_earPlace_8 rfl ?_
  refine u_iconst (pc' := 10) dX10_earPlace_9 rfl ?_
  refine u_iload_n (i := 1) (pc' := 11) dX10_earPlace_10 rfl rfl rfl ?_
  refine u_aload_n (i := 0) (pc' := 12) dX10_earPlace_11 rfl rfl rfl ?_
  obtain ⟨o5, z6, k7, h⟩ := h
  refine u_getD (a := o5) (pc' := 15) dX10_earPlace_12 rfl fl_TuneDoor_16 rfl (by decide) kd_2 rfl (z6) ?_
  refine u_getI (z := (τ o5 2)) (pc' := 18) dX10_earPlace_15 rfl fl_TuneDoor_122 rfl (by decide) (kHouse k7).1 k7 rfl (fun r8 => ?_)
  refine u_imul (pc' := 19) dX10_earPlace_18 rfl ?_
  refine u_iload_n (i := 2) (pc' := 20) dX10_earPlace_19 rfl rfl rfl ?_
  refine u_iadd (pc' := 21) dX10_earPlace_20 rfl ?_
  refine u_imul (pc' := 22) dX10_earPlace_21 rfl ?_
  refine u_iadd (pc' := 23) dX10_earPlace_22 rfl ?_
  exact u_iret dX10_earPlace_23 rfl h
theorem mX10_earPlace {E : mm_Env} {d : Nat} {τ : mm_Mem} {Q : mm_Q0} {a0 : Int} {a1 : Int} (h : ∃ o1 : Nat, (τ 2 2) = (o1 : Int) ∧ KD o1 = some (.inr 2) ∧ ∃ o5 : Nat, (τ 2 2) = (o5 : Int) ∧ KD o5 = some (.inr 2) ∧ Q (some (vI ((2 * (τ o1 4)) + (5 * ((a0 * (τ o5 2)) + a1))))) τ) : M0 E d qX10_earPlace [vR 2, vI a0, vI a1] τ Q := M0_of rfl (Nat.le_of_ble_eq_true rfl) [some (vR 2), some (vI a0), some (vI a1)] rfl (bX10_earPlace_0  h)
set_option maxRecDepth 20000 in
theorem bX10_earFits_0 {E : mm_Env} {d : Nat} {τ : mm_Mem} {Q : mm_Q0} {a0 : Nat} {a1 : Int} {a2 : Int} (k_a0 : KD a0 = some (.inr 0)) (h : M0 E d qX10_tapedTwo [vR 2, vI a2] τ (fun v τ1 => ∃ r2 : Int, v = some (vI r2) ∧ M0 E d qX10_tapedTwo [vR 2, vI (a2 + 2)] τ1 (fun v τ3 => ∃ r4 : Int, v = some (vI r4) ∧ M0 E d qX0_hasEar [vR a0, vI a1] τ3 (fun v τ5 => ∃ b6 : Bool, v = some (vB b6) ∧ ((b6 = true → inR r2 ∧ ((1000 < r2 → Q (some (vB false)) τ5) ∧ (¬ 1000 < r2 → (((τ5 a0 1) ≠ 2 → inR r4 ∧ ((0 < r4 → Q (some (vB false)) τ5) ∧ (¬ 0 < r4 → Q (some (vB true)) τ5))) ∧ ((τ5 a0 1) = 2 → inR r4 ∧ ((1000 < r4 → Q (some (vB false)) τ5) ∧ (¬ 1000 < r4 → Q (some (vB true)) τ5))))))) ∧ (b6 = false → inR r2 ∧ ((r2 ≠ 0 → Q (some (vB false)) τ5) ∧ (r2 = 0 → inR r4 ∧ ((r4 ≠ 0 → Q (some (vB false)) τ5) ∧ (r4 = 0 → M0 E d qX10_tapedTwo [vR 2, vI (a2 + 3)] τ5 (fun v τ13 => ∃ r14 : Int, v = some (vI r14) ∧ inR r14 ∧ ((r14 ≠ 0 → Q (some (vB false)) τ13) ∧ (r14 = 0 → Q (some (vB true)) τ13))))))))))))) : V0 E (d + 1) qX10_earFits 0 [some (vR 2), some (vR a0), some (vI a1), some (vI a2), none, none] [] τ Q := by
  refine u_aload_n (i := 0) (pc' := 1) dX10_earFits_0 rfl rfl rfl ?_
  refine u_iload_n (i := 3) (pc' := 2) dX10_earFits_1 rfl rfl rfl ?_
  refine u_invV (q' := qX10_tapedTwo) (As := [vI a2]) (st := []) (pc' := 5) dX10_earFits_2 rfl gX10_tapedTwo wm_1194 rfl rfl (by decide) kd_2 wm_1196 wp_67 rfl (Nat.le_of_ble_eq_true rfl) (M0.mono h (fun v τ1 h => ?_))
  obtain ⟨r2, rfl, h⟩ := h
  show V0 E (d + 1) qX10_earFits 5 [some (vR 2), some (vR a0), some (vI a1), some (vI a2), none, none] [vI r2] τ1 Q
  refine s_istore (i := 4) (ls' := [some (vR 2), some (vR a0), some (vI a1), some (vI a2), some (vI r2), none]) (pc' := 7) dX10_earFits_5 rfl (Nat.le_of_ble_eq_true rfl) rfl rfl ?_
  refine u_aload_n (i := 0) (pc' := 8) dX10_earFits_7 rfl rfl rfl ?_
  refine u_iload_n (i := 3) (pc' := 9) dX10_earFits_8 rfl rfl rfl ?_
  refine u_iconst (pc' := 10) dX10_earFits_9 rfl ?_
  refine u_iadd (pc' := 11) dX10_earFits_10 rfl ?_
  refine u_invV (q' := qX10_tapedTwo) (As := [vI (a2 + 2)]) (st := []) (pc' := 14) dX10_earFits_11 rfl gX10_tapedTwo wm_1194 rfl rfl (by decide) kd_2 wm_1196 wp_67 rfl (Nat.le_of_ble_eq_true rfl) (M0.mono h (fun v τ3 h => ?_))
  obtain ⟨r4, rfl, h⟩ := h
  show V0 E (d + 1) qX10_earFits 14 [some (vR 2), some (vR a0), some (vI a1), some (vI a2), some (vI r2), none] [vI r4] τ3 Q
  refine s_istore (i := 5) (ls' := [some (vR 2), some (vR a0), some (vI a1), some (vI a2), some (vI r2), some (vI r4)]) (pc' := 16) dX10_earFits_14 rfl (Nat.le_of_ble_eq_true rfl) rfl rfl ?_
  refine u_aload_n (i := 1) (pc' := 17) dX10_earFits_16 rfl rfl rfl ?_
  refine u_iload_n (i := 2) (pc' := 18) dX10_earFits_17 rfl rfl rfl ?_
  refine u_invV (q' := qX0_hasEar) (As := [vI a1]) (st := []) (pc' := 21) dX10_earFits_18 rfl gX0_hasEar wm_896 rfl rfl (kDoor k_a0).1 k_a0 wm_897 wm_898 rfl (Nat.le_of_ble_eq_true rfl) (M0.mono h (fun v τ5 h => ?_))
  obtain ⟨b6, rfl, h⟩ := h
  show V0 E (d + 1) qX10_earFits 21 [some (vR 2), some (vR a0), some (vI a1), some (vI a2), some (vI r2), some (vI r4)] [vB b6] τ5 Q
  refine u_if_ne (tgt := 50) (pc' := 24) dX10_earFits_21 rfl (by decide) (bI_R _) (fun hb => ?_) (fun hb => ?_)
  · have h := h.1 (bI_n0.mp hb)
    refine u_iload (i := 4) (pc' := 52) dX10_earFits_50 rfl rfl ?_
    refine u_sipush (pc' := 55) dX10_earFits_52 rfl (by decide) ?_
    obtain ⟨c7, h⟩ := h
    refine u_icmp_gt (tgt := 82) (pc' := 58) dX10_earFits_55 rfl (by decide) c7 ⟨by decide, by decide⟩ (fun hb => ?_) (fun hb => ?_)
    · have h := h.1 hb
      refine u_iconst (pc' := 83) dX10_earFits_82 rfl ?_
      exact u_zret (b := false) dX10_earFits_83 rfl rfl h
    · have h := h.2 hb
      refine u_iload (i := 5) (pc' := 60) dX10_earFits_58 rfl rfl ?_
      refine u_aload_n (i := 1) (pc' := 61) dX10_earFits_60 rfl rfl rfl ?_
      refine u_getI (z := (τ5 a0 1)) (pc' := 64) dX10_earFits_61 rfl fl_TuneDoor_180 rfl (by decide) (kDoor k_a0).1 k_a0 rfl (fun r8 => ?_)
      refine u_iconst (pc' := 65) dX10_earFits_64 rfl ?_
      refine u_icmp_ne (tgt := 74) (pc' := 68) dX10_earFits_65 rfl (by decide) r8 ⟨by decide, by decide⟩ (fun hb => ?_) (fun hb => ?_)
      · have h := h.1 hb
        refine u_iconst (pc' := 75) dX10_earFits_74 rfl ?_
        obtain ⟨c9, h⟩ := h
        refine u_icmp_gt (tgt := 82) (pc' := 78) dX10_earFits_75 rfl (by decide) c9 ⟨by decide, by decide⟩ (fun hb => ?_) (fun hb => ?_)
        · have h := h.1 hb
          refine u_iconst (pc' := 83) dX10_earFits_82 rfl ?_
          exact u_zret (b := false) dX10_earFits_83 rfl rfl h
        · have h := h.2 hb
          refine u_iconst (pc' := 79) dX10_earFits_78 rfl ?_
          refine u_goto (tgt := 83) dX10_earFits_79 (by decide) ?_
          exact u_zret (b := true) dX10_earFits_83 rfl rfl h
      · have h := h.2 hb
        refine u_sipush (pc' := 71) dX10_earFits_68 rfl (by decide) ?_
        refine u_goto (tgt := 75) dX10_earFits_71 (by decide) ?_
        obtain ⟨c10, h⟩ := h
        refine u_icmp_gt (tgt := 82) (pc' := 78) dX10_earFits_75 rfl (by decide) c10 ⟨by decide, by decide⟩ (fun hb => ?_) (fun hb => ?_)
        · have h := h.1 hb
          refine u_iconst (pc' := 83) dX10_earFits_82 rfl ?_
          exact u_zret (b := false) dX10_earFits_83 rfl rfl h
        · have h := h.2 hb
          refine u_iconst (pc' := 79) dX10_earFits_78 rfl ?_
          refine u_goto (tgt := 83) dX10_earFits_79 (by decide) ?_
          exact u_zret (b := true) dX10_earFits_83 rfl rfl h
  · have h := h.2 (bI_0.mp hb)
    refine u_iload (i := 4) (pc' := 26) dX10_earFits_24 rfl rfl ?_
    obtain ⟨c11, h⟩ := h
    refine u_if_ne (tgt := 48) (pc' := 29) dX10_earFits_26 rfl (by decide) c11 (fun hb => ?_) (fun hb => ?_)
    · have h := h.1 hb
      refine u_iconst (pc' := 49) dX10_earFits_48 rfl ?_
      exact u_zret (b := false) dX10_earFits_49 rfl rfl h
    · have h := h.2 hb
      refine u_iload (i := 5) (pc' := 31) dX10_earFits_29 rfl rfl ?_
      obtain ⟨c12, h⟩ := h
      refine u_if_ne (tgt := 48) (pc' := 34) dX10_earFits_31 rfl (by decide) c12 (fun hb => ?_) (fun hb => ?_)
      · have h := h.1 hb
        refine u_iconst (pc' := 49) dX10_earFits_48 rfl ?_
        exact u_zret (b := false) dX10_earFits_49 rfl rfl h
      · have h := h.2 hb
        refine u_aload_n (i := 0) (pc' := 35) dX10_earFits_34 rfl rfl rfl ?_
        refine u_iload_n (i := 3) (pc' := 36) dX10_earFits_35 rfl rfl rfl ?_
        refine u_iconst (pc' := 37) dX10_earFits_36 rfl ?_
        refine u_iadd (pc' := 38) dX10_earFits_37 rfl ?_
        refine u_invV (q' := qX10_tapedTwo) (As := [vI (a2 + 3)]) (st := []) (pc' := 41) dX10_earFits_38 rfl gX10_tapedTwo wm_1194 rfl rfl (by decide) kd_2 wm_1196 wp_67 rfl (Nat.le_of_ble_eq_true rfl) (M0.mono h (fun v τ13 h => ?_))
        obtain ⟨r14, rfl, h⟩ := h
        show V0 E (d + 1) qX10_earFits 41 [some (vR 2), some (vR a0), some (vI a1), some (vI a2), some (vI r2), some (vI r4)] [vI r14] τ13 Q
        obtain ⟨c15, h⟩ := h
        refine u_if_ne (tgt := 48) (pc' := 44) dX10_earFits_41 rfl (by decide) c15 (fun hb => ?_) (fun hb => ?_)
        · have h := h.1 hb
          refine u_iconst (pc' := 49) dX10_earFits_48 rfl ?_
          exact u_zret (b := false) dX10_earFits_49 rfl rfl h
        · have h := h.2 hb
          refine u_iconst (pc' := 45) dX10_earFits_44 rfl ?_
          refine u_goto (tgt := 49) dX10_earFits_45 (by decide) ?_
          exact u_zret (b := true) dX10_earFits_49 rfl rfl h
theorem mX10_earFits {E : mm_Env} {d : Nat} {τ : mm_Mem} {Q : mm_Q0} {a0 : Nat} {a1 : Int} {a2 : Int} (k_a0 : KD a0 = some (.inr 0)) (h : M0 E d qX10_tapedTwo [vR 2, vI a2] τ (fun v τ1 => ∃ r2 : Int, v = some (vI r2) ∧ M0 E d qX10_tapedTwo [vR 2, vI (a2 + 2)] τ1 (fun v τ3 => ∃ r4 : Int, v = some (vI r4) ∧ M0 E d qX0_hasEar [vR a0, vI a1] τ3 (fun v τ5 => ∃ b6 : Bool, v = some (vB b6) ∧ ((b6 = true → inR r2 ∧ ((1000 < r2 → Q (some (vB false)) τ5) ∧ (¬ 1000 < r2 → (((τ5 a0 1) ≠ 2 → inR r4 ∧ ((0 < r4 → Q (some (vB false)) τ5) ∧ (¬ 0 < r4 → Q (some (vB true)) τ5))) ∧ ((τ5 a0 1) = 2 → inR r4 ∧ ((1000 < r4 → Q (some (vB false)) τ5) ∧ (¬ 1000 < r4 → Q (some (vB true)) τ5))))))) ∧ (b6 = false → inR r2 ∧ ((r2 ≠ 0 → Q (some (vB false)) τ5) ∧ (r2 = 0 → inR r4 ∧ ((r4 ≠ 0 → Q (some (vB false)) τ5) ∧ (r4 = 0 → M0 E d qX10_tapedTwo [vR 2, vI (a2 + 3)] τ5 (fun v τ13 => ∃ r14 : Int, v = some (vI r14) ∧ inR r14 ∧ ((r14 ≠ 0 → Q (some (vB false)) τ13) ∧ (r14 = 0 → Q (some (vB true)) τ13))))))))))))) : M0 E (d + 1) qX10_earFits [vR 2, vR a0, vI a1, vI a2] τ Q := M0_of rfl (Nat.le_of_ble_eq_true rfl) [some (vR 2), some (vR a0), some (vI a1), some (vI a2), none, none] rfl (bX10_earFits_0 k_a0 h)
set_option maxRecDepth 20000 in
theorem bX10_restore_0 {E : mm_Env} {d : Nat} {τ : mm_Mem} {Q : mm_Q0}  (h : V0 E (d + 1) qX10_restore 2 [some (vR 2), some (vI 0), none, none, none] [] τ Q) : V0 E (d + 1) qX10_restore 0 [some (vR 2), none, none, none, none] [] τ Q := by
  refine u_iconst (pc' := 1) dX10_restore_0 rfl ?_
  refine s_istore_n (i := 1) (ls' := [some (vR 2), some (vI 0), none, none, none]) (pc' := 2) dX10_restore_1 rfl rfl (Nat.le_of_ble_eq_true rfl) rfl rfl ?_
  exact u_less (ls' := [some (vR 2), some (vI 0), none, none, none]) ⟨rfl, ⟨rfl, trivial⟩⟩ h
theorem mX10_restore {E : mm_Env} {d : Nat} {τ : mm_Mem} {Q : mm_Q0}  (h : V0 E (d + 1) qX10_restore 2 [some (vR 2), some (vI 0), none, none, none] [] τ Q) : M0 E (d + 1) qX10_restore [vR 2] τ Q := M0_of rfl (Nat.le_of_ble_eq_true rfl) [some (vR 2), none, none, none, none] rfl (bX10_restore_0  h)
set_option maxRecDepth 20000 in
theorem bX10_restore_2 {E : mm_Env} {d : Nat} {τ : mm_Mem} {Q : mm_Q0} {x1 : Int} (h : ∃ o1 : Nat, (τ 2 2) = (o1 : Int) ∧ KD o1 = some (.inr 2) ∧ inR x1 ∧ (((τ o1 4) ≤ x1 → V0 E (d + 1) qX10_restore 42 [some (vR 2), some (vI 0), none, none, none] [] τ Q) ∧ (¬ (τ o1 4) ≤ x1 → M0 E d qX10_personAt [vR 2, vI x1] τ (fun v τ6 => ∃ o7 : Nat, v = some (vR o7) ∧ ((o7 = 0 → V0 E (d + 1) qX10_restore 2 [some (vR 2), some (vI (x1 + 1)), none, none, none] [] τ6 Q) ∧ (¬ o7 = 0 → M0 E d qX10_tapedTwo [vR 2, vI (2 * x1)] τ6 (fun v τ8 => ∃ r9 : Int, v = some (vI r9) ∧ KD o7 = some (.inr 3) ∧ inR r9 ∧ V0 E (d + 1) qX10_restore 2 [some (vR 2), some (vI (x1 + 1)), none, none, none] [] (wr τ8 o7 5 r9) Q))))))) : V0 E (d + 1) qX10_restore 2 [some (vR 2), some (vI x1), none, none, none] [] τ Q := by
  refine u_iload_n (i := 1) (pc' := 3) dX10_restore_2 rfl rfl rfl ?_
  refine u_aload_n (i := 0) (pc' := 4) dX10_restore_3 rfl rfl rfl ?_
  obtain ⟨o1, z2, k3, h⟩ := h
  refine u_getD (a := o1) (pc' := 7) dX10_restore_4 rfl fl_TuneDoor_16 rfl (by decide) kd_2 rfl (z2) ?_
  refine u_getI (z := (τ o1 4)) (pc' := 10) dX10_restore_7 rfl fl_TuneDoor_128 rfl (by decide) (kHouse k3).1 k3 rfl (fun r4 => ?_)
  obtain ⟨c5, h⟩ := h
  refine u_icmp_ge (tgt := 40) (pc' := 13) dX10_restore_10 rfl (by decide) c5 r4 (fun hb => ?_) (fun hb => ?_)
  · have h := h.1 hb
    refine u_iconst (pc' := 41) dX10_restore_40 rfl ?_
    refine s_istore_n (i := 1) (ls' := [some (vR 2), some (vI 0), none, none, none]) (pc' := 42) dX10_restore_41 rfl rfl (Nat.le_of_ble_eq_true rfl) rfl rfl ?_
    exact u_less (ls' := [some (vR 2), some (vI 0), none, none, none]) ⟨rfl, ⟨rfl, trivial⟩⟩ h
  · have h := h.2 hb
    refine u_aload_n (i := 0) (pc' := 14) dX10_restore_13 rfl rfl rfl ?_
    refine u_iload_n (i := 1) (pc' := 15) dX10_restore_14 rfl rfl rfl ?_
    refine u_invV (q' := qX10_personAt) (As := [vI x1]) (st := []) (pc' := 18) dX10_restore_15 rfl gX10_personAt wm_837 rfl rfl (by decide) kd_2 wm_839 wp_44 rfl (Nat.le_of_ble_eq_true rfl) (M0.mono h (fun v τ6 h => ?_))
    obtain ⟨o7, rfl, h⟩ := h
    show V0 E (d + 1) qX10_restore 18 [some (vR 2), some (vI x1), none, none, none] [vR o7] τ6 Q
    refine s_astore_n (i := 2) (ls' := [some (vR 2), some (vI x1), some (vR o7), none, none]) (pc' := 19) dX10_restore_18 rfl rfl (Nat.le_of_ble_eq_true rfl) rfl rfl ?_
    refine u_aload_n (i := 2) (pc' := 20) dX10_restore_19 rfl rfl rfl ?_
    refine u_ifnull (tgt := 34) (pc' := 23) dX10_restore_20 rfl (by decide) (fun hb => ?_) (fun hb => ?_)
    · have h := h.1 hb
      refine s_iinc (i := 1) (ls' := [some (vR 2), some (vI (x1 + 1)), some (vR o7), none, none]) (pc' := 37) dX10_restore_34 rfl rfl (Nat.le_of_ble_eq_true rfl) rfl rfl ?_
      refine u_goto (tgt := 2) dX10_restore_37 (by decide) ?_
      exact u_less (ls' := [some (vR 2), some (vI (x1 + 1)), none, none, none]) ⟨rfl, ⟨rfl, trivial⟩⟩ h
    · have h := h.2 hb
      refine u_aload_n (i := 2) (pc' := 24) dX10_restore_23 rfl rfl rfl ?_
      refine u_aload_n (i := 0) (pc' := 25) dX10_restore_24 rfl rfl rfl ?_
      refine u_iconst (pc' := 26) dX10_restore_25 rfl ?_
      refine u_iload_n (i := 1) (pc' := 27) dX10_restore_26 rfl rfl rfl ?_
      refine u_imul (pc' := 28) dX10_restore_27 rfl ?_
      refine u_invV (q' := qX10_tapedTwo) (As := [vI (2 * x1)]) (st := [vR o7]) (pc' := 31) dX10_restore_28 rfl gX10_tapedTwo wm_1194 rfl rfl (by decide) kd_2 wm_1196 wp_67 rfl (Nat.le_of_ble_eq_true rfl) (M0.mono h (fun v τ8 h => ?_))
      obtain ⟨r9, rfl, h⟩ := h
      show V0 E (d + 1) qX10_restore 31 [some (vR 2), some (vI x1), some (vR o7), none, none] [vI r9, vR o7] τ8 Q
      obtain ⟨k10, c11, h⟩ := h
      refine u_putI (pc' := 34) dX10_restore_31 rfl fl_TuneDoor_196 rfl rfl (by decide) (kPerson k10) k10 c11 ?_
      refine s_iinc (i := 1) (ls' := [some (vR 2), some (vI (x1 + 1)), some (vR o7), none, none]) (pc' := 37) dX10_restore_34 rfl rfl (Nat.le_of_ble_eq_true rfl) rfl rfl ?_
      refine u_goto (tgt := 2) dX10_restore_37 (by decide) ?_
      exact u_less (ls' := [some (vR 2), some (vI (x1 + 1)), none, none, none]) ⟨rfl, ⟨rfl, trivial⟩⟩ h
set_option maxRecDepth 20000 in
theorem bX10_restore_42 {E : mm_Env} {d : Nat} {τ : mm_Mem} {Q : mm_Q0} {x1 : Int} (h : ∃ o1 : Nat, (τ 2 2) = (o1 : Int) ∧ KD o1 = some (.inr 2) ∧ inR x1 ∧ (((τ o1 3) ≤ x1 → Q none τ) ∧ (¬ (τ o1 3) ≤ x1 → M0 E d qX10_doorAt [vR 2, vI x1] τ (fun v τ6 => ∃ o7 : Nat, v = some (vR o7) ∧ V0 E (d + 1) qX10_restore 61 [some (vR 2), some (vI x1), some (vR o7), some (vI 0), none] [] τ6 Q)))) : V0 E (d + 1) qX10_restore 42 [some (vR 2), some (vI x1), none, none, none] [] τ Q := by
  refine u_iload_n (i := 1) (pc' := 43) dX10_restore_42 rfl rfl rfl ?_
  refine u_aload_n (i := 0) (pc' := 44) dX10_restore_43 rfl rfl rfl ?_
  obtain ⟨o1, z2, k3, h⟩ := h
  refine u_getD (a := o1) (pc' := 47) dX10_restore_44 rfl fl_TuneDoor_16 rfl (by decide) kd_2 rfl (z2) ?_
  refine u_getI (z := (τ o1 3)) (pc' := 50) dX10_restore_47 rfl fl_TuneDoor_125 rfl (by decide) (kHouse k3).1 k3 rfl (fun r4 => ?_)
  obtain ⟨c5, h⟩ := h
  refine u_icmp_ge (tgt := 142) (pc' := 53) dX10_restore_50 rfl (by decide) c5 r4 (fun hb => ?_) (fun hb => ?_)
  · have h := h.1 hb
    exact u_ret dX10_restore_142 rfl h
  · have h := h.2 hb
    refine u_aload_n (i := 0) (pc' := 54) dX10_restore_53 rfl rfl rfl ?_
    refine u_iload_n (i := 1) (pc' := 55) dX10_restore_54 rfl rfl rfl ?_
    refine u_invV (q' := qX10_doorAt) (As := [vI x1]) (st := []) (pc' := 58) dX10_restore_55 rfl gX10_doorAt wm_833 rfl rfl (by decide) kd_2 wm_835 wp_43 rfl (Nat.le_of_ble_eq_true rfl) (M0.mono h (fun v τ6 h => ?_))
    obtain ⟨o7, rfl, h⟩ := h
    show V0 E (d + 1) qX10_restore 58 [some (vR 2), some (vI x1), none, none, none] [vR o7] τ6 Q
    refine s_astore_n (i := 2) (ls' := [some (vR 2), some (vI x1), some (vR o7), none, none]) (pc' := 59) dX10_restore_58 rfl rfl (Nat.le_of_ble_eq_true rfl) rfl rfl ?_
    refine u_iconst (pc' := 60) dX10_restore_59 rfl ?_
    refine s_istore_n (i := 3) (ls' := [some (vR 2), some (vI x1), some (vR o7), some (vI 0), none]) (pc' := 61) dX10_restore_60 rfl rfl (Nat.le_of_ble_eq_true rfl) rfl rfl ?_
    exact u_less (ls' := [some (vR 2), some (vI x1), some (vR o7), some (vI 0), none]) ⟨rfl, ⟨rfl, ⟨rfl, ⟨rfl, trivial⟩⟩⟩⟩ h
set_option maxRecDepth 20000 in
theorem bX10_restore_61 {E : mm_Env} {d : Nat} {τ : mm_Mem} {Q : mm_Q0} {x1 : Int} {x2 : Nat} {x3 : Int} (h : ∃ o1 : Nat, (τ 2 2) = (o1 : Int) ∧ KD o1 = some (.inr 2) ∧ inR x3 ∧ (((τ o1 2) ≤ x3 → V0 E (d + 1) qX10_restore 42 [some (vR 2), some (vI (x1 + 1)), none, none, none] [] τ Q) ∧ (¬ (τ o1 2) ≤ x3 → ((x2 = 0 → V0 E (d + 1) qX10_restore 42 [some (vR 2), some (vI (x1 + 1)), none, none, none] [] τ Q) ∧ (¬ x2 = 0 → M0 E d qX10_earPlace [vR 2, vI x1, vI x3] τ (fun v τ6 => ∃ r7 : Int, v = some (vI r7) ∧ KD x2 = some (.inr 0) ∧ M0 E d qX10_tapedTwo [vR 2, vI r7] τ6 (fun v τ9 => ∃ r10 : Int, v = some (vI r10) ∧ 0 ≤ x3 ∧ x3 < 3 ∧ inR r10 ∧ M0 E d qX10_tapedTwo [vR 2, vI (r7 + 2)] (wr τ9 (x2 + 1) x3.toNat r10) (fun v τ14 => ∃ r15 : Int, v = some (vI r15) ∧ 0 ≤ x3 ∧ x3 < 3 ∧ inR (r15 - 1) ∧ M0 E d qX10_tapedTwo [vR 2, vI (r7 + 3)] (wr τ14 (x2 + 2) x3.toNat (r15 - 1)) (fun v τ19 => ∃ r20 : Int, v = some (vI r20) ∧ 0 ≤ x3 ∧ x3 < 3 ∧ inR (mm_and r20 255) ∧ V0 E (d + 1) qX10_restore 61 [some (vR 2), some (vI x1), some (vR x2), some (vI (x3 + 1)), none] [] (wr τ19 (x2 + 3) x3.toNat (mm_and r20 255)) Q))))))))) : V0 E (d + 1) qX10_restore 61 [some (vR 2), some (vI x1), some (vR x2), some (vI x3), none] [] τ Q := by
  refine u_iload_n (i := 3) (pc' := 62) dX10_restore_61 rfl rfl rfl ?_
  refine u_aload_n (i := 0) (pc' := 63) dX10_restore_62 rfl rfl rfl ?_
  obtain ⟨o1, z2, k3, h⟩ := h
  refine u_getD (a := o1) (pc' := 66) dX10_restore_63 rfl fl_TuneDoor_16 rfl (by decide) kd_2 rfl (z2) ?_
  refine u_getI (z := (τ o1 2)) (pc' := 69) dX10_restore_66 rfl fl_TuneDoor_122 rfl (by decide) (kHouse k3).1 k3 rfl (fun r4 => ?_)
  obtain ⟨c5, h⟩ := h
  refine u_icmp_ge (tgt := 136) (pc' := 72) dX10_restore_69 rfl (by decide) c5 r4 (fun hb => ?_) (fun hb => ?_)
  · have h := h.1 hb
    refine s_iinc (i := 1) (ls' := [some (vR 2), some (vI (x1 + 1)), some (vR x2), some (vI x3), none]) (pc' := 139) dX10_restore_136 rfl rfl (Nat.le_of_ble_eq_true rfl) rfl rfl ?_
    refine u_goto (tgt := 42) dX10_restore_139 (by decide) ?_
    exact u_less (ls' := [some (vR 2), some (vI (x1 + 1)), none, none, none]) ⟨rfl, ⟨rfl, trivial⟩⟩ h
  · have h := h.2 hb
    refine u_aload_n (i := 2) (pc' := 73) dX10_restore_72 rfl rfl rfl ?_
    refine u_ifnull (tgt := 136) (pc' := 76) dX10_restore_73 rfl (by decide) (fun hb => ?_) (fun hb => ?_)
    · have h := h.1 hb
      refine s_iinc (i := 1) (ls' := [some (vR 2), some (vI (x1 + 1)), some (vR x2), some (vI x3), none]) (pc' := 139) dX10_restore_136 rfl rfl (Nat.le_of_ble_eq_true rfl) rfl rfl ?_
      refine u_goto (tgt := 42) dX10_restore_139 (by decide) ?_
      exact u_less (ls' := [some (vR 2), some (vI (x1 + 1)), none, none, none]) ⟨rfl, ⟨rfl, trivial⟩⟩ h
    · have h := h.2 hb
      refine u_aload_n (i := 0) (pc' := 77) dX10_restore_76 rfl rfl rfl ?_
      refine u_iload_n (i := 1) (pc' := 78) dX10_restore_77 rfl rfl rfl ?_
      refine u_iload_n (i := 3) (pc' := 79) dX10_restore_78 rfl rfl rfl ?_
      refine u_invV (q' := qX10_earPlace) (As := [vI x1, vI x3]) (st := []) (pc' := 82) dX10_restore_79 rfl gX10_earPlace wm_1202 rfl rfl (by decide) kd_2 wm_1204 wp_69 rfl (Nat.le_of_ble_eq_true rfl) (M0.mono h (fun v τ6 h => ?_))
      obtain ⟨r7, rfl, h⟩ := h
      show V0 E (d + 1) qX10_restore 82 [some (vR 2), some (vI x1), some (vR x2), some (vI x3), none] [vI r7] τ6 Q
      refine s_istore (i := 4) (ls' := [some (vR 2), some (vI x1), some (vR x2), some (vI x3), some (vI r7)]) (pc' := 84) dX10_restore_82 rfl (Nat.le_of_ble_eq_true rfl) rfl rfl ?_
      refine u_aload_n (i := 2) (pc' := 85) dX10_restore_84 rfl rfl rfl ?_
      obtain ⟨k8, h⟩ := h
      refine u_getR (a := (x2 + 1)) (pc' := 88) dX10_restore_85 rfl fl_TuneDoor_235 rfl (kDoor k8).1 k8 (kDoor k8).2.1 ?_
      refine u_iload_n (i := 3) (pc' := 89) dX10_restore_88 rfl rfl rfl ?_
      refine u_aload_n (i := 0) (pc' := 90) dX10_restore_89 rfl rfl rfl ?_
      refine u_iload (i := 4) (pc' := 92) dX10_restore_90 rfl rfl ?_
      refine u_invV (q' := qX10_tapedTwo) (As := [vI r7]) (st := [vI x3, vR (x2 + 1)]) (pc' := 95) dX10_restore_92 rfl gX10_tapedTwo wm_1194 rfl rfl (by decide) kd_2 wm_1196 wp_67 rfl (Nat.le_of_ble_eq_true rfl) (M0.mono h (fun v τ9 h => ?_))
      obtain ⟨r10, rfl, h⟩ := h
      show V0 E (d + 1) qX10_restore 95 [some (vR 2), some (vI x1), some (vR x2), some (vI x3), some (vI r7)] [vI r10, vI x3, vR (x2 + 1)] τ9 Q
      obtain ⟨c11, c12, c13, h⟩ := h
      refine u_iastore (k := x3.toNat) (pc' := 96) dX10_restore_95 rfl (Nat.le_trans (kDoor k8).1 (Nat.le_add_right _ _)) (kDoor k8).2.2.2.2.1 c11 c12 (by decide) rfl c13 ?_
      refine u_aload_n (i := 2) (pc' := 97) dX10_restore_96 rfl rfl rfl ?_
      refine u_getR (a := (x2 + 2)) (pc' := 100) dX10_restore_97 rfl fl_TuneDoor_237 rfl (kDoor k8).1 k8 (kDoor k8).2.2.1 ?_
      refine u_iload_n (i := 3) (pc' := 101) dX10_restore_100 rfl rfl rfl ?_
      refine u_aload_n (i := 0) (pc' := 102) dX10_restore_101 rfl rfl rfl ?_
      refine u_iload (i := 4) (pc' := 104) dX10_restore_102 rfl rfl ?_
      refine u_iconst (pc' := 105) dX10_restore_104 rfl ?_
      refine u_iadd (pc' := 106) dX10_restore_105 rfl ?_
      refine u_invV (q' := qX10_tapedTwo) (As := [vI (r7 + 2)]) (st := [vI x3, vR (x2 + 2)]) (pc' := 109) dX10_restore_106 rfl gX10_tapedTwo wm_1194 rfl rfl (by decide) kd_2 wm_1196 wp_67 rfl (Nat.le_of_ble_eq_true rfl) (M0.mono h (fun v τ14 h => ?_))
      obtain ⟨r15, rfl, h⟩ := h
      show V0 E (d + 1) qX10_restore 109 [some (vR 2), some (vI x1), some (vR x2), some (vI x3), some (vI r7)] [vI r15, vI x3, vR (x2 + 2)] τ14 Q
      refine u_iconst (pc' := 110) dX10_restore_109 rfl ?_
      refine u_isub (pc' := 111) dX10_restore_110 rfl ?_
      obtain ⟨c16, c17, c18, h⟩ := h
      refine u_iastore (k := x3.toNat) (pc' := 112) dX10_restore_111 rfl (Nat.le_trans (kDoor k8).1 (Nat.le_add_right _ _)) (kDoor k8).2.2.2.2.2.1 c16 c17 (by decide) rfl c18 ?_
      refine u_aload_n (i := 2) (pc' := 113) dX10_restore_112 rfl rfl rfl ?_
      refine u_getR (a := (x2 + 3)) (pc' := 116) dX10_restore_113 rfl fl_TuneDoor_240 rfl (kDoor k8).1 k8 (kDoor k8).2.2.2.1 ?_
      refine u_iload_n (i := 3) (pc' := 117) dX10_restore_116 rfl rfl rfl ?_
      refine u_aload_n (i := 0) (pc' := 118) dX10_restore_117 rfl rfl rfl ?_
      refine u_iload (i := 4) (pc' := 120) dX10_restore_118 rfl rfl ?_
      refine u_iconst (pc' := 121) dX10_restore_120 rfl ?_
      refine u_iadd (pc' := 122) dX10_restore_121 rfl ?_
      refine u_invV (q' := qX10_tapedTwo) (As := [vI (r7 + 3)]) (st := [vI x3, vR (x2 + 3)]) (pc' := 125) dX10_restore_122 rfl gX10_tapedTwo wm_1194 rfl rfl (by decide) kd_2 wm_1196 wp_67 rfl (Nat.le_of_ble_eq_true rfl) (M0.mono h (fun v τ19 h => ?_))
      obtain ⟨r20, rfl, h⟩ := h
      show V0 E (d + 1) qX10_restore 125 [some (vR 2), some (vI x1), some (vR x2), some (vI x3), some (vI r7)] [vI r20, vI x3, vR (x2 + 3)] τ19 Q
      refine u_sipush (pc' := 128) dX10_restore_125 rfl (by decide) ?_
      refine u_iand (pc' := 129) dX10_restore_128 rfl ?_
      obtain ⟨c21, c22, c23, h⟩ := h
      refine u_iastore (k := x3.toNat) (pc' := 130) dX10_restore_129 rfl (Nat.le_trans (kDoor k8).1 (Nat.le_add_right _ _)) (kDoor k8).2.2.2.2.2.2 c21 c22 (by decide) rfl c23 ?_
      refine s_iinc (i := 3) (ls' := [some (vR 2), some (vI x1), some (vR x2), some (vI (x3 + 1)), some (vI r7)]) (pc' := 133) dX10_restore_130 rfl rfl (Nat.le_of_ble_eq_true rfl) rfl rfl ?_
      refine u_goto (tgt := 61) dX10_restore_133 (by decide) ?_
      exact u_less (ls' := [some (vR 2), some (vI x1), some (vR x2), some (vI (x3 + 1)), none]) ⟨rfl, ⟨rfl, ⟨rfl, ⟨rfl, trivial⟩⟩⟩⟩ h
set_option maxRecDepth 20000 in
theorem bX10_status_0 {E : mm_Env} {d : Nat} {τ : mm_Mem} {Q : mm_Q0} {a0 : Int} (h : inR a0 ∧ ((a0 < 0 → Q (some (vI (-1))) τ) ∧ (¬ a0 < 0 → ((a0 < 6 → 0 ≤ a0 ∧ a0 < 6 ∧ Q (some (vI (τ 139 a0.toNat))) τ) ∧ (¬ a0 < 6 → Q (some (vI (-1))) τ))))) : V0 E d qX10_status 0 [some (vR 2), some (vI a0)] [] τ Q := by
  refine u_iload_n (i := 1) (pc' := 1) dX10_status_0 rfl rfl rfl ?_
  obtain ⟨c1, h⟩ := h
  refine u_if_lt (tgt := 13) (pc' := 4) dX10_status_1 rfl (by decide) c1 (fun hb => ?_) (fun hb => ?_)
  · have h := h.1 hb
    refine u_iconst (pc' := 14) dX10_status_13 rfl ?_
    refine u_goto (tgt := 23) dX10_status_14 (by decide) ?_
    exact u_iret dX10_status_23 rfl h
  · have h := h.2 hb
    refine u_iload_n (i := 1) (pc' := 5) dX10_status_4 rfl rfl rfl ?_
    refine u_aload_n (i := 0) (pc' := 6) dX10_status_5 rfl rfl rfl ?_
    refine u_getR (a := 139) (pc' := 9) dX10_status_6 rfl fl_TuneDoor_79 rfl (by decide) kd_2 rfl ?_
    refine u_alen (t0 := 0) (pc' := 10) dX10_status_9 rfl (by decide) kd_139 (fun _ => rfl) ?_
    refine u_icmp_lt (tgt := 17) (pc' := 13) dX10_status_10 rfl (by decide) c1 ⟨by decide, by decide⟩ (fun hb => ?_) (fun hb => ?_)
    · have h := h.1 hb
      refine u_aload_n (i := 0) (pc' := 18) dX10_status_17 rfl rfl rfl ?_
      refine u_getR (a := 139) (pc' := 21) dX10_status_18 rfl fl_TuneDoor_79 rfl (by decide) kd_2 rfl ?_
      refine u_iload_n (i := 1) (pc' := 22) dX10_status_21 rfl rfl rfl ?_
      obtain ⟨c2, c3, h⟩ := h
      refine u_iaload (k := a0.toNat) (z := (τ 139 a0.toNat)) (pc' := 23) dX10_status_22 rfl (by decide) kd_139 c2 c3 (by decide) rfl rfl (fun r4 => ?_)
      exact u_iret dX10_status_23 rfl h
    · have h := h.2 hb
      refine u_iconst (pc' := 14) dX10_status_13 rfl ?_
      refine u_goto (tgt := 23) dX10_status_14 (by decide) ?_
      exact u_iret dX10_status_23 rfl h
theorem mX10_status {E : mm_Env} {d : Nat} {τ : mm_Mem} {Q : mm_Q0} {a0 : Int} (h : inR a0 ∧ ((a0 < 0 → Q (some (vI (-1))) τ) ∧ (¬ a0 < 0 → ((a0 < 6 → 0 ≤ a0 ∧ a0 < 6 ∧ Q (some (vI (τ 139 a0.toNat))) τ) ∧ (¬ a0 < 6 → Q (some (vI (-1))) τ))))) : M0 E d qX10_status [vR 2, vI a0] τ Q := M0_of rfl (Nat.le_of_ble_eq_true rfl) [some (vR 2), some (vI a0)] rfl (bX10_status_0  h)
