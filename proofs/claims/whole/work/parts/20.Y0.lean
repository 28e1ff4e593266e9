set_option maxRecDepth 20000 in
theorem bX11_feed_0 {E : mm_Env} {d : Nat} {τ : mm_Mem} {Q : mm_Q0} {a0 : Int} {a1 : Int} {a2 : Int} {a3 : Int} {a4 : Int} (h : inR ((τ 140 1) + 20) ∧ ((((τ 140 1) + 20) ≤ 1600 → M0 E d qX11_put [vR 140, vI a0] τ (fun v τ3 => v = none ∧ M0 E d qX11_put [vR 140, vI a1] τ3 (fun v τ4 => v = none ∧ M0 E d qX11_put [vR 140, vI a2] τ4 (fun v τ5 => v = none ∧ M0 E d qX11_put [vR 140, vI a3] τ5 (fun v τ6 => v = none ∧ M0 E d qX11_put [vR 140, vI a4] τ6 (fun v τ7 => v = none ∧ Q (some (vI (τ7 140 1))) τ7)))))) ∧ (¬ ((τ 140 1) + 20) ≤ 1600 → M0 E d qX11_refuses [vR 140, vI 0] τ (fun v τ9 => ∃ r10 : Int, v = some (vI r10) ∧ Q (some (vI r10)) τ9)))) : V0 E (d + 1) qX11_feed 0 [some (vR 140), some (vI a0), some (vI a1), some (vI a2), some (vI a3), some (vI a4)] [] τ Q := by
  refine u_aload_n (i := 0) (pc' := 1) dX11_feed_0 rfl rfl rfl ?_
  refine u_getI (z := (τ 140 1)) (pc' := 4) dX11_feed_1 rfl fl_TuneDoorModel_13 rfl (by decide) (by decide) kd_140 rfl (fun r1 => ?_)
  refine u_bipush (pc' := 6) dX11_feed_4 rfl (by decide) ?_
  refine u_iadd (pc' := 7) dX11_feed_6 rfl ?_
  refine u_sipush (pc' := 10) dX11_feed_7 rfl (by decide) ?_
  obtain ⟨c2, h⟩ := h
  refine u_icmp_le (tgt := 19) (pc' := 13) dX11_feed_10 rfl (by decide) c2 ⟨by decide, by decide⟩ (fun hb => ?_) (fun hb => ?_)
  · have h := h.1 hb
    refine u_aload_n (i := 0) (pc' := 20) dX11_feed_19 rfl rfl rfl ?_
    refine u_iload_n (i := 1) (pc' := 21) dX11_feed_20 rfl rfl rfl ?_
    refine u_invV (q' := qX11_put) (As := [vI a0]) (st := []) (pc' := 24) dX11_feed_21 rfl gX11_put wm_1456 rfl rfl (by decide) kd_140 wm_1458 wp_73 rfl (Nat.le_of_ble_eq_true rfl) (M0.mono h (fun v τ3 h => ?_))
    obtain ⟨rfl, h⟩ := h
    show V0 E (d + 1) qX11_feed 24 [some (vR 140), some (vI a0), some (vI a1), some (vI a2), some (vI a3), some (vI a4)] [] τ3 Q
    refine u_aload_n (i := 0) (pc' := 25) dX11_feed_24 rfl rfl rfl ?_
    refine u_iload_n (i := 2) (pc' := 26) dX11_feed_25 rfl rfl rfl ?_
    refine u_invV (q' := qX11_put) (As := [vI a1]) (st := []) (pc' := 29) dX11_feed_26 rfl gX11_put wm_1456 rfl rfl (by decide) kd_140 wm_1458 wp_73 rfl (Nat.le_of_ble_eq_true rfl) (M0.mono h (fun v τ4 h => ?_))
    obtain ⟨rfl, h⟩ := h
    show V0 E (d + 1) qX11_feed 29 [some (vR 140), some (vI a0), some (vI a1), some (vI a2), some (vI a3), some (vI a4)] [] τ4 Q
    refine u_aload_n (i := 0) (pc' := 30) dX11_feed_29 rfl rfl rfl ?_
    refine u_iload_n (i := 3) (pc' := 31) dX11_feed_30 rfl rfl rfl ?_
    refine u_invV (q' := qX11_put) (As := [vI a2]) (st := []) (pc' := 34) dX11_feed_31 rfl gX11_put wm_1456 rfl rfl (by decide) kd_140 wm_1458 wp_73 rfl (Nat.le_of_ble_eq_true rfl) (M0.mono h (fun v τ5 h => ?_))
    obtain ⟨rfl, h⟩ := h
    show V0 E (d + 1) qX11_feed 34 [some (vR 140), some (vI a0), some (vI a1), some (vI a2), some (vI a3), some (vI a4)] [] τ5 Q
    refine u_aload_n (i := 0) (pc' := 35) dX11_feed_34 rfl rfl rfl ?_
    refine u_iload (i := 4) (pc' := 37) dX11_feed_35 rfl rfl ?_
    refine u_invV (q' := qX11_put) (As := [vI a3]) (st := []) (pc' := 40) dX11_feed_37 rfl gX11_put wm_1456 rfl rfl (by decide) kd_140 wm_1458 wp_73 rfl (Nat.le_of_ble_eq_true rfl) (M0.mono h (fun v τ6 h => ?_))
    obtain ⟨rfl, h⟩ := h
    show V0 E (d + 1) qX11_feed 40 [some (vR 140), some (vI a0), some (vI a1), some (vI a2), some (vI a3), some (vI a4)] [] τ6 Q
    refine u_aload_n (i := 0) (pc' := 41) dX11_feed_40 rfl rfl rfl ?_
    refine u_iload (i := 5) (pc' := 43) dX11_feed_41 rfl rfl ?_
    refine u_invV (q' := qX11_put) (As := [vI a4]) (st := []) (pc' := 46) dX11_feed_43 rfl gX11_put wm_1456 rfl rfl (by decide) kd_140 wm_1458 wp_73 rfl (Nat.le_of_ble_eq_true rfl) (M0.mono h (fun v τ7 h => ?_))
    obtain ⟨rfl, h⟩ := h
    show V0 E (d + 1) qX11_feed 46 [some (vR 140), some (vI a0), some (vI a1), some (vI a2), some (vI a3), some (vI a4)] [] τ7 Q
    refine u_aload_n (i := 0) (pc' := 47) dX11_feed_46 rfl rfl rfl ?_
    refine u_getI (z := (τ7 140 1)) (pc' := 50) dX11_feed_47 rfl fl_TuneDoorModel_13 rfl (by decide) (by decide) kd_140 rfl (fun r8 => ?_)
    exact u_iret dX11_feed_50 rfl h
  · have h := h.2 hb
    refine u_aload_n (i := 0) (pc' := 14) dX11_feed_13 rfl rfl rfl ?_
    refine u_iconst (pc' := 15) dX11_feed_14 rfl ?_
    refine u_invV (q' := qX11_refuses) (As := [vI 0]) (st := []) (pc' := 18) dX11_feed_15 rfl gX11_refuses wm_1452 rfl rfl (by decide) kd_140 wm_1454 wp_72 rfl (Nat.le_of_ble_eq_true rfl) (M0.mono h (fun v τ9 h => ?_))
    obtain ⟨r10, rfl, h⟩ := h
    show V0 E (d + 1) qX11_feed 18 [some (vR 140), some (vI a0), some (vI a1), some (vI a2), some (vI a3), some (vI a4)] [vI r10] τ9 Q
    exact u_iret dX11_feed_18 rfl h
theorem mX11_feed {E : mm_Env} {d : Nat} {τ : mm_Mem} {Q : mm_Q0} {a0 : Int} {a1 : Int} {a2 : Int} {a3 : Int} {a4 : Int} (h : inR ((τ 140 1) + 20) ∧ ((((τ 140 1) + 20) ≤ 1600 → M0 E d qX11_put [vR 140, vI a0] τ (fun v τ3 => v = none ∧ M0 E d qX11_put [vR 140, vI a1] τ3 (fun v τ4 => v = none ∧ M0 E d qX11_put [vR 140, vI a2] τ4 (fun v τ5 => v = none ∧ M0 E d qX11_put [vR 140, vI a3] τ5 (fun v τ6 => v = none ∧ M0 E d qX11_put [vR 140, vI a4] τ6 (fun v τ7 => v = none ∧ Q (some (vI (τ7 140 1))) τ7)))))) ∧ (¬ ((τ 140 1) + 20) ≤ 1600 → M0 E d qX11_refuses [vR 140, vI 0] τ (fun v τ9 => ∃ r10 : Int, v = some (vI r10) ∧ Q (some (vI r10)) τ9)))) : M0 E (d + 1) qX11_feed [vR 140, vI a0, vI a1, vI a2, vI a3, vI a4] τ Q := M0_of rfl (Nat.le_of_ble_eq_true rfl) [some (vR 140), some (vI a0), some (vI a1), some (vI a2), some (vI a3), some (vI a4)] rfl (bX11_feed_0  h)
set_option maxRecDepth 20000 in
theorem bX11_refuses_0 {E : mm_Env} {d : Nat} {τ : mm_Mem} {Q : mm_Q0} {a0 : Int} (h : 0 ≤ a0 ∧ a0 < 6 ∧ 0 ≤ a0 ∧ a0 < 6 ∧ inR ((τ 173 a0.toNat) + 1) ∧ Q (some (vI (-1))) (wr τ 173 a0.toNat ((τ 173 a0.toNat) + 1))) : V0 E d qX11_refuses 0 [some (vR 140), some (vI a0)] [] τ Q := by
  refine u_aload_n (i := 0) (pc' := 1) dX11_refuses_0 rfl rfl rfl ?_
  refine u_getR (a := 173) (pc' := 4) dX11_refuses_1 rfl fl_TuneDoorModel_165 rfl (by decide) kd_140 rfl ?_
  refine u_iload_n (i := 1) (pc' := 5) dX11_refuses_4 rfl rfl rfl ?_
  refine u_dup2 (pc' := 6) dX11_refuses_5 rfl (fun _ hh => by cases hh) (fun _ hh => by cases hh) ?_
  obtain ⟨c1, c2, h⟩ := h
  refine u_iaload (k := a0.toNat) (z := (τ 173 a0.toNat)) (pc' := 7) dX11_refuses_6 rfl (by decide) kd_173 c1 c2 (by decide) rfl rfl (fun r3 => ?_)
  refine u_iconst (pc' := 8) dX11_refuses_7 rfl ?_
  refine u_iadd (pc' := 9) dX11_refuses_8 rfl ?_
  obtain ⟨c4, c5, c6, h⟩ := h
  refine u_iastore (k := a0.toNat) (pc' := 10) dX11_refuses_9 rfl (by decide) kd_173 c4 c5 (by decide) rfl c6 ?_
  refine u_iconst (pc' := 11) dX11_refuses_10 rfl ?_
  exact u_iret dX11_refuses_11 rfl h
theorem mX11_refuses {E : mm_Env} {d : Nat} {τ : mm_Mem} {Q : mm_Q0} {a0 : Int} (h : 0 ≤ a0 ∧ a0 < 6 ∧ 0 ≤ a0 ∧ a0 < 6 ∧ inR ((τ 173 a0.toNat) + 1) ∧ Q (some (vI (-1))) (wr τ 173 a0.toNat ((τ 173 a0.toNat) + 1))) : M0 E d qX11_refuses [vR 140, vI a0] τ Q := M0_of rfl (Nat.le_of_ble_eq_true rfl) [some (vR 140), some (vI a0)] rfl (bX11_refuses_0  h)
set_option maxRecDepth 20000 in
theorem bX11_put_0 {E : mm_Env} {d : Nat} {τ : mm_Mem} {Q : mm_Q0} {a0 : Int} (h : V0 E d qX11_put 3 [some (vR 140), some (vI a0), some (vI 24)] [] τ Q) : V0 E d qX11_put 0 [some (vR 140), some (vI a0), none] [] τ Q := by
  refine u_bipush (pc' := 2) dX11_put_0 rfl (by decide) ?_
  refine s_istore_n (i := 2) (ls' := [some (vR 140), some (vI a0), some (vI 24)]) (pc' := 3) dX11_put_2 rfl rfl (Nat.le_of_ble_eq_true rfl) rfl rfl ?_
  exact u_less (ls' := [some (vR 140), some (vI a0), some (vI 24)]) ⟨rfl, ⟨rfl, ⟨rfl, trivial⟩⟩⟩ h
theorem mX11_put {E : mm_Env} {d : Nat} {τ : mm_Mem} {Q : mm_Q0} {a0 : Int} (h : V0 E d qX11_put 3 [some (vR 140), some (vI a0), some (vI 24)] [] τ Q) : M0 E d qX11_put [vR 140, vI a0] τ Q := M0_of rfl (Nat.le_of_ble_eq_true rfl) [some (vR 140), some (vI a0), none] rfl (bX11_put_0  h)
set_option maxRecDepth 20000 in
theorem bX11_put_3 {E : mm_Env} {d : Nat} {τ : mm_Mem} {Q : mm_Q0} {x1 : Int} {x2 : Int} (h : inR x2 ∧ ((x2 < 0 → Q none τ) ∧ (¬ x2 < 0 → 0 ≤ (τ 140 1) ∧ (τ 140 1) < 1800 ∧ inR (mm_and (mm_shr x1 x2) 255) ∧ inR ((τ 140 1) + 1) ∧ V0 E d qX11_put 3 [some (vR 140), some (vI x1), some (vI (x2 + (-8)))] [] (wr (wr τ 141 (τ 140 1).toNat (mm_and (mm_shr x1 x2) 255)) 140 1 ((τ 140 1) + 1)) Q))) : V0 E d qX11_put 3 [some (vR 140), some (vI x1), some (vI x2)] [] τ Q := by
  refine u_iload_n (i := 2) (pc' := 4) dX11_put_3 rfl rfl rfl ?_
  obtain ⟨c1, h⟩ := h
  refine u_if_lt (tgt := 39) (pc' := 7) dX11_put_4 rfl (by decide) c1 (fun hb => ?_) (fun hb => ?_)
  · have h := h.1 hb
    exact u_ret dX11_put_39 rfl h
  · have h := h.2 hb
    refine u_aload_n (i := 0) (pc' := 8) dX11_put_7 rfl rfl rfl ?_
    refine u_getR (a := 141) (pc' := 11) dX11_put_8 rfl fl_TuneDoorModel_7 rfl (by decide) kd_140 rfl ?_
    refine u_aload_n (i := 0) (pc' := 12) dX11_put_11 rfl rfl rfl ?_
    refine u_getI (z := (τ 140 1)) (pc' := 15) dX11_put_12 rfl fl_TuneDoorModel_13 rfl (by decide) (by decide) kd_140 rfl (fun r2 => ?_)
    refine u_iload_n (i := 1) (pc' := 16) dX11_put_15 rfl rfl rfl ?_
    refine u_iload_n (i := 2) (pc' := 17) dX11_put_16 rfl rfl rfl ?_
    refine u_ishr (pc' := 18) dX11_put_17 rfl ?_
    refine u_sipush (pc' := 21) dX11_put_18 rfl (by decide) ?_
    refine u_iand (pc' := 22) dX11_put_21 rfl ?_
    obtain ⟨c3, c4, c5, h⟩ := h
    refine u_iastore (k := (τ 140 1).toNat) (pc' := 23) dX11_put_22 rfl (by decide) kd_141 c3 c4 (by decide) rfl c5 ?_
    refine u_aload_n (i := 0) (pc' := 24) dX11_put_23 rfl rfl rfl ?_
    refine u_dup (pc' := 25) dX11_put_24 rfl (fun _ hh => by cases hh) ?_
    refine u_getI (z := (τ 140 1)) (pc' := 28) dX11_put_25 rfl fl_TuneDoorModel_13 rfl (by decide) (by decide) kd_140 rfl (fun r6 => ?_)
    refine u_iconst (pc' := 29) dX11_put_28 rfl ?_
    refine u_iadd (pc' := 30) dX11_put_29 rfl ?_
    obtain ⟨c7, h⟩ := h
    refine u_putI (pc' := 33) dX11_put_30 rfl fl_TuneDoorModel_13 rfl rfl (by decide) (by decide) kd_140 c7 ?_
    refine s_iinc (i := 2) (ls' := [some (vR 140), some (vI x1), some (vI (x2 + (-8)))]) (pc' := 36) dX11_put_33 rfl rfl (Nat.le_of_ble_eq_true rfl) rfl rfl ?_
    refine u_goto (tgt := 3) dX11_put_36 (by decide) ?_
    exact u_less (ls' := [some (vR 140), some (vI x1), some (vI (x2 + (-8)))]) ⟨rfl, ⟨rfl, ⟨rfl, trivial⟩⟩⟩ h
set_option maxRecDepth 20000 in
theorem bX11_end_0 {E : mm_Env} {d : Nat} {τ : mm_Mem} {Q : mm_Q0} {a0 : Int} (h : inR a0 ∧ ((a0 < 0 → M0 E d qX11_refuses [vR 140, vI 0] τ (fun v τ2 => ∃ r3 : Int, v = some (vI r3) ∧ inR r3 ∧ ((r3 < 0 → Q (some (vB false)) τ2) ∧ (¬ r3 < 0 → Q (some (vB true)) τ2)))) ∧ (¬ a0 < 0 → ((a0 ≤ (τ 140 1) → Q (some (vB true)) (wr τ 140 1 a0)) ∧ (¬ a0 ≤ (τ 140 1) → M0 E d qX11_refuses [vR 140, vI 0] τ (fun v τ6 => ∃ r7 : Int, v = some (vI r7) ∧ inR r7 ∧ ((r7 < 0 → Q (some (vB false)) τ6) ∧ (¬ r7 < 0 → Q (some (vB true)) τ6)))))))) : V0 E (d + 1) qX11_end 0 [some (vR 140), some (vI a0)] [] τ Q := by
  refine u_iload_n (i := 1) (pc' := 1) dX11_end_0 rfl rfl rfl ?_
  obtain ⟨c1, h⟩ := h
  refine u_if_lt (tgt := 12) (pc' := 4) dX11_end_1 rfl (by decide) c1 (fun hb => ?_) (fun hb => ?_)
  · have h := h.1 hb
    refine u_aload_n (i := 0) (pc' := 13) dX11_end_12 rfl rfl rfl ?_
    refine u_iconst (pc' := 14) dX11_end_13 rfl ?_
    refine u_invV (q' := qX11_refuses) (As := [vI 0]) (st := []) (pc' := 17) dX11_end_14 rfl gX11_refuses wm_1452 rfl rfl (by decide) kd_140 wm_1454 wp_72 rfl (Nat.le_of_ble_eq_true rfl) (M0.mono h (fun v τ2 h => ?_))
    obtain ⟨r3, rfl, h⟩ := h
    show V0 E (d + 1) qX11_end 17 [some (vR 140), some (vI a0)] [vI r3] τ2 Q
    obtain ⟨c4, h⟩ := h
    refine u_if_lt (tgt := 24) (pc' := 20) dX11_end_17 rfl (by decide) c4 (fun hb => ?_) (fun hb => ?_)
    · have h := h.1 hb
      refine u_iconst (pc' := 25) dX11_end_24 rfl ?_
      exact u_zret (b := false) dX11_end_25 rfl rfl h
    · have h := h.2 hb
      refine u_iconst (pc' := 21) dX11_end_20 rfl ?_
      refine u_goto (tgt := 25) dX11_end_21 (by decide) ?_
      exact u_zret (b := true) dX11_end_25 rfl rfl h
  · have h := h.2 hb
    refine u_iload_n (i := 1) (pc' := 5) dX11_end_4 rfl rfl rfl ?_
    refine u_aload_n (i := 0) (pc' := 6) dX11_end_5 rfl rfl rfl ?_
    refine u_getI (z := (τ 140 1)) (pc' := 9) dX11_end_6 rfl fl_TuneDoorModel_13 rfl (by decide) (by decide) kd_140 rfl (fun r5 => ?_)
    refine u_icmp_le (tgt := 26) (pc' := 12) dX11_end_9 rfl (by decide) c1 r5 (fun hb => ?_) (fun hb => ?_)
    · have h := h.1 hb
      refine u_aload_n (i := 0) (pc' := 27) dX11_end_26 rfl rfl rfl ?_
      refine u_iload_n (i := 1) (pc' := 28) dX11_end_27 rfl rfl rfl ?_
      refine u_putI (pc' := 31) dX11_end_28 rfl fl_TuneDoorModel_13 rfl rfl (by decide) (by decide) kd_140 c1 ?_
      refine u_iconst (pc' := 32) dX11_end_31 rfl ?_
      exact u_zret (b := true) dX11_end_32 rfl rfl h
    · have h := h.2 hb
      refine u_aload_n (i := 0) (pc' := 13) dX11_end_12 rfl rfl rfl ?_
      refine u_iconst (pc' := 14) dX11_end_13 rfl ?_
      refine u_invV (q' := qX11_refuses) (As := [vI 0]) (st := []) (pc' := 17) dX11_end_14 rfl gX11_refuses wm_1452 rfl rfl (by decide) kd_140 wm_1454 wp_72 rfl (Nat.le_of_ble_eq_true rfl) (M0.mono h (fun v τ6 h => ?_))
      obtain ⟨r7, rfl, h⟩ := h
      show V0 E (d + 1) qX11_end 17 [some (vR 140), some (vI a0)] [vI r7] τ6 Q
      obtain ⟨c8, h⟩ := h
      refine u_if_lt (tgt := 24) (pc' := 20) dX11_end_17 rfl (by decide) c8 (fun hb => ?_) (fun hb => ?_)
      · have h := h.1 hb
        refine u_iconst (pc' := 25) dX11_end_24 rfl ?_
        exact u_zret (b := false) dX11_end_25 rfl rfl h
      · have h := h.2 hb
        refine u_iconst (pc' := 21) dX11_end_20 rfl ?_
        refine u_goto (tgt := 25) dX11_end_21 (by decide) ?_
        exact u_zret (b := true) dX11_end_25 rfl rfl h
theorem mX11_end {E : mm_Env} {d : Nat} {τ : mm_Mem} {Q : mm_Q0} {a0 : Int} (h : inR a0 ∧ ((a0 < 0 → M0 E d qX11_refuses [vR 140, vI 0] τ (fun v τ2 => ∃ r3 : Int, v = some (vI r3) ∧ inR r3 ∧ ((r3 < 0 → Q (some (vB false)) τ2) ∧ (¬ r3 < 0 → Q (some (vB true)) τ2)))) ∧ (¬ a0 < 0 → ((a0 ≤ (τ 140 1) → Q (some (vB true)) (wr τ 140 1 a0)) ∧ (¬ a0 ≤ (τ 140 1) → M0 E d qX11_refuses [vR 140, vI 0] τ (fun v τ6 => ∃ r7 : Int, v = some (vI r7) ∧ inR r7 ∧ ((r7 < 0 → Q (some (vB false)) τ6) ∧ (¬ r7 < 0 → Q (some (vB true)) τ6)))))))) : M0 E (d + 1) qX11_end [vR 140, vI a0] τ Q := M0_of rfl (Nat.le_of_ble_eq_true rfl) [some (vR 140), some (vI a0)] rfl (bX11_end_0  h)
set_option maxRecDepth 20000 in
theorem bX11_house_0 {E : mm_Env} {d : Nat} {τ : mm_Mem} {Q : mm_Q0}  (h : inR (1 - (τ 140 12)) ∧ 0 ≤ (1 - (τ 140 12)) ∧ (1 - (τ 140 12)) < 2 ∧ V0 E (d + 1) qX11_house 50 [some (vR 140), some (vI 0)] [] (wr (wr (wr (wr (wr (wr (wr τ 140 2 (τ 140 1)) 140 1 0) 140 5 0) 140 8 0) 140 9 (-1)) 140 39 (1 - (τ 140 12))) 144 (1 - (τ 140 12)).toNat 0) Q) : V0 E (d + 1) qX11_house 0 [some (vR 140), none] [] τ Q := by
  refine u_aload_n (i := 0) (pc' := 1) dX11_house_0 rfl rfl rfl ?_
  refine u_aload_n (i := 0) (pc' := 2) dX11_house_1 rfl rfl rfl ?_
  refine u_getI (z := (τ 140 1)) (pc' := 5) dX11_house_2 rfl fl_TuneDoorModel_13 rfl (by decide) (by decide) kd_140 rfl (fun r1 => ?_)
  refine u_putI (pc' := 8) dX11_house_5 rfl fl_TuneDoorModel_17 rfl rfl (by decide) (by decide) kd_140 r1 ?_
  refine u_aload_n (i := 0) (pc' := 9) dX11_house_8 rfl rfl rfl ?_
  refine u_iconst (pc' := 10) dX11_house_9 rfl ?_
  refine u_putI (pc' := 13) dX11_house_10 rfl fl_TuneDoorModel_13 rfl rfl (by decide) (by decide) kd_140 ⟨by decide, by decide⟩ ?_
  refine u_aload_n (i := 0) (pc' := 14) dX11_house_13 rfl rfl rfl ?_
  refine u_iconst (pc' := 15) dX11_house_14 rfl ?_
  refine u_putI (pc' := 18) dX11_house_15 rfl fl_TuneDoorModel_26 rfl rfl (by decide) (by decide) kd_140 ⟨by decide, by decide⟩ ?_
  refine u_aload_n (i := 0) (pc' := 19) dX11_house_18 rfl rfl rfl ?_
  refine u_iconst (pc' := 20) dX11_house_19 rfl ?_
  refine u_putI (pc' := 23) dX11_house_20 rfl fl_TuneDoorModel_36 rfl rfl (by decide) (by decide) kd_140 ⟨by decide, by decide⟩ ?_
  refine u_aload_n (i := 0) (pc' := 24) dX11_house_23 rfl rfl rfl ?_
  refine u_iconst (pc' := 25) dX11_house_24 rfl ?_
  refine u_putI (pc' := 28) dX11_house_25 rfl fl_TuneDoorModel_39 rfl rfl (by decide) (by decide) kd_140 ⟨by decide, by decide⟩ ?_
  refine u_aload_n (i := 0) (pc' := 29) dX11_house_28 rfl rfl rfl ?_
  refine u_iconst (pc' := 30) dX11_house_29 rfl ?_
  refine u_aload_n (i := 0) (pc' := 31) dX11_house_30 rfl rfl rfl ?_
  refine u_getI (z := (τ 140 12)) (pc' := 34) dX11_house_31 rfl fl_TuneDoorModel_48 rfl (by decide) (by decide) kd_140 rfl (fun r2 => ?_)
  refine u_isub (pc' := 35) dX11_house_34 rfl ?_
  obtain ⟨c3, h⟩ := h
  refine u_putI (pc' := 38) dX11_house_35 rfl fl_TuneDoorModel_130 rfl rfl (by decide) (by decide) kd_140 c3 ?_
  refine u_aload_n (i := 0) (pc' := 39) dX11_house_38 rfl rfl rfl ?_
  refine u_getR (a := 144) (pc' := 42) dX11_house_39 rfl fl_TuneDoorModel_57 rfl (by decide) kd_140 rfl ?_
  refine u_aload_n (i := 0) (pc' := 43) dX11_house_42 rfl rfl rfl ?_
  refine u_getI (z := (1 - (τ 140 12))) (pc' := 46) dX11_house_43 rfl fl_TuneDoorModel_130 rfl (by decide) (by decide) kd_140 rfl (fun r4 => ?_)
  refine u_iconst (pc' := 47) dX11_house_46 rfl ?_
  obtain ⟨c5, c6, h⟩ := h
  refine u_iastore (k := (1 - (τ 140 12)).toNat) (pc' := 48) dX11_house_47 rfl (by decide) kd_144 c5 c6 (by decide) rfl ⟨by decide, by decide⟩ ?_
  refine u_iconst (pc' := 49) dX11_house_48 rfl ?_
  refine s_istore_n (i := 1) (ls' := [some (vR 140), some (vI 0)]) (pc' := 50) dX11_house_49 rfl rfl (Nat.le_of_ble_eq_true rfl) rfl rfl ?_
  exact u_less (ls' := [some (vR 140), some (vI 0)]) ⟨rfl, ⟨rfl, trivial⟩⟩ h
theorem mX11_house {E : mm_Env} {d : Nat} {τ : mm_Mem} {Q : mm_Q0}  (h : inR (1 - (τ 140 12)) ∧ 0 ≤ (1 - (τ 140 12)) ∧ (1 - (τ 140 12)) < 2 ∧ V0 E (d + 1) qX11_house 50 [some (vR 140), some (vI 0)] [] (wr (wr (wr (wr (wr (wr (wr τ 140 2 (τ 140 1)) 140 1 0) 140 5 0) 140 8 0) 140 9 (-1)) 140 39 (1 - (τ 140 12))) 144 (1 - (τ 140 12)).toNat 0) Q) : M0 E (d + 1) qX11_house [vR 140] τ Q := M0_of rfl (Nat.le_of_ble_eq_true rfl) [some (vR 140), none] rfl (bX11_house_0  h)
set_option maxRecDepth 20000 in
theorem bX11_house_50 {E : mm_Env} {d : Nat} {τ : mm_Mem} {Q : mm_Q0} {x1 : Int} (h : inR x1 ∧ ((3 ≤ x1 → 0 ≤ (τ 140 39) ∧ (τ 140 39) < 2 ∧ 0 ≤ (τ 140 39) ∧ (τ 140 39) < 2 ∧ 0 ≤ (τ 140 39) ∧ (τ 140 39) < 2 ∧ 0 ≤ (τ 140 39) ∧ (τ 140 39) < 2 ∧ M0 E d qX11_ahead [vR 140] (wr (wr (wr (wr (wr τ 152 (τ 140 39).toNat 0) 157 (τ 140 39).toNat 0) 163 (τ 140 39).toNat 1) 164 (τ 140 39).toNat 1) 140 38 0) (fun v τ14 => v = none ∧ M0 E d qX11_beginning [vR 140] τ14 (fun v τ15 => v = none ∧ V0 E (d + 1) qX11_house 130 [some (vR 140), some (vI 1)] [] τ15 Q))) ∧ (¬ 3 ≤ x1 → 0 ≤ ((3 * (τ 140 39)) + x1) ∧ ((3 * (τ 140 39)) + x1) < 6 ∧ V0 E (d + 1) qX11_house 50 [some (vR 140), some (vI (x1 + 1))] [] (wr τ 148 ((3 * (τ 140 39)) + x1).toNat 0) Q))) : V0 E (d + 1) qX11_house 50 [some (vR 140), some (vI x1)] [] τ Q := by
  refine u_iload_n (i := 1) (pc' := 51) dX11_house_50 rfl rfl rfl ?_
  refine u_iconst (pc' := 52) dX11_house_51 rfl ?_
  obtain ⟨c1, h⟩ := h
  refine u_icmp_ge (tgt := 75) (pc' := 55) dX11_house_52 rfl (by decide) c1 ⟨by decide, by decide⟩ (fun hb => ?_) (fun hb => ?_)
  · have h := h.1 hb
    refine u_aload_n (i := 0) (pc' := 76) dX11_house_75 rfl rfl rfl ?_
    refine u_getR (a := 152) (pc' := 79) dX11_house_76 rfl fl_TuneDoorModel_82 rfl (by decide) kd_140 rfl ?_
    refine u_aload_n (i := 0) (pc' := 80) dX11_house_79 rfl rfl rfl ?_
    refine u_getI (z := (τ 140 39)) (pc' := 83) dX11_house_80 rfl fl_TuneDoorModel_130 rfl (by decide) (by decide) kd_140 rfl (fun r2 => ?_)
    refine u_iconst (pc' := 84) dX11_house_83 rfl ?_
    obtain ⟨c3, c4, h⟩ := h
    refine u_iastore (k := (τ 140 39).toNat) (pc' := 85) dX11_house_84 rfl (by decide) kd_152 c3 c4 (by decide) rfl ⟨by decide, by decide⟩ ?_
    refine u_aload_n (i := 0) (pc' := 86) dX11_house_85 rfl rfl rfl ?_
    refine u_getR (a := 157) (pc' := 89) dX11_house_86 rfl fl_TuneDoorModel_97 rfl (by decide) kd_140 rfl ?_
    refine u_aload_n (i := 0) (pc' := 90) dX11_house_89 rfl rfl rfl ?_
    refine u_getI (z := (τ 140 39)) (pc' := 93) dX11_house_90 rfl fl_TuneDoorModel_130 rfl (by decide) (by decide) kd_140 rfl (fun r5 => ?_)
    refine u_iconst (pc' := 94) dX11_house_93 rfl ?_
    obtain ⟨c6, c7, h⟩ := h
    refine u_iastore (k := (τ 140 39).toNat) (pc' := 95) dX11_house_94 rfl (by decide) kd_157 c6 c7 (by decide) rfl ⟨by decide, by decide⟩ ?_
    refine u_aload_n (i := 0) (pc' := 96) dX11_house_95 rfl rfl rfl ?_
    refine u_getR (a := 163) (pc' := 99) dX11_house_96 rfl fl_TuneDoorModel_115 rfl (by decide) kd_140 rfl ?_
    refine u_aload_n (i := 0) (pc' := 100) dX11_house_99 rfl rfl rfl ?_
    refine u_getI (z := (τ 140 39)) (pc' := 103) dX11_house_100 rfl fl_TuneDoorModel_130 rfl (by decide) (by decide) kd_140 rfl (fun r8 => ?_)
    refine u_iconst (pc' := 104) dX11_house_103 rfl ?_
    obtain ⟨c9, c10, h⟩ := h
    refine u_iastore (k := (τ 140 39).toNat) (pc' := 105) dX11_house_104 rfl (by decide) kd_163 c9 c10 (by decide) rfl ⟨by decide, by decide⟩ ?_
    refine u_aload_n (i := 0) (pc' := 106) dX11_house_105 rfl rfl rfl ?_
    refine u_getR (a := 164) (pc' := 109) dX11_house_106 rfl fl_TuneDoorModel_118 rfl (by decide) kd_140 rfl ?_
    refine u_aload_n (i := 0) (pc' := 110) dX11_house_109 rfl rfl rfl ?_
    refine u_getI (z := (τ 140 39)) (pc' := 113) dX11_house_110 rfl fl_TuneDoorModel_130 rfl (by decide) (by decide) kd_140 rfl (fun r11 => ?_)
    refine u_iconst (pc' := 114) dX11_house_113 rfl ?_
    obtain ⟨c12, c13, h⟩ := h
    refine u_iastore (k := (τ 140 39).toNat) (pc' := 115) dX11_house_114 rfl (by decide) kd_164 c12 c13 (by decide) rfl ⟨by decide, by decide⟩ ?_
    refine u_aload_n (i := 0) (pc' := 116) dX11_house_115 rfl rfl rfl ?_
    refine u_iconst (pc' := 117) dX11_house_116 rfl ?_
    refine u_putI (pc' := 120) dX11_house_117 rfl fl_TuneDoorModel_127 rfl rfl (by decide) (by decide) kd_140 ⟨by decide, by decide⟩ ?_
    refine u_iconst (pc' := 121) dX11_house_120 rfl ?_
    refine s_istore_n (i := 1) (ls' := [some (vR 140), some (vI 1)]) (pc' := 122) dX11_house_121 rfl rfl (Nat.le_of_ble_eq_true rfl) rfl rfl ?_
    refine u_aload_n (i := 0) (pc' := 123) dX11_house_122 rfl rfl rfl ?_
    refine u_invV (q' := qX11_ahead) (As := []) (st := []) (pc' := 126) dX11_house_123 rfl gX11_ahead wm_1468 rfl rfl (by decide) kd_140 wm_1470 wp_74 rfl (Nat.le_of_ble_eq_true rfl) (M0.mono h (fun v τ14 h => ?_))
    obtain ⟨rfl, h⟩ := h
    show V0 E (d + 1) qX11_house 126 [some (vR 140), some (vI 1)] [] τ14 Q
    refine u_aload_n (i := 0) (pc' := 127) dX11_house_126 rfl rfl rfl ?_
    refine u_invV (q' := qX11_beginning) (As := []) (st := []) (pc' := 130) dX11_house_127 rfl gX11_beginning wm_1482 rfl rfl (by decide) kd_140 wm_1484 wp_76 rfl (Nat.le_of_ble_eq_true rfl) (M0.mono h (fun v τ15 h => ?_))
    obtain ⟨rfl, h⟩ := h
    show V0 E (d + 1) qX11_house 130 [some (vR 140), some (vI 1)] [] τ15 Q
    exact u_less (ls' := [some (vR 140), some (vI 1)]) ⟨rfl, ⟨rfl, trivial⟩⟩ h
  · have h := h.2 hb
    refine u_aload_n (i := 0) (pc' := 56) dX11_house_55 rfl rfl rfl ?_
    refine u_getR (a := 148) (pc' := 59) dX11_house_56 rfl fl_TuneDoorModel_70 rfl (by decide) kd_140 rfl ?_
    refine u_iconst (pc' := 60) dX11_house_59 rfl ?_
    refine u_aload_n (i := 0) (pc' := 61) dX11_house_60 rfl rfl rfl ?_
    refine u_getI (z := (τ 140 39)) (pc' := 64) dX11_house_61 rfl fl_TuneDoorModel_130 rfl (by decide) (by decide) kd_140 rfl (fun r16 => ?_)
    refine u_imul (pc' := 65) dX11_house_64 rfl ?_
    refine u_iload_n (i := 1) (pc' := 66) dX11_house_65 rfl rfl rfl ?_
    refine u_iadd (pc' := 67) dX11_house_66 rfl ?_
    refine u_iconst (pc' := 68) dX11_house_67 rfl ?_
    obtain ⟨c17, c18, h⟩ := h
    refine u_iastore (k := ((3 * (τ 140 39)) + x1).toNat) (pc' := 69) dX11_house_68 rfl (by decide) kd_148 c17 c18 (by decide) rfl ⟨by decide, by decide⟩ ?_
    refine s_iinc (i := 1) (ls' := [some (vR 140), some (vI (x1 + 1))]) (pc' := 72) dX11_house_69 rfl rfl (Nat.le_of_ble_eq_true rfl) rfl rfl ?_
    refine u_goto (tgt := 50) dX11_house_72 (by decide) ?_
    exact u_less (ls' := [some (vR 140), some (vI (x1 + 1))]) ⟨rfl, ⟨rfl, trivial⟩⟩ h
set_option maxRecDepth 20000 in
theorem bX11_house_130 {E : mm_Env} {d : Nat} {τ : mm_Mem} {Q : mm_Q0} {x1 : Int} (h : (((τ 140 8) ≠ 0 → (((τ 140 8) ≤ 0 → M0 E d qX11_begins [vR 140] (wr (wr (wr τ 140 10 (τ 140 8)) 140 11 (τ 140 9)) 140 12 (τ 140 39)) (fun v τ6 => v = none ∧ Q (some (vI x1)) τ6)) ∧ (¬ (τ 140 8) ≤ 0 → M0 E d qX11_refuses [vR 140, vI 1] (wr (wr τ 140 10 (τ 140 8)) 140 11 (τ 140 9)) (fun v τ7 => ∃ r8 : Int, v = some (vI r8) ∧ Q (some (vI r8)) τ7)))) ∧ ((τ 140 8) = 0 → (((τ 140 3) = 0 → (((τ 140 8) ≤ 0 → M0 E d qX11_begins [vR 140] (wr (wr (wr τ 140 10 (τ 140 8)) 140 11 (τ 140 9)) 140 12 (τ 140 39)) (fun v τ14 => v = none ∧ Q (some (vI x1)) τ14)) ∧ (¬ (τ 140 8) ≤ 0 → M0 E d qX11_refuses [vR 140, vI 1] (wr (wr τ 140 10 (τ 140 8)) 140 11 (τ 140 9)) (fun v τ15 => ∃ r16 : Int, v = some (vI r16) ∧ Q (some (vI r16)) τ15)))) ∧ (¬ (τ 140 3) = 0 → M0 E d qX11_statement [vR 140] τ (fun v τ17 => v = none ∧ V0 E (d + 1) qX11_house 130 [some (vR 140), some (vI (x1 + 1))] [] τ17 Q)))))) : V0 E (d + 1) qX11_house 130 [some (vR 140), some (vI x1)] [] τ Q := by
  refine u_aload_n (i := 0) (pc' := 131) dX11_house_130 rfl rfl rfl ?_
  refine u_getI (z := (τ 140 8)) (pc' := 134) dX11_house_131 rfl fl_TuneDoorModel_36 rfl (by decide) (by decide) kd_140 rfl (fun r1 => ?_)
  refine u_if_ne (tgt := 154) (pc' := 137) dX11_house_134 rfl (by decide) r1 (fun hb => ?_) (fun hb => ?_)
  · have h := h.1 hb
    refine u_aload_n (i := 0) (pc' := 155) dX11_house_154 rfl rfl rfl ?_
    refine u_aload_n (i := 0) (pc' := 156) dX11_house_155 rfl rfl rfl ?_
    refine u_getI (z := (τ 140 8)) (pc' := 159) dX11_house_156 rfl fl_TuneDoorModel_36 rfl (by decide) (by decide) kd_140 rfl (fun r2 => ?_)
    refine u_putI (pc' := 162) dX11_house_159 rfl fl_TuneDoorModel_42 rfl rfl (by decide) (by decide) kd_140 r2 ?_
    refine u_aload_n (i := 0) (pc' := 163) dX11_house_162 rfl rfl rfl ?_
    refine u_aload_n (i := 0) (pc' := 164) dX11_house_163 rfl rfl rfl ?_
    refine u_getI (z := (τ 140 9)) (pc' := 167) dX11_house_164 rfl fl_TuneDoorModel_39 rfl (by decide) (by decide) kd_140 rfl (fun r3 => ?_)
    refine u_putI (pc' := 170) dX11_house_167 rfl fl_TuneDoorModel_45 rfl rfl (by decide) (by decide) kd_140 r3 ?_
    refine u_aload_n (i := 0) (pc' := 171) dX11_house_170 rfl rfl rfl ?_
    refine u_getI (z := (τ 140 8)) (pc' := 174) dX11_house_171 rfl fl_TuneDoorModel_36 rfl (by decide) (by decide) kd_140 rfl (fun r4 => ?_)
    refine u_if_le (tgt := 183) (pc' := 177) dX11_house_174 rfl (by decide) r4 (fun hb => ?_) (fun hb => ?_)
    · have h := h.1 hb
      refine u_aload_n (i := 0) (pc' := 184) dX11_house_183 rfl rfl rfl ?_
      refine u_aload_n (i := 0) (pc' := 185) dX11_house_184 rfl rfl rfl ?_
      refine u_getI (z := (τ 140 39)) (pc' := 188) dX11_house_185 rfl fl_TuneDoorModel_130 rfl (by decide) (by decide) kd_140 rfl (fun r5 => ?_)
      refine u_putI (pc' := 191) dX11_house_188 rfl fl_TuneDoorModel_48 rfl rfl (by decide) (by decide) kd_140 r5 ?_
      refine u_aload_n (i := 0) (pc' := 192) dX11_house_191 rfl rfl rfl ?_
      refine u_invV (q' := qX11_begins) (As := []) (st := []) (pc' := 195) dX11_house_192 rfl gX11_begins wm_1628 rfl rfl (by decide) kd_140 wm_1630 wp_103 rfl (Nat.le_of_ble_eq_true rfl) (M0.mono h (fun v τ6 h => ?_))
      obtain ⟨rfl, h⟩ := h
      show V0 E (d + 1) qX11_house 195 [some (vR 140), some (vI x1)] [] τ6 Q
      refine u_iload_n (i := 1) (pc' := 196) dX11_house_195 rfl rfl rfl ?_
      exact u_iret dX11_house_196 rfl h
    · have h := h.2 hb
      refine u_aload_n (i := 0) (pc' := 178) dX11_house_177 rfl rfl rfl ?_
      refine u_iconst (pc' := 179) dX11_house_178 rfl ?_
      refine u_invV (q' := qX11_refuses) (As := [vI 1]) (st := []) (pc' := 182) dX11_house_179 rfl gX11_refuses wm_1452 rfl rfl (by decide) kd_140 wm_1454 wp_72 rfl (Nat.le_of_ble_eq_true rfl) (M0.mono h (fun v τ7 h => ?_))
      obtain ⟨r8, rfl, h⟩ := h
      show V0 E (d + 1) qX11_house 182 [some (vR 140), some (vI x1)] [vI r8] τ7 Q
      exact u_iret dX11_house_182 rfl h
  · have h := h.2 hb
    refine u_aload_n (i := 0) (pc' := 138) dX11_house_137 rfl rfl rfl ?_
    refine u_getI (z := (τ 140 3)) (pc' := 141) dX11_house_138 rfl fl_TuneDoorModel_20 rfl (by decide) (by decide) kd_140 rfl (fun r9 => ?_)
    refine u_if_eq (tgt := 154) (pc' := 144) dX11_house_141 rfl (by decide) r9 (fun hb => ?_) (fun hb => ?_)
    · have h := h.1 hb
      refine u_aload_n (i := 0) (pc' := 155) dX11_house_154 rfl rfl rfl ?_
      refine u_aload_n (i := 0) (pc' := 156) dX11_house_155 rfl rfl rfl ?_
      refine u_getI (z := (τ 140 8)) (pc' := 159) dX11_house_156 rfl fl_TuneDoorModel_36 rfl (by decide) (by decide) kd_140 rfl (fun r10 => ?_)
      refine u_putI (pc' := 162) dX11_house_159 rfl fl_TuneDoorModel_42 rfl rfl (by decide) (by decide) kd_140 r10 ?_
      refine u_aload_n (i := 0) (pc' := 163) dX11_house_162 rfl rfl rfl ?_
      refine u_aload_n (i := 0) (pc' := 164) dX11_house_163 rfl rfl rfl ?_
      refine u_getI (z := (τ 140 9)) (pc' := 167) dX11_house_164 rfl fl_TuneDoorModel_39 rfl (by decide) (by decide) kd_140 rfl (fun r11 => ?_)
      refine u_putI (pc' := 170) dX11_house_167 rfl fl_TuneDoorModel_45 rfl rfl (by decide) (by decide) kd_140 r11 ?_
      refine u_aload_n (i := 0) (pc' := 171) dX11_house_170 rfl rfl rfl ?_
      refine u_getI (z := (τ 140 8)) (pc' := 174) dX11_house_171 rfl fl_TuneDoorModel_36 rfl (by decide) (by decide) kd_140 rfl (fun r12 => ?_)
      refine u_if_le (tgt := 183) (pc' := 177) dX11_house_174 rfl (by decide) r12 (fun hb => ?_) (fun hb => ?_)
      · have h := h.1 hb
        refine u_aload_n (i := 0) (pc' := 184) dX11_house_183 rfl rfl rfl ?_
        refine u_aload_n (i := 0) (pc' := 185) dX11_house_184 rfl rfl rfl ?_
        refine u_getI (z := (τ 140 39)) (pc' := 188) dX11_house_185 rfl fl_TuneDoorModel_130 rfl (by decide) (by decide) kd_140 rfl (fun r13 => ?_)
        refine u_putI (pc' := 191) dX11_house_188 rfl fl_TuneDoorModel_48 rfl rfl (by decide) (by decide) kd_140 r13 ?_
        refine u_aload_n (i := 0) (pc' := 192) dX11_house_191 rfl rfl rfl ?_
        refine u_invV (q' := qX11_begins) (As := []) (st := []) (pc' := 195) dX11_house_192 rfl gX11_begins wm_1628 rfl rfl (by decide) kd_140 wm_1630 wp_103 rfl (Nat.le_of_ble_eq_true rfl) (M0.mono h (fun v τ14 h => ?_))
        obtain ⟨rfl, h⟩ := h
        show V0 E (d + 1) qX11_house 195 [some (vR 140), some (vI x1)] [] τ14 Q
        refine u_iload_n (i := 1) (pc' := 196) dX11_house_195 rfl rfl rfl ?_
        exact u_iret dX11_house_196 rfl h
      · have h := h.2 hb
        refine u_aload_n (i := 0) (pc' := 178) dX11_house_177 rfl rfl rfl ?_
        refine u_iconst (pc' := 179) dX11_house_178 rfl ?_
        refine u_invV (q' := qX11_refuses) (As := [vI 1]) (st := []) (pc' := 182) dX11_house_179 rfl gX11_refuses wm_1452 rfl rfl (by decide) kd_140 wm_1454 wp_72 rfl (Nat.le_of_ble_eq_true rfl) (M0.mono h (fun v τ15 h => ?_))
        obtain ⟨r16, rfl, h⟩ := h
        show V0 E (d + 1) qX11_house 182 [some (vR 140), some (vI x1)] [vI r16] τ15 Q
        exact u_iret dX11_house_182 rfl h
    · have h := h.2 hb
      refine u_aload_n (i := 0) (pc' := 145) dX11_house_144 rfl rfl rfl ?_
      refine u_invV (q' := qX11_statement) (As := []) (st := []) (pc' := 148) dX11_house_145 rfl gX11_statement wm_1511 rfl rfl (by decide) kd_140 wm_1513 wp_82 rfl (Nat.le_of_ble_eq_true rfl) (M0.mono h (fun v τ17 h => ?_))
      obtain ⟨rfl, h⟩ := h
      show V0 E (d + 1) qX11_house 148 [some (vR 140), some (vI x1)] [] τ17 Q
      refine s_iinc (i := 1) (ls' := [some (vR 140), some (vI (x1 + 1))]) (pc' := 151) dX11_house_148 rfl rfl (Nat.le_of_ble_eq_true rfl) rfl rfl ?_
      refine u_goto (tgt := 130) dX11_house_151 (by decide) ?_
      exact u_less (ls' := [some (vR 140), some (vI (x1 + 1))]) ⟨rfl, ⟨rfl, trivial⟩⟩ h
set_option maxRecDepth 20000 in
theorem bX11_ahead_0 {E : mm_Env} {d : Nat} {τ : mm_Mem} {Q : mm_Q0}  (h : V0 E (d + 1) qX11_ahead 5 [some (vR 140), some (vI (τ 140 5)), none, none, none, none] [] τ Q) : V0 E (d + 1) qX11_ahead 0 [some (vR 140), none, none, none, none, none] [] τ Q := by
  refine u_aload_n (i := 0) (pc' := 1) dX11_ahead_0 rfl rfl rfl ?_
  refine u_getI (z := (τ 140 5)) (pc' := 4) dX11_ahead_1 rfl fl_TuneDoorModel_26 rfl (by decide) (by decide) kd_140 rfl (fun r1 => ?_)
  refine s_istore_n (i := 1) (ls' := [some (vR 140), some (vI (τ 140 5)), none, none, none, none]) (pc' := 5) dX11_ahead_4 rfl rfl (Nat.le_of_ble_eq_true rfl) rfl rfl ?_
  exact u_less (ls' := [some (vR 140), some (vI (τ 140 5)), none, none, none, none]) ⟨rfl, ⟨rfl, trivial⟩⟩ h
theorem mX11_ahead {E : mm_Env} {d : Nat} {τ : mm_Mem} {Q : mm_Q0}  (h : V0 E (d + 1) qX11_ahead 5 [some (vR 140), some (vI (τ 140 5)), none, none, none, none] [] τ Q) : M0 E (d + 1) qX11_ahead [vR 140] τ Q := M0_of rfl (Nat.le_of_ble_eq_true rfl) [some (vR 140), none, none, none, none, none] rfl (bX11_ahead_0  h)
set_option maxRecDepth 20000 in
theorem bX11_ahead_5 {E : mm_Env} {d : Nat} {τ : mm_Mem} {Q : mm_Q0} {x1 : Int} (h : inR x1 ∧ (((τ 140 2) ≤ x1 → V0 E (d + 1) qX11_ahead 41 [some (vR 140), some (vI x1), none, none, none, none] [] τ Q) ∧ (¬ (τ 140 2) ≤ x1 → 0 ≤ x1 ∧ x1 < 1800 ∧ (((τ 141 x1.toNat) = 32 → V0 E (d + 1) qX11_ahead 5 [some (vR 140), some (vI (x1 + 1)), none, none, none, none] [] τ Q) ∧ (¬ (τ 141 x1.toNat) = 32 → 0 ≤ x1 ∧ x1 < 1800 ∧ (((τ 141 x1.toNat) ≠ 10 → V0 E (d + 1) qX11_ahead 41 [some (vR 140), some (vI x1), none, none, none, none] [] τ Q) ∧ ((τ 141 x1.toNat) = 10 → V0 E (d + 1) qX11_ahead 5 [some (vR 140), some (vI (x1 + 1)), none, none, none, none] [] τ Q))))))) : V0 E (d + 1) qX11_ahead 5 [some (vR 140), some (vI x1), none, none, none, none] [] τ Q := by
  refine u_iload_n (i := 1) (pc' := 6) dX11_ahead_5 rfl rfl rfl ?_
  refine u_aload_n (i := 0) (pc' := 7) dX11_ahead_6 rfl rfl rfl ?_
  refine u_getI (z := (τ 140 2)) (pc' := 10) dX11_ahead_7 rfl fl_TuneDoorModel_17 rfl (by decide) (by decide) kd_140 rfl (fun r1 => ?_)
  obtain ⟨c2, h⟩ := h
  refine u_icmp_ge (tgt := 41) (pc' := 13) dX11_ahead_10 rfl (by decide) c2 r1 (fun hb => ?_) (fun hb => ?_)
  · have h := h.1 hb
    exact u_less (ls' := [some (vR 140), some (vI x1), none, none, none, none]) ⟨rfl, ⟨rfl, trivial⟩⟩ h
  · have h := h.2 hb
    refine u_aload_n (i := 0) (pc' := 14) dX11_ahead_13 rfl rfl rfl ?_
    refine u_getR (a := 141) (pc' := 17) dX11_ahead_14 rfl fl_TuneDoorModel_7 rfl (by decide) kd_140 rfl ?_
    refine u_iload_n (i := 1) (pc' := 18) dX11_ahead_17 rfl rfl rfl ?_
    obtain ⟨c3, c4, h⟩ := h
    refine u_iaload (k := x1.toNat) (z := (τ 141 x1.toNat)) (pc' := 19) dX11_ahead_18 rfl (by decide) kd_141 c3 c4 (by decide) rfl rfl (fun r5 => ?_)
    refine u_bipush (pc' := 21) dX11_ahead_19 rfl (by decide) ?_
    refine u_icmp_eq (tgt := 35) (pc' := 24) dX11_ahead_21 rfl (by decide) r5 ⟨by decide, by decide⟩ (fun hb => ?_) (fun hb => ?_)
    · have h := h.1 hb
      refine s_iinc (i := 1) (ls' := [some (vR 140), some (vI (x1 + 1)), none, none, none, none]) (pc' := 38) dX11_ahead_35 rfl rfl (Nat.le_of_ble_eq_true rfl) rfl rfl ?_
      refine u_goto (tgt := 5) dX11_ahead_38 (by decide) ?_
      exact u_less (ls' := [some (vR 140), some (vI (x1 + 1)), none, none, none, none]) ⟨rfl, ⟨rfl, trivial⟩⟩ h
    · have h := h.2 hb
      refine u_aload_n (i := 0) (pc' := 25) dX11_ahead_24 rfl rfl rfl ?_
      refine u_getR (a := 141) (pc' := 28) dX11_ahead_25 rfl fl_TuneDoorModel_7 rfl (by decide) kd_140 rfl ?_
      refine u_iload_n (i := 1) (pc' := 29) dX11_ahead_28 rfl rfl rfl ?_
      obtain ⟨c6, c7, h⟩ := h
      refine u_iaload (k := x1.toNat) (z := (τ 141 x1.toNat)) (pc' := 30) dX11_ahead_29 rfl (by decide) kd_141 c6 c7 (by decide) rfl rfl (fun r8 => ?_)
      refine u_bipush (pc' := 32) dX11_ahead_30 rfl (by decide) ?_
      refine u_icmp_ne (tgt := 41) (pc' := 35) dX11_ahead_32 rfl (by decide) r8 ⟨by decide, by decide⟩ (fun hb => ?_) (fun hb => ?_)
      · have h := h.1 hb
        exact u_less (ls' := [some (vR 140), some (vI x1), none, none, none, none]) ⟨rfl, ⟨rfl, trivial⟩⟩ h
      · have h := h.2 hb
        refine s_iinc (i := 1) (ls' := [some (vR 140), some (vI (x1 + 1)), none, none, none, none]) (pc' := 38) dX11_ahead_35 rfl rfl (Nat.le_of_ble_eq_true rfl) rfl rfl ?_
        refine u_goto (tgt := 5) dX11_ahead_38 (by decide) ?_
        exact u_less (ls' := [some (vR 140), some (vI (x1 + 1)), none, none, none, none]) ⟨rfl, ⟨rfl, trivial⟩⟩ h
set_option maxRecDepth 20000 in
theorem bX11_ahead_41 {E : mm_Env} {d : Nat} {τ : mm_Mem} {Q : mm_Q0} {x1 : Int} (h : inR x1 ∧ ((x1 < (τ 140 2) → 0 ≤ x1 ∧ x1 < 1800 ∧ M0 E d qX11_isLetter [vI (τ 141 x1.toNat)] (wr (wr (wr τ 140 4 x1) 140 5 x1) 140 3 0) (fun v τ6 => ∃ b7 : Bool, v = some (vB b7) ∧ 0 ≤ x1 ∧ x1 < 1800 ∧ M0 E d qX11_isDigit [vI (τ6 141 x1.toNat)] τ6 (fun v τ11 => ∃ b12 : Bool, v = some (vB b12) ∧ ((b7 = true → V0 E (d + 1) qX11_ahead 93 [some (vR 140), some (vI x1), some (vB b7), some (vB b12), none, none] [] τ11 Q) ∧ (b7 = false → ((b12 = false → V0 E (d + 1) qX11_ahead 131 [some (vR 140), some (vI x1), some (vB b7), some (vB b12), none, none] [] τ11 Q) ∧ (b12 = true → V0 E (d + 1) qX11_ahead 93 [some (vR 140), some (vI x1), some (vB b7), some (vB b12), none, none] [] τ11 Q))))))) ∧ (¬ x1 < (τ 140 2) → Q none (wr (wr (wr τ 140 4 x1) 140 5 x1) 140 3 0)))) : V0 E (d + 1) qX11_ahead 41 [some (vR 140), some (vI x1), none, none, none, none] [] τ Q := by
  refine u_aload_n (i := 0) (pc' := 42) dX11_ahead_41 rfl rfl rfl ?_
  refine u_iload_n (i := 1) (pc' := 43) dX11_ahead_42 rfl rfl rfl ?_
  obtain ⟨c1, h⟩ := h
  refine u_putI (pc' := 46) dX11_ahead_43 rfl fl_TuneDoorModel_23 rfl rfl (by decide) (by decide) kd_140 c1 ?_
  refine u_aload_n (i := 0) (pc' := 47) dX11_ahead_46 rfl rfl rfl ?_
  refine u_iload_n (i := 1) (pc' := 48) dX11_ahead_47 rfl rfl rfl ?_
  refine u_putI (pc' := 51) dX11_ahead_48 rfl fl_TuneDoorModel_26 rfl rfl (by decide) (by decide) kd_140 c1 ?_
  refine u_aload_n (i := 0) (pc' := 52) dX11_ahead_51 rfl rfl rfl ?_
  refine u_iconst (pc' := 53) dX11_ahead_52 rfl ?_
  refine u_putI (pc' := 56) dX11_ahead_53 rfl fl_TuneDoorModel_20 rfl rfl (by decide) (by decide) kd_140 ⟨by decide, by decide⟩ ?_
  refine u_iload_n (i := 1) (pc' := 57) dX11_ahead_56 rfl rfl rfl ?_
  refine u_aload_n (i := 0) (pc' := 58) dX11_ahead_57 rfl rfl rfl ?_
  refine u_getI (z := (τ 140 2)) (pc' := 61) dX11_ahead_58 rfl fl_TuneDoorModel_17 rfl (by decide) (by decide) kd_140 rfl (fun r2 => ?_)
  refine u_icmp_lt (tgt := 65) (pc' := 64) dX11_ahead_61 rfl (by decide) c1 r2 (fun hb => ?_) (fun hb => ?_)
  · have h := h.1 hb
    refine u_aload_n (i := 0) (pc' := 66) dX11_ahead_65 rfl rfl rfl ?_
    refine u_getR (a := 141) (pc' := 69) dX11_ahead_66 rfl fl_TuneDoorModel_7 rfl (by decide) kd_140 rfl ?_
    refine u_iload_n (i := 1) (pc' := 70) dX11_ahead_69 rfl rfl rfl ?_
    obtain ⟨c3, c4, h⟩ := h
    refine u_iaload (k := x1.toNat) (z := (τ 141 x1.toNat)) (pc' := 71) dX11_ahead_70 rfl (by decide) kd_141 c3 c4 (by decide) rfl rfl (fun r5 => ?_)
    refine u_invS (q' := qX11_isLetter) (As := [vI (τ 141 x1.toNat)]) (st := []) (pc' := 74) dX11_ahead_71 rfl gX11_isLetter wm_1472 wm_1473 rfl (Nat.le_of_ble_eq_true rfl) (M0.mono h (fun v τ6 h => ?_))
    obtain ⟨b7, rfl, h⟩ := h
    show V0 E (d + 1) qX11_ahead 74 [some (vR 140), some (vI x1), none, none, none, none] [vB b7] τ6 Q
    refine s_istore_n (i := 2) (ls' := [some (vR 140), some (vI x1), some (vB b7), none, none, none]) (pc' := 75) dX11_ahead_74 rfl rfl (Nat.le_of_ble_eq_true rfl) rfl rfl ?_
    refine u_aload_n (i := 0) (pc' := 76) dX11_ahead_75 rfl rfl rfl ?_
    refine u_getR (a := 141) (pc' := 79) dX11_ahead_76 rfl fl_TuneDoorModel_7 rfl (by decide) kd_140 rfl ?_
    refine u_iload_n (i := 1) (pc' := 80) dX11_ahead_79 rfl rfl rfl ?_
    obtain ⟨c8, c9, h⟩ := h
    refine u_iaload (k := x1.toNat) (z := (τ6 141 x1.toNat)) (pc' := 81) dX11_ahead_80 rfl (by decide) kd_141 c8 c9 (by decide) rfl rfl (fun r10 => ?_)
    refine u_invS (q' := qX11_isDigit) (As := [vI (τ6 141 x1.toNat)]) (st := []) (pc' := 84) dX11_ahead_81 rfl gX11_isDigit wm_1475 wm_1476 rfl (Nat.le_of_ble_eq_true rfl) (M0.mono h (fun v τ11 h => ?_))
    obtain ⟨b12, rfl, h⟩ := h
    show V0 E (d + 1) qX11_ahead 84 [some (vR 140), some (vI x1), some (vB b7), none, none, none] [vB b12] τ11 Q
    refine s_istore_n (i := 3) (ls' := [some (vR 140), some (vI x1), some (vB b7), some (vB b12), none, none]) (pc' := 85) dX11_ahead_84 rfl rfl (Nat.le_of_ble_eq_true rfl) rfl rfl ?_
    refine u_iload_n (i := 2) (pc' := 86) dX11_ahead_85 rfl rfl rfl ?_
    refine u_if_ne (tgt := 93) (pc' := 89) dX11_ahead_86 rfl (by decide) (bI_R _) (fun hb => ?_) (fun hb => ?_)
    · have h := h.1 (bI_n0.mp hb)
      exact u_less (ls' := [some (vR 140), some (vI x1), some (vB b7), some (vB b12), none, none]) ⟨rfl, ⟨rfl, ⟨rfl, ⟨rfl, trivial⟩⟩⟩⟩ h
    · have h := h.2 (bI_0.mp hb)
      refine u_iload_n (i := 3) (pc' := 90) dX11_ahead_89 rfl rfl rfl ?_
      refine u_if_eq (tgt := 131) (pc' := 93) dX11_ahead_90 rfl (by decide) (bI_R _) (fun hb => ?_) (fun hb => ?_)
      · have h := h.1 (bI_0.mp hb)
        exact u_less (ls' := [some (vR 140), some (vI x1), some (vB b7), some (vB b12), none, none]) ⟨rfl, ⟨rfl, ⟨rfl, ⟨rfl, trivial⟩⟩⟩⟩ h
      · have h := h.2 (bI_n0.mp hb)
        exact u_less (ls' := [some (vR 140), some (vI x1), some (vB b7), some (vB b12), none, none]) ⟨rfl, ⟨rfl, ⟨rfl, ⟨rfl, trivial⟩⟩⟩⟩ h
  · have h := h.2 hb
    exact u_ret dX11_ahead_64 rfl h
set_option maxRecDepth 20000 in
theorem bX11_ahead_93 {E : mm_Env} {d : Nat} {τ : mm_Mem} {Q : mm_Q0} {x1 : Int} {x2 : Bool} {x3 : Bool} (h : inR x1 ∧ ((x1 ≤ 0 → V0 E (d + 1) qX11_ahead 131 [some (vR 140), some (vI x1), some (vB x2), some (vB x3), none, none] [] τ Q) ∧ (¬ x1 ≤ 0 → 0 ≤ (x1 - 1) ∧ (x1 - 1) < 1800 ∧ M0 E d qX11_isLetter [vI (τ 141 (x1 - 1).toNat)] τ (fun v τ5 => ∃ b6 : Bool, v = some (vB b6) ∧ ((b6 = true → M0 E d qX11_blame [vR 140, vI 1, vI x1] τ5 (fun v τ7 => v = none ∧ V0 E (d + 1) qX11_ahead 131 [some (vR 140), some (vI x1), some (vB x2), some (vB x3), none, none] [] τ7 Q)) ∧ (b6 = false → 0 ≤ (x1 - 1) ∧ (x1 - 1) < 1800 ∧ M0 E d qX11_isDigit [vI (τ5 141 (x1 - 1).toNat)] τ5 (fun v τ11 => ∃ b12 : Bool, v = some (vB b12) ∧ ((b12 = false → V0 E (d + 1) qX11_ahead 131 [some (vR 140), some (vI x1), some (vB x2), some (vB x3), none, none] [] τ11 Q) ∧ (b12 = true → M0 E d qX11_blame [vR 140, vI 1, vI x1] τ11 (fun v τ13 => v = none ∧ V0 E (d + 1) qX11_ahead 131 [some (vR 140), some (vI x1), some (vB x2), some (vB x3), none, none] [] τ13 Q)))))))))) : V0 E (d + 1) qX11_ahead 93 [some (vR 140), some (vI x1), some (vB x2), some (vB x3), none, none] [] τ Q := by
  refine u_iload_n (i := 1) (pc' := 94) dX11_ahead_93 rfl rfl rfl ?_
  obtain ⟨c1, h⟩ := h
  refine u_if_le (tgt := 131) (pc' := 97) dX11_ahead_94 rfl (by decide) c1 (fun hb => ?_) (fun hb => ?_)
  · have h := h.1 hb
    exact u_less (ls' := [some (vR 140), some (vI x1), some (vB x2), some (vB x3), none, none]) ⟨rfl, ⟨rfl, ⟨rfl, ⟨rfl, trivial⟩⟩⟩⟩ h
  · have h := h.2 hb
    refine u_aload_n (i := 0) (pc' := 98) dX11_ahead_97 rfl rfl rfl ?_
    refine u_getR (a := 141) (pc' := 101) dX11_ahead_98 rfl fl_TuneDoorModel_7 rfl (by decide) kd_140 rfl ?_
    refine u_iload_n (i := 1) (pc' := 102) dX11_ahead_101 rfl rfl rfl ?_
    refine u_iconst (pc' := 103) dX11_ahead_102 rfl ?_
    refine u_isub (pc' := 104) dX11_ahead_103 rfl ?_
    obtain ⟨c2, c3, h⟩ := h
    refine u_iaload (k := (x1 - 1).toNat) (z := (τ 141 (x1 - 1).toNat)) (pc' := 105) dX11_ahead_104 rfl (by decide) kd_141 c2 c3 (by decide) rfl rfl (fun r4 => ?_)
    refine u_invS (q' := qX11_isLetter) (As := [vI (τ 141 (x1 - 1).toNat)]) (st := []) (pc' := 108) dX11_ahead_105 rfl gX11_isLetter wm_1472 wm_1473 rfl (Nat.le_of_ble_eq_true rfl) (M0.mono h (fun v τ5 h => ?_))
    obtain ⟨b6, rfl, h⟩ := h
    show V0 E (d + 1) qX11_ahead 108 [some (vR 140), some (vI x1), some (vB x2), some (vB x3), none, none] [vB b6] τ5 Q
    refine u_if_ne (tgt := 125) (pc' := 111) dX11_ahead_108 rfl (by decide) (bI_R _) (fun hb => ?_) (fun hb => ?_)
    · have h := h.1 (bI_n0.mp hb)
      refine u_aload_n (i := 0) (pc' := 126) dX11_ahead_125 rfl rfl rfl ?_
      refine u_iconst (pc' := 127) dX11_ahead_126 rfl ?_
      refine u_iload_n (i := 1) (pc' := 128) dX11_ahead_127 rfl rfl rfl ?_
      refine u_invV (q' := qX11_blame) (As := [vI 1, vI x1]) (st := []) (pc' := 131) dX11_ahead_128 rfl gX11_blame wm_1478 rfl rfl (by decide) kd_140 wm_1480 wp_75 rfl (Nat.le_of_ble_eq_true rfl) (M0.mono h (fun v τ7 h => ?_))
      obtain ⟨rfl, h⟩ := h
      show V0 E (d + 1) qX11_ahead 131 [some (vR 140), some (vI x1), some (vB x2), some (vB x3), none, none] [] τ7 Q
      exact u_less (ls' := [some (vR 140), some (vI x1), some (vB x2), some (vB x3), none, none]) ⟨rfl, ⟨rfl, ⟨rfl, ⟨rfl, trivial⟩⟩⟩⟩ h
    · have h := h.2 (bI_0.mp hb)
      refine u_aload_n (i := 0) (pc' := 112) dX11_ahead_111 rfl rfl rfl ?_
      refine u_getR (a := 141) (pc' := 115) dX11_ahead_112 rfl fl_TuneDoorModel_7 rfl (by decide) kd_140 rfl ?_
      refine u_iload_n (i := 1) (pc' := 116) dX11_ahead_115 rfl rfl rfl ?_
      refine u_iconst (pc' := 117) dX11_ahead_116 rfl ?_
      refine u_isub (pc' := 118) dX11_ahead_117 rfl ?_
      obtain ⟨c8, c9, h⟩ := h
      refine u_iaload (k := (x1 - 1).toNat) (z := (τ5 141 (x1 - 1).toNat)) (pc' := 119) dX11_ahead_118 rfl (by decide) kd_141 c8 c9 (by decide) rfl rfl (fun r10 => ?_)
      refine u_invS (q' := qX11_isDigit) (As := [vI (τ5 141 (x1 - 1).toNat)]) (st := []) (pc' := 122) dX11_ahead_119 rfl gX11_isDigit wm_1475 wm_1476 rfl (Nat.le_of_ble_eq_true rfl) (M0.mono h (fun v τ11 h => ?_))
      obtain ⟨b12, rfl, h⟩ := h
      show V0 E (d + 1) qX11_ahead 122 [some (vR 140), some (vI x1), some (vB x2), some (vB x3), none, none] [vB b12] τ11 Q
      refine u_if_eq (tgt := 131) (pc' := 125) dX11_ahead_122 rfl (by decide) (bI_R _) (fun hb => ?_) (fun hb => ?_)
      · have h := h.1 (bI_0.mp hb)
        exact u_less (ls' := [some (vR 140), some (vI x1), some (vB x2), some (vB x3), none, none]) ⟨rfl, ⟨rfl, ⟨rfl, ⟨rfl, trivial⟩⟩⟩⟩ h
      · have h := h.2 (bI_n0.mp hb)
        refine u_aload_n (i := 0) (pc' := 126) dX11_ahead_125 rfl rfl rfl ?_
        refine u_iconst (pc' := 127) dX11_ahead_126 rfl ?_
        refine u_iload_n (i := 1) (pc' := 128) dX11_ahead_127 rfl rfl rfl ?_
        refine u_invV (q' := qX11_blame) (As := [vI 1, vI x1]) (st := []) (pc' := 131) dX11_ahead_128 rfl gX11_blame wm_1478 rfl rfl (by decide) kd_140 wm_1480 wp_75 rfl (Nat.le_of_ble_eq_true rfl) (M0.mono h (fun v τ13 h => ?_))
        obtain ⟨rfl, h⟩ := h
        show V0 E (d + 1) qX11_ahead 131 [some (vR 140), some (vI x1), some (vB x2), some (vB x3), none, none] [] τ13 Q
        exact u_less (ls' := [some (vR 140), some (vI x1), some (vB x2), some (vB x3), none, none]) ⟨rfl, ⟨rfl, ⟨rfl, ⟨rfl, trivial⟩⟩⟩⟩ h
set_option maxRecDepth 20000 in
theorem bX11_ahead_131 {E : mm_Env} {d : Nat} {τ : mm_Mem} {Q : mm_Q0} {x1 : Int} {x2 : Bool} {x3 : Bool} (h : inR (x1 + 1) ∧ ((x2 = true → V0 E (d + 1) qX11_ahead 172 [some (vR 140), some (vI x1), some (vB x2), some (vB x3), none, none] [] (wr (wr (wr (wr τ 140 6 0) 140 7 0) 140 3 3) 140 5 (x1 + 1)) Q) ∧ (x2 = false → ((x3 = true → V0 E (d + 1) qX11_ahead 172 [some (vR 140), some (vI x1), some (vB x2), some (vB x3), none, none] [] (wr (wr (wr (wr τ 140 6 0) 140 7 0) 140 3 3) 140 5 (x1 + 1)) Q) ∧ (x3 = false → 0 ≤ x1 ∧ x1 < 1800 ∧ Q none (wr (wr (wr (wr (wr τ 140 6 0) 140 7 0) 140 3 3) 140 5 (x1 + 1)) 140 6 (τ 141 x1.toNat))))))) : V0 E (d + 1) qX11_ahead 131 [some (vR 140), some (vI x1), some (vB x2), some (vB x3), none, none] [] τ Q := by
  refine u_aload_n (i := 0) (pc' := 132) dX11_ahead_131 rfl rfl rfl ?_
  refine u_iconst (pc' := 133) dX11_ahead_132 rfl ?_
  refine u_putI (pc' := 136) dX11_ahead_133 rfl fl_TuneDoorModel_29 rfl rfl (by decide) (by decide) kd_140 ⟨by decide, by decide⟩ ?_
  refine u_aload_n (i := 0) (pc' := 137) dX11_ahead_136 rfl rfl rfl ?_
  refine u_lconst (z := 0) (pc' := 138) dX11_ahead_137 rfl (by decide) ?_
  refine u_putL (pc' := 141) dX11_ahead_138 rfl fl_TuneDoorModel_32 rfl rfl rfl (by decide) kd_140 ?_
  refine u_aload_n (i := 0) (pc' := 142) dX11_ahead_141 rfl rfl rfl ?_
  refine u_iconst (pc' := 143) dX11_ahead_142 rfl ?_
  refine u_putI (pc' := 146) dX11_ahead_143 rfl fl_TuneDoorModel_20 rfl rfl (by decide) (by decide) kd_140 ⟨by decide, by decide⟩ ?_
  refine u_aload_n (i := 0) (pc' := 147) dX11_ahead_146 rfl rfl rfl ?_
  refine u_iload_n (i := 1) (pc' := 148) dX11_ahead_147 rfl rfl rfl ?_
  refine u_iconst (pc' := 149) dX11_ahead_148 rfl ?_
  refine u_iadd (pc' := 150) dX11_ahead_149 rfl ?_
  obtain ⟨c1, h⟩ := h
  refine u_putI (pc' := 153) dX11_ahead_150 rfl fl_TuneDoorModel_26 rfl rfl (by decide) (by decide) kd_140 c1 ?_
  refine u_iload_n (i := 2) (pc' := 154) dX11_ahead_153 rfl rfl rfl ?_
  refine u_if_ne (tgt := 172) (pc' := 157) dX11_ahead_154 rfl (by decide) (bI_R _) (fun hb => ?_) (fun hb => ?_)
  · have h := h.1 (bI_n0.mp hb)
    exact u_less (ls' := [some (vR 140), some (vI x1), some (vB x2), some (vB x3), none, none]) ⟨rfl, ⟨rfl, ⟨rfl, ⟨rfl, trivial⟩⟩⟩⟩ h
  · have h := h.2 (bI_0.mp hb)
    refine u_iload_n (i := 3) (pc' := 158) dX11_ahead_157 rfl rfl rfl ?_
    refine u_if_ne (tgt := 172) (pc' := 161) dX11_ahead_158 rfl (by decide) (bI_R _) (fun hb => ?_) (fun hb => ?_)
    · have h := h.1 (bI_n0.mp hb)
      exact u_less (ls' := [some (vR 140), some (vI x1), some (vB x2), some (vB x3), none, none]) ⟨rfl, ⟨rfl, ⟨rfl, ⟨rfl, trivial⟩⟩⟩⟩ h
    · have h := h.2 (bI_0.mp hb)
      refine u_aload_n (i := 0) (pc' := 162) dX11_ahead_161 rfl rfl rfl ?_
      refine u_aload_n (i := 0) (pc' := 163) dX11_ahead_162 rfl rfl rfl ?_
      refine u_getR (a := 141) (pc' := 166) dX11_ahead_163 rfl fl_TuneDoorModel_7 rfl (by decide) kd_140 rfl ?_
      refine u_iload_n (i := 1) (pc' := 167) dX11_ahead_166 rfl rfl rfl ?_
      obtain ⟨c2, c3, h⟩ := h
      refine u_iaload (k := x1.toNat) (z := (τ 141 x1.toNat)) (pc' := 168) dX11_ahead_167 rfl (by decide) kd_141 c2 c3 (by decide) rfl rfl (fun r4 => ?_)
      refine u_putI (pc' := 171) dX11_ahead_168 rfl fl_TuneDoorModel_29 rfl rfl (by decide) (by decide) kd_140 r4 ?_
      exact u_ret dX11_ahead_171 rfl h
set_option maxRecDepth 20000 in
theorem bX11_ahead_172 {E : mm_Env} {d : Nat} {τ : mm_Mem} {Q : mm_Q0} {x1 : Int} {x2 : Bool} {x3 : Bool} (h : ((x2 = false → ((x2 = false → V0 E (d + 1) qX11_ahead 200 [some (vR 140), some (vI x1), some (vB x2), some (vB x3), some (vI 4), some (vI 0)] [] (wr τ 140 3 2) Q) ∧ (x2 = true → V0 E (d + 1) qX11_ahead 200 [some (vR 140), some (vI x1), some (vB x2), some (vB x3), some (vI 6), some (vI 0)] [] (wr τ 140 3 2) Q))) ∧ (x2 = true → ((x2 = false → V0 E (d + 1) qX11_ahead 200 [some (vR 140), some (vI x1), some (vB x2), some (vB x3), some (vI 4), some (vI 0)] [] (wr τ 140 3 1) Q) ∧ (x2 = true → V0 E (d + 1) qX11_ahead 200 [some (vR 140), some (vI x1), some (vB x2), some (vB x3), some (vI 6), some (vI 0)] [] (wr τ 140 3 1) Q))))) : V0 E (d + 1) qX11_ahead 172 [some (vR 140), some (vI x1), some (vB x2), some (vB x3), none, none] [] τ Q := by
  refine u_aload_n (i := 0) (pc' := 173) dX11_ahead_172 rfl rfl rfl ?_
  refine u_iload_n (i := 2) (pc' := 174) dX11_ahead_173 rfl rfl rfl ?_
  refine u_if_eq (tgt := 181) (pc' := 177) dX11_ahead_174 rfl (by decide) (bI_R _) (fun hb => ?_) (fun hb => ?_)
  · have h := h.1 (bI_0.mp hb)
    refine u_iconst (pc' := 182) dX11_ahead_181 rfl ?_
    refine u_putI (pc' := 185) dX11_ahead_182 rfl fl_TuneDoorModel_20 rfl rfl (by decide) (by decide) kd_140 ⟨by decide, by decide⟩ ?_
    refine u_iload_n (i := 2) (pc' := 186) dX11_ahead_185 rfl rfl rfl ?_
    refine u_if_eq (tgt := 194) (pc' := 189) dX11_ahead_186 rfl (by decide) (bI_R _) (fun hb => ?_) (fun hb => ?_)
    · have h := h.1 (bI_0.mp hb)
      refine u_iconst (pc' := 195) dX11_ahead_194 rfl ?_
      refine s_istore (i := 4) (ls' := [some (vR 140), some (vI x1), some (vB x2), some (vB x3), some (vI 4), none]) (pc' := 197) dX11_ahead_195 rfl (Nat.le_of_ble_eq_true rfl) rfl rfl ?_
      refine u_iconst (pc' := 198) dX11_ahead_197 rfl ?_
      refine s_istore (i := 5) (ls' := [some (vR 140), some (vI x1), some (vB x2), some (vB x3), some (vI 4), some (vI 0)]) (pc' := 200) dX11_ahead_198 rfl (Nat.le_of_ble_eq_true rfl) rfl rfl ?_
      exact u_less (ls' := [some (vR 140), some (vI x1), some (vB x2), some (vB x3), some (vI 4), some (vI 0)]) ⟨rfl, ⟨rfl, ⟨rfl, ⟨rfl, ⟨rfl, ⟨rfl, trivial⟩⟩⟩⟩⟩⟩ h
    · have h := h.2 (bI_n0.mp hb)
      refine u_bipush (pc' := 191) dX11_ahead_189 rfl (by decide) ?_
      refine u_goto (tgt := 195) dX11_ahead_191 (by decide) ?_
      refine s_istore (i := 4) (ls' := [some (vR 140), some (vI x1), some (vB x2), some (vB x3), some (vI 6), none]) (pc' := 197) dX11_ahead_195 rfl (Nat.le_of_ble_eq_true rfl) rfl rfl ?_
      refine u_iconst (pc' := 198) dX11_ahead_197 rfl ?_
      refine s_istore (i := 5) (ls' := [some (vR 140), some (vI x1), some (vB x2), some (vB x3), some (vI 6), some (vI 0)]) (pc' := 200) dX11_ahead_198 rfl (Nat.le_of_ble_eq_true rfl) rfl rfl ?_
      exact u_less (ls' := [some (vR 140), some (vI x1), some (vB x2), some (vB x3), some (vI 6), some (vI 0)]) ⟨rfl, ⟨rfl, ⟨rfl, ⟨rfl, ⟨rfl, ⟨rfl, trivial⟩⟩⟩⟩⟩⟩ h
  · have h := h.2 (bI_n0.mp hb)
    refine u_iconst (pc' := 178) dX11_ahead_177 rfl ?_
    refine u_goto (tgt := 182) dX11_ahead_178 (by decide) ?_
    refine u_putI (pc' := 185) dX11_ahead_182 rfl fl_TuneDoorModel_20 rfl rfl (by decide) (by decide) kd_140 ⟨by decide, by decide⟩ ?_
    refine u_iload_n (i := 2) (pc' := 186) dX11_ahead_185 rfl rfl rfl ?_
    refine u_if_eq (tgt := 194) (pc' := 189) dX11_ahead_186 rfl (by decide) (bI_R _) (fun hb => ?_) (fun hb => ?_)
    · have h := h.1 (bI_0.mp hb)
      refine u_iconst (pc' := 195) dX11_ahead_194 rfl ?_
      refine s_istore (i := 4) (ls' := [some (vR 140), some (vI x1), some (vB x2), some (vB x3), some (vI 4), none]) (pc' := 197) dX11_ahead_195 rfl (Nat.le_of_ble_eq_true rfl) rfl rfl ?_
      refine u_iconst (pc' := 198) dX11_ahead_197 rfl ?_
      refine s_istore (i := 5) (ls' := [some (vR 140), some (vI x1), some (vB x2), some (vB x3), some (vI 4), some (vI 0)]) (pc' := 200) dX11_ahead_198 rfl (Nat.le_of_ble_eq_true rfl) rfl rfl ?_
      exact u_less (ls' := [some (vR 140), some (vI x1), some (vB x2), some (vB x3), some (vI 4), some (vI 0)]) ⟨rfl, ⟨rfl, ⟨rfl, ⟨rfl, ⟨rfl, ⟨rfl, trivial⟩⟩⟩⟩⟩⟩ h
    · have h := h.2 (bI_n0.mp hb)
      refine u_bipush (pc' := 191) dX11_ahead_189 rfl (by decide) ?_
      refine u_goto (tgt := 195) dX11_ahead_191 (by decide) ?_
      refine s_istore (i := 4) (ls' := [some (vR 140), some (vI x1), some (vB x2), some (vB x3), some (vI 6), none]) (pc' := 197) dX11_ahead_195 rfl (Nat.le_of_ble_eq_true rfl) rfl rfl ?_
      refine u_iconst (pc' := 198) dX11_ahead_197 rfl ?_
      refine s_istore (i := 5) (ls' := [some (vR 140), some (vI x1), some (vB x2), some (vB x3), some (vI 6), some (vI 0)]) (pc' := 200) dX11_ahead_198 rfl (Nat.le_of_ble_eq_true rfl) rfl rfl ?_
      exact u_less (ls' := [some (vR 140), some (vI x1), some (vB x2), some (vB x3), some (vI 6), some (vI 0)]) ⟨rfl, ⟨rfl, ⟨rfl, ⟨rfl, ⟨rfl, ⟨rfl, trivial⟩⟩⟩⟩⟩⟩ h
set_option maxRecDepth 20000 in
theorem bX11_ahead_200 {E : mm_Env} {d : Nat} {τ : mm_Mem} {Q : mm_Q0} {x1 : Int} {x2 : Bool} {x3 : Bool} {x4 : Int} {x5 : Int} (h : inR x1 ∧ (((τ 140 2) ≤ x1 → Q none (wr τ 140 5 x1)) ∧ (¬ (τ 140 2) ≤ x1 → ((x2 = false → 0 ≤ x1 ∧ x1 < 1800 ∧ M0 E d qX11_isDigit [vI (τ 141 x1.toNat)] τ (fun v τ6 => ∃ b7 : Bool, v = some (vB b7) ∧ ((b7 = false → Q none (wr τ6 140 5 x1)) ∧ (b7 = true → V0 E (d + 1) qX11_ahead 239 [some (vR 140), some (vI x1), some (vB x2), some (vB x3), some (vI x4), some (vI x5)] [] τ6 Q)))) ∧ (x2 = true → 0 ≤ x1 ∧ x1 < 1800 ∧ M0 E d qX11_isLetter [vI (τ 141 x1.toNat)] τ (fun v τ11 => ∃ b12 : Bool, v = some (vB b12) ∧ ((b12 = false → Q none (wr τ11 140 5 x1)) ∧ (b12 = true → V0 E (d + 1) qX11_ahead 239 [some (vR 140), some (vI x1), some (vB x2), some (vB x3), some (vI x4), some (vI x5)] [] τ11 Q)))))))) : V0 E (d + 1) qX11_ahead 200 [some (vR 140), some (vI x1), some (vB x2), some (vB x3), some (vI x4), some (vI x5)] [] τ Q := by
  refine u_iload_n (i := 1) (pc' := 201) dX11_ahead_200 rfl rfl rfl ?_
  refine u_aload_n (i := 0) (pc' := 202) dX11_ahead_201 rfl rfl rfl ?_
  refine u_getI (z := (τ 140 2)) (pc' := 205) dX11_ahead_202 rfl fl_TuneDoorModel_17 rfl (by decide) (by decide) kd_140 rfl (fun r1 => ?_)
  obtain ⟨c2, h⟩ := h
  refine u_icmp_ge (tgt := 323) (pc' := 208) dX11_ahead_205 rfl (by decide) c2 r1 (fun hb => ?_) (fun hb => ?_)
  · have h := h.1 hb
    refine u_aload_n (i := 0) (pc' := 324) dX11_ahead_323 rfl rfl rfl ?_
    refine u_iload_n (i := 1) (pc' := 325) dX11_ahead_324 rfl rfl rfl ?_
    refine u_putI (pc' := 328) dX11_ahead_325 rfl fl_TuneDoorModel_26 rfl rfl (by decide) (by decide) kd_140 c2 ?_
    exact u_ret dX11_ahead_328 rfl h
  · have h := h.2 hb
    refine u_iload_n (i := 2) (pc' := 209) dX11_ahead_208 rfl rfl rfl ?_
    refine u_if_eq (tgt := 227) (pc' := 212) dX11_ahead_209 rfl (by decide) (bI_R _) (fun hb => ?_) (fun hb => ?_)
    · have h := h.1 (bI_0.mp hb)
      refine u_aload_n (i := 0) (pc' := 228) dX11_ahead_227 rfl rfl rfl ?_
      refine u_getR (a := 141) (pc' := 231) dX11_ahead_228 rfl fl_TuneDoorModel_7 rfl (by decide) kd_140 rfl ?_
      refine u_iload_n (i := 1) (pc' := 232) dX11_ahead_231 rfl rfl rfl ?_
      obtain ⟨c3, c4, h⟩ := h
      refine u_iaload (k := x1.toNat) (z := (τ 141 x1.toNat)) (pc' := 233) dX11_ahead_232 rfl (by decide) kd_141 c3 c4 (by decide) rfl rfl (fun r5 => ?_)
      refine u_invS (q' := qX11_isDigit) (As := [vI (τ 141 x1.toNat)]) (st := []) (pc' := 236) dX11_ahead_233 rfl gX11_isDigit wm_1475 wm_1476 rfl (Nat.le_of_ble_eq_true rfl) (M0.mono h (fun v τ6 h => ?_))
      obtain ⟨b7, rfl, h⟩ := h
      show V0 E (d + 1) qX11_ahead 236 [some (vR 140), some (vI x1), some (vB x2), some (vB x3), some (vI x4), some (vI x5)] [vB b7] τ6 Q
      refine u_if_eq (tgt := 323) (pc' := 239) dX11_ahead_236 rfl (by decide) (bI_R _) (fun hb => ?_) (fun hb => ?_)
      · have h := h.1 (bI_0.mp hb)
        refine u_aload_n (i := 0) (pc' := 324) dX11_ahead_323 rfl rfl rfl ?_
        refine u_iload_n (i := 1) (pc' := 325) dX11_ahead_324 rfl rfl rfl ?_
        refine u_putI (pc' := 328) dX11_ahead_325 rfl fl_TuneDoorModel_26 rfl rfl (by decide) (by decide) kd_140 c2 ?_
        exact u_ret dX11_ahead_328 rfl h
      · have h := h.2 (bI_n0.mp hb)
        exact u_less (ls' := [some (vR 140), some (vI x1), some (vB x2), some (vB x3), some (vI x4), some (vI x5)]) ⟨rfl, ⟨rfl, ⟨rfl, ⟨rfl, ⟨rfl, ⟨rfl, trivial⟩⟩⟩⟩⟩⟩ h
    · have h := h.2 (bI_n0.mp hb)
      refine u_aload_n (i := 0) (pc' := 213) dX11_ahead_212 rfl rfl rfl ?_
      refine u_getR (a := 141) (pc' := 216) dX11_ahead_213 rfl fl_TuneDoorModel_7 rfl (by decide) kd_140 rfl ?_
      refine u_iload_n (i := 1) (pc' := 217) dX11_ahead_216 rfl rfl rfl ?_
      obtain ⟨c8, c9, h⟩ := h
      refine u_iaload (k := x1.toNat) (z := (τ 141 x1.toNat)) (pc' := 218) dX11_ahead_217 rfl (by decide) kd_141 c8 c9 (by decide) rfl rfl (fun r10 => ?_)
      refine u_invS (q' := qX11_isLetter) (As := [vI (τ 141 x1.toNat)]) (st := []) (pc' := 221) dX11_ahead_218 rfl gX11_isLetter wm_1472 wm_1473 rfl (Nat.le_of_ble_eq_true rfl) (M0.mono h (fun v τ11 h => ?_))
      obtain ⟨b12, rfl, h⟩ := h
      show V0 E (d + 1) qX11_ahead 221 [some (vR 140), some (vI x1), some (vB x2), some (vB x3), some (vI x4), some (vI x5)] [vB b12] τ11 Q
      refine u_if_eq (tgt := 323) (pc' := 224) dX11_ahead_221 rfl (by decide) (bI_R _) (fun hb => ?_) (fun hb => ?_)
      · have h := h.1 (bI_0.mp hb)
        refine u_aload_n (i := 0) (pc' := 324) dX11_ahead_323 rfl rfl rfl ?_
        refine u_iload_n (i := 1) (pc' := 325) dX11_ahead_324 rfl rfl rfl ?_
        refine u_putI (pc' := 328) dX11_ahead_325 rfl fl_TuneDoorModel_26 rfl rfl (by decide) (by decide) kd_140 c2 ?_
        exact u_ret dX11_ahead_328 rfl h
      · have h := h.2 (bI_n0.mp hb)
        refine u_goto (tgt := 239) dX11_ahead_224 (by decide) ?_
        exact u_less (ls' := [some (vR 140), some (vI x1), some (vB x2), some (vB x3), some (vI x4), some (vI x5)]) ⟨rfl, ⟨rfl, ⟨rfl, ⟨rfl, ⟨rfl, ⟨rfl, trivial⟩⟩⟩⟩⟩⟩ h
set_option maxRecDepth 20000 in
theorem bX11_ahead_239 {E : mm_Env} {d : Nat} {τ : mm_Mem} {Q : mm_Q0} {x1 : Int} {x2 : Bool} {x3 : Bool} {x4 : Int} {x5 : Int} (h : inR x5 ∧ inR x4 ∧ ((x5 ≠ x4 → ((x4 ≤ x5 → V0 E (d + 1) qX11_ahead 282 [some (vR 140), some (vI x1), some (vB x2), some (vB x3), some (vI x4), some (vI x5)] [] τ Q) ∧ (¬ x4 ≤ x5 → ((x2 = false → V0 E (d + 1) qX11_ahead 282 [some (vR 140), some (vI x1), some (vB x2), some (vB x3), some (vI x4), some (vI x5)] [] τ Q) ∧ (x2 = true → 0 ≤ x1 ∧ x1 < 1800 ∧ V0 E (d + 1) qX11_ahead 282 [some (vR 140), some (vI x1), some (vB x2), some (vB x3), some (vI x4), some (vI x5)] [] (wr τ 140 7 (mm_lor (mm_lshl (τ 140 7) 8) (τ 141 x1.toNat))) Q))))) ∧ (x5 = x4 → M0 E d qX11_blame [vR 140, vI 1, vI x1] τ (fun v τ6 => v = none ∧ ((x4 ≤ x5 → V0 E (d + 1) qX11_ahead 282 [some (vR 140), some (vI x1), some (vB x2), some (vB x3), some (vI x4), some (vI x5)] [] τ6 Q) ∧ (¬ x4 ≤ x5 → ((x2 = false → V0 E (d + 1) qX11_ahead 282 [some (vR 140), some (vI x1), some (vB x2), some (vB x3), some (vI x4), some (vI x5)] [] τ6 Q) ∧ (x2 = true → 0 ≤ x1 ∧ x1 < 1800 ∧ V0 E (d + 1) qX11_ahead 282 [some (vR 140), some (vI x1), some (vB x2), some (vB x3), some (vI x4), some (vI x5)] [] (wr τ6 140 7 (mm_lor (mm_lshl (τ6 140 7) 8) (τ6 141 x1.toNat))) Q)))))))) : V0 E (d + 1) qX11_ahead 239 [some (vR 140), some (vI x1), some (vB x2), some (vB x3), some (vI x4), some (vI x5)] [] τ Q := by
  refine u_iload (i := 5) (pc' := 241) dX11_ahead_239 rfl rfl ?_
  refine u_iload (i := 4) (pc' := 243) dX11_ahead_241 rfl rfl ?_
  obtain ⟨c1, c2, h⟩ := h
  refine u_icmp_ne (tgt := 252) (pc' := 246) dX11_ahead_243 rfl (by decide) c1 c2 (fun hb => ?_) (fun hb => ?_)
  · have h := h.1 hb
    refine u_iload (i := 5) (pc' := 254) dX11_ahead_252 rfl rfl ?_
    refine u_iload (i := 4) (pc' := 256) dX11_ahead_254 rfl rfl ?_
    refine u_icmp_ge (tgt := 282) (pc' := 259) dX11_ahead_256 rfl (by decide) c1 c2 (fun hb => ?_) (fun hb => ?_)
    · have h := h.1 hb
      exact u_less (ls' := [some (vR 140), some (vI x1), some (vB x2), some (vB x3), some (vI x4), some (vI x5)]) ⟨rfl, ⟨rfl, ⟨rfl, ⟨rfl, ⟨rfl, ⟨rfl, trivial⟩⟩⟩⟩⟩⟩ h
    · have h := h.2 hb
      refine u_iload_n (i := 2) (pc' := 260) dX11_ahead_259 rfl rfl rfl ?_
      refine u_if_eq (tgt := 282) (pc' := 263) dX11_ahead_260 rfl (by decide) (bI_R _) (fun hb => ?_) (fun hb => ?_)
      · have h := h.1 (bI_0.mp hb)
        exact u_less (ls' := [some (vR 140), some (vI x1), some (vB x2), some (vB x3), some (vI x4), some (vI x5)]) ⟨rfl, ⟨rfl, ⟨rfl, ⟨rfl, ⟨rfl, ⟨rfl, trivial⟩⟩⟩⟩⟩⟩ h
      · have h := h.2 (bI_n0.mp hb)
        refine u_aload_n (i := 0) (pc' := 264) dX11_ahead_263 rfl rfl rfl ?_
        refine u_aload_n (i := 0) (pc' := 265) dX11_ahead_264 rfl rfl rfl ?_
        refine u_getL (z := (τ 140 7)) (pc' := 268) dX11_ahead_265 rfl fl_TuneDoorModel_32 rfl rfl (by decide) kd_140 rfl ?_
        refine u_bipush (pc' := 270) dX11_ahead_268 rfl (by decide) ?_
        refine u_lshl (pc' := 271) dX11_ahead_270 rfl ?_
        refine u_aload_n (i := 0) (pc' := 272) dX11_ahead_271 rfl rfl rfl ?_
        refine u_getR (a := 141) (pc' := 275) dX11_ahead_272 rfl fl_TuneDoorModel_7 rfl (by decide) kd_140 rfl ?_
        refine u_iload_n (i := 1) (pc' := 276) dX11_ahead_275 rfl rfl rfl ?_
        obtain ⟨c3, c4, h⟩ := h
        refine u_iaload (k := x1.toNat) (z := (τ 141 x1.toNat)) (pc' := 277) dX11_ahead_276 rfl (by decide) kd_141 c3 c4 (by decide) rfl rfl (fun r5 => ?_)
        refine u_i2l (pc' := 278) dX11_ahead_277 rfl r5 ?_
        refine u_lor (pc' := 279) dX11_ahead_278 rfl ?_
        refine u_putL (pc' := 282) dX11_ahead_279 rfl fl_TuneDoorModel_32 rfl rfl rfl (by decide) kd_140 ?_
        exact u_less (ls' := [some (vR 140), some (vI x1), some (vB x2), some (vB x3), some (vI x4), some (vI x5)]) ⟨rfl, ⟨rfl, ⟨rfl, ⟨rfl, ⟨rfl, ⟨rfl, trivial⟩⟩⟩⟩⟩⟩ h
  · have h := h.2 hb
    refine u_aload_n (i := 0) (pc' := 247) dX11_ahead_246 rfl rfl rfl ?_
    refine u_iconst (pc' := 248) dX11_ahead_247 rfl ?_
    refine u_iload_n (i := 1) (pc' := 249) dX11_ahead_248 rfl rfl rfl ?_
    refine u_invV (q' := qX11_blame) (As := [vI 1, vI x1]) (st := []) (pc' := 252) dX11_ahead_249 rfl gX11_blame wm_1478 rfl rfl (by decide) kd_140 wm_1480 wp_75 rfl (Nat.le_of_ble_eq_true rfl) (M0.mono h (fun v τ6 h => ?_))
    obtain ⟨rfl, h⟩ := h
    show V0 E (d + 1) qX11_ahead 252 [some (vR 140), some (vI x1), some (vB x2), some (vB x3), some (vI x4), some (vI x5)] [] τ6 Q
    refine u_iload (i := 5) (pc' := 254) dX11_ahead_252 rfl rfl ?_
    refine u_iload (i := 4) (pc' := 256) dX11_ahead_254 rfl rfl ?_
    refine u_icmp_ge (tgt := 282) (pc' := 259) dX11_ahead_256 rfl (by decide) c1 c2 (fun hb => ?_) (fun hb => ?_)
    · have h := h.1 hb
      exact u_less (ls' := [some (vR 140), some (vI x1), some (vB x2), some (vB x3), some (vI x4), some (vI x5)]) ⟨rfl, ⟨rfl, ⟨rfl, ⟨rfl, ⟨rfl, ⟨rfl, trivial⟩⟩⟩⟩⟩⟩ h
    · have h := h.2 hb
      refine u_iload_n (i := 2) (pc' := 260) dX11_ahead_259 rfl rfl rfl ?_
      refine u_if_eq (tgt := 282) (pc' := 263) dX11_ahead_260 rfl (by decide) (bI_R _) (fun hb => ?_) (fun hb => ?_)
      · have h := h.1 (bI_0.mp hb)
        exact u_less (ls' := [some (vR 140), some (vI x1), some (vB x2), some (vB x3), some (vI x4), some (vI x5)]) ⟨rfl, ⟨rfl, ⟨rfl, ⟨rfl, ⟨rfl, ⟨rfl, trivial⟩⟩⟩⟩⟩⟩ h
      · have h := h.2 (bI_n0.mp hb)
        refine u_aload_n (i := 0) (pc' := 264) dX11_ahead_263 rfl rfl rfl ?_
        refine u_aload_n (i := 0) (pc' := 265) dX11_ahead_264 rfl rfl rfl ?_
        refine u_getL (z := (τ6 140 7)) (pc' := 268) dX11_ahead_265 rfl fl_TuneDoorModel_32 rfl rfl (by decide) kd_140 rfl ?_
        refine u_bipush (pc' := 270) dX11_ahead_268 rfl (by decide) ?_
        refine u_lshl (pc' := 271) dX11_ahead_270 rfl ?_
        refine u_aload_n (i := 0) (pc' := 272) dX11_ahead_271 rfl rfl rfl ?_
        refine u_getR (a := 141) (pc' := 275) dX11_ahead_272 rfl fl_TuneDoorModel_7 rfl (by decide) kd_140 rfl ?_
        refine u_iload_n (i := 1) (pc' := 276) dX11_ahead_275 rfl rfl rfl ?_
        obtain ⟨c7, c8, h⟩ := h
        refine u_iaload (k := x1.toNat) (z := (τ6 141 x1.toNat)) (pc' := 277) dX11_ahead_276 rfl (by decide) kd_141 c7 c8 (by decide) rfl rfl (fun r9 => ?_)
        refine u_i2l (pc' := 278) dX11_ahead_277 rfl r9 ?_
        refine u_lor (pc' := 279) dX11_ahead_278 rfl ?_
        refine u_putL (pc' := 282) dX11_ahead_279 rfl fl_TuneDoorModel_32 rfl rfl rfl (by decide) kd_140 ?_
        exact u_less (ls' := [some (vR 140), some (vI x1), some (vB x2), some (vB x3), some (vI x4), some (vI x5)]) ⟨rfl, ⟨rfl, ⟨rfl, ⟨rfl, ⟨rfl, ⟨rfl, trivial⟩⟩⟩⟩⟩⟩ h
set_option maxRecDepth 20000 in
theorem bX11_ahead_282 {E : mm_Env} {d : Nat} {τ : mm_Mem} {Q : mm_Q0} {x1 : Int} {x2 : Bool} {x3 : Bool} {x4 : Int} {x5 : Int} (h : inR x5 ∧ inR x4 ∧ ((x4 ≤ x5 → V0 E (d + 1) qX11_ahead 200 [some (vR 140), some (vI (x1 + 1)), some (vB x2), some (vB x3), some (vI x4), some (vI (x5 + 1))] [] τ Q) ∧ (¬ x4 ≤ x5 → ((x3 = false → V0 E (d + 1) qX11_ahead 200 [some (vR 140), some (vI (x1 + 1)), some (vB x2), some (vB x3), some (vI x4), some (vI (x5 + 1))] [] τ Q) ∧ (x3 = true → 0 ≤ x1 ∧ x1 < 1800 ∧ inR (((10 * (τ 140 6)) + (τ 141 x1.toNat)) - 48) ∧ V0 E (d + 1) qX11_ahead 200 [some (vR 140), some (vI (x1 + 1)), some (vB x2), some (vB x3), some (vI x4), some (vI (x5 + 1))] [] (wr τ 140 6 (((10 * (τ 140 6)) + (τ 141 x1.toNat)) - 48)) Q))))) : V0 E (d + 1) qX11_ahead 282 [some (vR 140), some (vI x1), some (vB x2), some (vB x3), some (vI x4), some (vI x5)] [] τ Q := by
  refine u_iload (i := 5) (pc' := 284) dX11_ahead_282 rfl rfl ?_
  refine u_iload (i := 4) (pc' := 286) dX11_ahead_284 rfl rfl ?_
  obtain ⟨c1, c2, h⟩ := h
  refine u_icmp_ge (tgt := 314) (pc' := 289) dX11_ahead_286 rfl (by decide) c1 c2 (fun hb => ?_) (fun hb => ?_)
  · have h := h.1 hb
    refine s_iinc (i := 5) (ls' := [some (vR 140), some (vI x1), some (vB x2), some (vB x3), some (vI x4), some (vI (x5 + 1))]) (pc' := 317) dX11_ahead_314 rfl rfl (Nat.le_of_ble_eq_true rfl) rfl rfl ?_
    refine s_iinc (i := 1) (ls' := [some (vR 140), some (vI (x1 + 1)), some (vB x2), some (vB x3), some (vI x4), some (vI (x5 + 1))]) (pc' := 320) dX11_ahead_317 rfl rfl (Nat.le_of_ble_eq_true rfl) rfl rfl ?_
    refine u_goto (tgt := 200) dX11_ahead_320 (by decide) ?_
    exact u_less (ls' := [some (vR 140), some (vI (x1 + 1)), some (vB x2), some (vB x3), some (vI x4), some (vI (x5 + 1))]) ⟨rfl, ⟨rfl, ⟨rfl, ⟨rfl, ⟨rfl, ⟨rfl, trivial⟩⟩⟩⟩⟩⟩ h
  · have h := h.2 hb
    refine u_iload_n (i := 3) (pc' := 290) dX11_ahead_289 rfl rfl rfl ?_
    refine u_if_eq (tgt := 314) (pc' := 293) dX11_ahead_290 rfl (by decide) (bI_R _) (fun hb => ?_) (fun hb => ?_)
    · have h := h.1 (bI_0.mp hb)
      refine s_iinc (i := 5) (ls' := [some (vR 140), some (vI x1), some (vB x2), some (vB x3), some (vI x4), some (vI (x5 + 1))]) (pc' := 317) dX11_ahead_314 rfl rfl (Nat.le_of_ble_eq_true rfl) rfl rfl ?_
      refine s_iinc (i := 1) (ls' := [some (vR 140), some (vI (x1 + 1)), some (vB x2), some (vB x3), some (vI x4), some (vI (x5 + 1))]) (pc' := 320) dX11_ahead_317 rfl rfl (Nat.le_of_ble_eq_true rfl) rfl rfl ?_
      refine u_goto (tgt := 200) dX11_ahead_320 (by decide) ?_
      exact u_less (ls' := [some (vR 140), some (vI (x1 + 1)), some (vB x2), some (vB x3), some (vI x4), some (vI (x5 + 1))]) ⟨rfl, ⟨rfl, ⟨rfl, ⟨rfl, ⟨rfl, ⟨rfl, trivial⟩⟩⟩⟩⟩⟩ h
    · have h := h.2 (bI_n0.mp hb)
      refine u_aload_n (i := 0) (pc' := 294) dX11_ahead_293 rfl rfl rfl ?_
      refine u_bipush (pc' := 296) dX11_ahead_294 rfl (by decide) ?_
      refine u_aload_n (i := 0) (pc' := 297) dX11_ahead_296 rfl rfl rfl ?_
      refine u_getI (z := (τ 140 6)) (pc' := 300) dX11_ahead_297 rfl fl_TuneDoorModel_29 rfl (by decide) (by decide) kd_140 rfl (fun r3 => ?_)
      refine u_imul (pc' := 301) dX11_ahead_300 rfl ?_
      refine u_aload_n (i := 0) (pc' := 302) dX11_ahead_301 rfl rfl rfl ?_
      refine u_getR (a := 141) (pc' := 305) dX11_ahead_302 rfl fl_TuneDoorModel_7 rfl (by decide) kd_140 rfl ?_
      refine u_iload_n (i := 1) (pc' := 306) dX11_ahead_305 rfl rfl rfl ?_
      obtain ⟨c4, c5, h⟩ := h
      refine u_iaload (k := x1.toNat) (z := (τ 141 x1.toNat)) (pc' := 307) dX11_ahead_306 rfl (by decide) kd_141 c4 c5 (by decide) rfl rfl (fun r6 => ?_)
      refine u_iadd (pc' := 308) dX11_ahead_307 rfl ?_
      refine u_bipush (pc' := 310) dX11_ahead_308 rfl (by decide) ?_
      refine u_isub (pc' := 311) dX11_ahead_310 rfl ?_
      obtain ⟨c7, h⟩ := h
      refine u_putI (pc' := 314) dX11_ahead_311 rfl fl_TuneDoorModel_29 rfl rfl (by decide) (by decide) kd_140 c7 ?_
      refine s_iinc (i := 5) (ls' := [some (vR 140), some (vI x1), some (vB x2), some (vB x3), some (vI x4), some (vI (x5 + 1))]) (pc' := 317) dX11_ahead_314 rfl rfl (Nat.le_of_ble_eq_true rfl) rfl rfl ?_
      refine s_iinc (i := 1) (ls' := [some (vR 140), some (vI (x1 + 1)), some (vB x2), some (vB x3), some (vI x4), some (vI (x5 + 1))]) (pc' := 320) dX11_ahead_317 rfl rfl (Nat.le_of_ble_eq_true rfl) rfl rfl ?_
      refine u_goto (tgt := 200) dX11_ahead_320 (by decide) ?_
      exact u_less (ls' := [some (vR 140), some (vI (x1 + 1)), some (vB x2), some (vB x3), some (vI x4), some (vI (x5 + 1))]) ⟨rfl, ⟨rfl, ⟨rfl, ⟨rfl, ⟨rfl, ⟨rfl, trivial⟩⟩⟩⟩⟩⟩ h
set_option maxRecDepth 20000 in
theorem bX11_isLetter_0 {E : mm_Env} {d : Nat} {τ : mm_Mem} {Q : mm_Q0} {a0 : Int} (h : inR a0 ∧ ((a0 < 97 → Q (some (vB false)) τ) ∧ (¬ a0 < 97 → ((122 < a0 → Q (some (vB false)) τ) ∧ (¬ 122 < a0 → Q (some (vB true)) τ))))) : V0 E d qX11_isLetter 0 [some (vI a0)] [] τ Q := by
  refine u_iload_n (i := 0) (pc' := 1) dX11_isLetter_0 rfl rfl rfl ?_
  refine u_bipush (pc' := 3) dX11_isLetter_1 rfl (by decide) ?_
  obtain ⟨c1, h⟩ := h
  refine u_icmp_lt (tgt := 16) (pc' := 6) dX11_isLetter_3 rfl (by decide) c1 ⟨by decide, by decide⟩ (fun hb => ?_) (fun hb => ?_)
  · have h := h.1 hb
    refine u_iconst (pc' := 17) dX11_isLetter_16 rfl ?_
    exact u_zret (b := false) dX11_isLetter_17 rfl rfl h
  · have h := h.2 hb
    refine u_iload_n (i := 0) (pc' := 7) dX11_isLetter_6 rfl rfl rfl ?_
    refine u_bipush (pc' := 9) dX11_isLetter_7 rfl (by decide) ?_
    refine u_icmp_gt (tgt := 16) (pc' := 12) dX11_isLetter_9 rfl (by decide) c1 ⟨by decide, by decide⟩ (fun hb => ?_) (fun hb => ?_)
    · have h := h.1 hb
      refine u_iconst (pc' := 17) dX11_isLetter_16 rfl ?_
      exact u_zret (b := false) dX11_isLetter_17 rfl rfl h
    · have h := h.2 hb
      refine u_iconst (pc' := 13) dX11_isLetter_12 rfl ?_
      refine u_goto (tgt := 17) dX11_isLetter_13 (by decide) ?_
      exact u_zret (b := true) dX11_isLetter_17 rfl rfl h
theorem mX11_isLetter {E : mm_Env} {d : Nat} {τ : mm_Mem} {Q : mm_Q0} {a0 : Int} (h : inR a0 ∧ ((a0 < 97 → Q (some (vB false)) τ) ∧ (¬ a0 < 97 → ((122 < a0 → Q (some (vB false)) τ) ∧ (¬ 122 < a0 → Q (some (vB true)) τ))))) : M0 E d qX11_isLetter [vI a0] τ Q := M0_of rfl (Nat.le_of_ble_eq_true rfl) [some (vI a0)] rfl (bX11_isLetter_0  h)
set_option maxRecDepth 20000 in
theorem bX11_isDigit_0 {E : mm_Env} {d : Nat} {τ : mm_Mem} {Q : mm_Q0} {a0 : Int} (h : inR a0 ∧ ((a0 < 48 → Q (some (vB false)) τ) ∧ (¬ a0 < 48 → ((57 < a0 → Q (some (vB false)) τ) ∧ (¬ 57 < a0 → Q (some (vB true)) τ))))) : V0 E d qX11_isDigit 0 [some (vI a0)] [] τ Q := by
  refine u_iload_n (i := 0) (pc' := 1) dX11_isDigit_0 rfl rfl rfl ?_
  refine u_bipush (pc' := 3) dX11_isDigit_1 rfl (by decide) ?_
  obtain ⟨c1, h⟩ := h
  refine u_icmp_lt (tgt := 16) (pc' := 6) dX11_isDigit_3 rfl (by decide) c1 ⟨by decide, by decide⟩ (fun hb => ?_) (fun hb => ?_)
  · have h := h.1 hb
    refine u_iconst (pc' := 17) dX11_isDigit_16 rfl ?_
    exact u_zret (b := false) dX11_isDigit_17 rfl rfl h
  · have h := h.2 hb
    refine u_iload_n (i := 0) (pc' := 7) dX11_isDigit_6 rfl rfl rfl ?_
    refine u_bipush (pc' := 9) dX11_isDigit_7 rfl (by decide) ?_
    refine u_icmp_gt (tgt := 16) (pc' := 12) dX11_isDigit_9 rfl (by decide) c1 ⟨by decide, by decide⟩ (fun hb => ?_) (fun hb => ?_)
    · have h := h.1 hb
      refine u_iconst (pc' := 17) dX11_isDigit_16 rfl ?_
      exact u_zret (b := false) dX11_isDigit_17 rfl rfl h
    · have h := h.2 hb
      refine u_iconst (pc' := 13) dX11_isDigit_12 rfl ?_
      refine u_goto (tgt := 17) dX11_isDigit_13 (by decide) ?_
      exact u_zret (b := true) dX11_isDigit_17 rfl rfl h
theorem mX11_isDigit {E : mm_Env} {d : Nat} {τ : mm_Mem} {Q : mm_Q0} {a0 : Int} (h : inR a0 ∧ ((a0 < 48 → Q (some (vB false)) τ) ∧ (¬ a0 < 48 → ((57 < a0 → Q (some (vB false)) τ) ∧ (¬ 57 < a0 → Q (some (vB true)) τ))))) : M0 E d qX11_isDigit [vI a0] τ Q := M0_of rfl (Nat.le_of_ble_eq_true rfl) [some (vI a0)] rfl (bX11_isDigit_0  h)
set_option maxRecDepth 20000 in
theorem bX11_blame_0 {E : mm_Env} {d : Nat} {τ : mm_Mem} {Q : mm_Q0} {a0 : Int} {a1 : Int} (h : (((τ 140 8) ≤ 0 → inR a0 ∧ inR a1 ∧ Q none (wr (wr τ 140 8 a0) 140 9 a1)) ∧ (¬ (τ 140 8) ≤ 0 → Q none τ))) : V0 E d qX11_blame 0 [some (vR 140), some (vI a0), some (vI a1)] [] τ Q := by
  refine u_aload_n (i := 0) (pc' := 1) dX11_blame_0 rfl rfl rfl ?_
  refine u_getI (z := (τ 140 8)) (pc' := 4) dX11_blame_1 rfl fl_TuneDoorModel_36 rfl (by decide) (by decide) kd_140 rfl (fun r1 => ?_)
  refine u_if_le (tgt := 8) (pc' := 7) dX11_blame_4 rfl (by decide) r1 (fun hb => ?_) (fun hb => ?_)
  · have h := h.1 hb
    refine u_aload_n (i := 0) (pc' := 9) dX11_blame_8 rfl rfl rfl ?_
    refine u_iload_n (i := 1) (pc' := 10) dX11_blame_9 rfl rfl rfl ?_
    obtain ⟨c2, h⟩ := h
    refine u_putI (pc' := 13) dX11_blame_10 rfl fl_TuneDoorModel_36 rfl rfl (by decide) (by decide) kd_140 c2 ?_
    refine u_aload_n (i := 0) (pc' := 14) dX11_blame_13 rfl rfl rfl ?_
    refine u_iload_n (i := 2) (pc' := 15) dX11_blame_14 rfl rfl rfl ?_
    obtain ⟨c3, h⟩ := h
    refine u_putI (pc' := 18) dX11_blame_15 rfl fl_TuneDoorModel_39 rfl rfl (by decide) (by decide) kd_140 c3 ?_
    exact u_ret dX11_blame_18 rfl h
  · have h := h.2 hb
    exact u_ret dX11_blame_7 rfl h
theorem mX11_blame {E : mm_Env} {d : Nat} {τ : mm_Mem} {Q : mm_Q0} {a0 : Int} {a1 : Int} (h : (((τ 140 8) ≤ 0 → inR a0 ∧ inR a1 ∧ Q none (wr (wr τ 140 8 a0) 140 9 a1)) ∧ (¬ (τ 140 8) ≤ 0 → Q none τ))) : M0 E d qX11_blame [vR 140, vI a0, vI a1] τ Q := M0_of rfl (Nat.le_of_ble_eq_true rfl) [some (vR 140), some (vI a0), some (vI a1)] rfl (bX11_blame_0  h)
set_option maxRecDepth 20000 in
theorem bX11_beginning_0 {E : mm_Env} {d : Nat} {τ : mm_Mem} {Q : mm_Q0}  (h : M0 E d qX11_isWord [vR 140, vL 474316301683] τ (fun v τ1 => ∃ b2 : Bool, v = some (vB b2) ∧ ((b2 = true → V0 E (d + 1) qX11_beginning 19 [some (vR 140)] [] τ1 Q) ∧ (b2 = false → M0 E d qX11_blame [vR 140, vI 1, vI (τ1 140 4)] τ1 (fun v τ4 => v = none ∧ V0 E (d + 1) qX11_beginning 19 [some (vR 140)] [] τ4 Q))))) : V0 E (d + 1) qX11_beginning 0 [some (vR 140)] [] τ Q := by
  refine u_aload_n (i := 0) (pc' := 1) dX11_beginning_0 rfl rfl rfl ?_
  refine u_ldc2 (z := 474316301683) (pc' := 4) dX11_beginning_1 rfl wm_1486 (by decide) ?_
  refine u_invV (q' := qX11_isWord) (As := [vL 474316301683]) (st := []) (pc' := 7) dX11_beginning_4 rfl gX11_isWord wm_1487 rfl rfl (by decide) kd_140 wm_1489 wp_77 rfl (Nat.le_of_ble_eq_true rfl) (M0.mono h (fun v τ1 h => ?_))
  obtain ⟨b2, rfl, h⟩ := h
  show V0 E (d + 1) qX11_beginning 7 [some (vR 140)] [vB b2] τ1 Q
  refine u_if_ne (tgt := 19) (pc' := 10) dX11_beginning_7 rfl (by decide) (bI_R _) (fun hb => ?_) (fun hb => ?_)
  · have h := h.1 (bI_n0.mp hb)
    exact u_less (ls' := [some (vR 140)]) ⟨rfl, trivial⟩ h
  · have h := h.2 (bI_0.mp hb)
    refine u_aload_n (i := 0) (pc' := 11) dX11_beginning_10 rfl rfl rfl ?_
    refine u_iconst (pc' := 12) dX11_beginning_11 rfl ?_
    refine u_aload_n (i := 0) (pc' := 13) dX11_beginning_12 rfl rfl rfl ?_
    refine u_getI (z := (τ1 140 4)) (pc' := 16) dX11_beginning_13 rfl fl_TuneDoorModel_23 rfl (by decide) (by decide) kd_140 rfl (fun r3 => ?_)
    refine u_invV (q' := qX11_blame) (As := [vI 1, vI (τ1 140 4)]) (st := []) (pc' := 19) dX11_beginning_16 rfl gX11_blame wm_1478 rfl rfl (by decide) kd_140 wm_1480 wp_75 rfl (Nat.le_of_ble_eq_true rfl) (M0.mono h (fun v τ4 h => ?_))
    obtain ⟨rfl, h⟩ := h
    show V0 E (d + 1) qX11_beginning 19 [some (vR 140)] [] τ4 Q
    exact u_less (ls' := [some (vR 140)]) ⟨rfl, trivial⟩ h
theorem mX11_beginning {E : mm_Env} {d : Nat} {τ : mm_Mem} {Q : mm_Q0}  (h : M0 E d qX11_isWord [vR 140, vL 474316301683] τ (fun v τ1 => ∃ b2 : Bool, v = some (vB b2) ∧ ((b2 = true → V0 E (d + 1) qX11_beginning 19 [some (vR 140)] [] τ1 Q) ∧ (b2 = false → M0 E d qX11_blame [vR 140, vI 1, vI (τ1 140 4)] τ1 (fun v τ4 => v = none ∧ V0 E (d + 1) qX11_beginning 19 [some (vR 140)] [] τ4 Q))))) : M0 E (d + 1) qX11_beginning [vR 140] τ Q := M0_of rfl (Nat.le_of_ble_eq_true rfl) [some (vR 140)] rfl (bX11_beginning_0  h)
set_option maxRecDepth 20000 in
theorem bX11_beginning_19 {E : mm_Env} {d : Nat} {τ : mm_Mem} {Q : mm_Q0}  (h : (((τ 140 8) ≤ 0 → M0 E d qX11_ahead [vR 140] τ (fun v τ2 => v = none ∧ M0 E d qX11_number [vR 140, vI 2, vI 6] τ2 (fun v τ4 => ∃ r5 : Int, v = some (vI r5) ∧ 0 ≤ (τ2 140 39) ∧ (τ2 140 39) < 2 ∧ inR r5 ∧ M0 E d qX11_must_ [vR 140, vL 1819242087] (wr τ4 142 (τ2 140 39).toNat r5) (fun v τ9 => v = none ∧ M0 E d qX11_number [vR 140, vI 2, vI 5] τ9 (fun v τ11 => ∃ r12 : Int, v = some (vI r12) ∧ 0 ≤ (τ9 140 39) ∧ (τ9 140 39) < 2 ∧ inR r12 ∧ (((τ11 140 8) ≠ 0 → Q none (wr τ11 143 (τ9 140 39).toNat r12)) ∧ ((τ11 140 8) = 0 → M0 E d qX11_must [vR 140, vI 59] (wr τ11 143 (τ9 140 39).toNat r12) (fun v τ17 => v = none ∧ Q none τ17)))))))) ∧ (¬ (τ 140 8) ≤ 0 → Q none τ))) : V0 E (d + 1) qX11_beginning 19 [some (vR 140)] [] τ Q := by
  refine u_aload_n (i := 0) (pc' := 20) dX11_beginning_19 rfl rfl rfl ?_
  refine u_getI (z := (τ 140 8)) (pc' := 23) dX11_beginning_20 rfl fl_TuneDoorModel_36 rfl (by decide) (by decide) kd_140 rfl (fun r1 => ?_)
  refine u_if_le (tgt := 27) (pc' := 26) dX11_beginning_23 rfl (by decide) r1 (fun hb => ?_) (fun hb => ?_)
  · have h := h.1 hb
    refine u_aload_n (i := 0) (pc' := 28) dX11_beginning_27 rfl rfl rfl ?_
    refine u_invV (q' := qX11_ahead) (As := []) (st := []) (pc' := 31) dX11_beginning_28 rfl gX11_ahead wm_1468 rfl rfl (by decide) kd_140 wm_1470 wp_74 rfl (Nat.le_of_ble_eq_true rfl) (M0.mono h (fun v τ2 h => ?_))
    obtain ⟨rfl, h⟩ := h
    show V0 E (d + 1) qX11_beginning 31 [some (vR 140)] [] τ2 Q
    refine u_aload_n (i := 0) (pc' := 32) dX11_beginning_31 rfl rfl rfl ?_
    refine u_getR (a := 142) (pc' := 35) dX11_beginning_32 rfl fl_TuneDoorModel_51 rfl (by decide) kd_140 rfl ?_
    refine u_aload_n (i := 0) (pc' := 36) dX11_beginning_35 rfl rfl rfl ?_
    refine u_getI (z := (τ2 140 39)) (pc' := 39) dX11_beginning_36 rfl fl_TuneDoorModel_130 rfl (by decide) (by decide) kd_140 rfl (fun r3 => ?_)
    refine u_aload_n (i := 0) (pc' := 40) dX11_beginning_39 rfl rfl rfl ?_
    refine u_iconst (pc' := 41) dX11_beginning_40 rfl ?_
    refine u_bipush (pc' := 43) dX11_beginning_41 rfl (by decide) ?_
    refine u_invV (q' := qX11_number) (As := [vI 2, vI 6]) (st := [vI (τ2 140 39), vR 142]) (pc' := 46) dX11_beginning_43 rfl gX11_number wm_1491 rfl rfl (by decide) kd_140 wm_1493 wp_78 rfl (Nat.le_of_ble_eq_true rfl) (M0.mono h (fun v τ4 h => ?_))
    obtain ⟨r5, rfl, h⟩ := h
    show V0 E (d + 1) qX11_beginning 46 [some (vR 140)] [vI r5, vI (τ2 140 39), vR 142] τ4 Q
    obtain ⟨c6, c7, c8, h⟩ := h
    refine u_iastore (k := (τ2 140 39).toNat) (pc' := 47) dX11_beginning_46 rfl (by decide) kd_142 c6 c7 (by decide) rfl c8 ?_
    refine u_aload_n (i := 0) (pc' := 48) dX11_beginning_47 rfl rfl rfl ?_
    refine u_ldc2 (z := 1819242087) (pc' := 51) dX11_beginning_48 rfl wm_1498 (by decide) ?_
    refine u_invV (q' := qX11_must_) (As := [vL 1819242087]) (st := []) (pc' := 54) dX11_beginning_51 rfl gX11_must_ wm_1499 rfl rfl (by decide) kd_140 wm_1501 wp_79 rfl (Nat.le_of_ble_eq_true rfl) (M0.mono h (fun v τ9 h => ?_))
    obtain ⟨rfl, h⟩ := h
    show V0 E (d + 1) qX11_beginning 54 [some (vR 140)] [] τ9 Q
    refine u_aload_n (i := 0) (pc' := 55) dX11_beginning_54 rfl rfl rfl ?_
    refine u_getR (a := 143) (pc' := 58) dX11_beginning_55 rfl fl_TuneDoorModel_54 rfl (by decide) kd_140 rfl ?_
    refine u_aload_n (i := 0) (pc' := 59) dX11_beginning_58 rfl rfl rfl ?_
    refine u_getI (z := (τ9 140 39)) (pc' := 62) dX11_beginning_59 rfl fl_TuneDoorModel_130 rfl (by decide) (by decide) kd_140 rfl (fun r10 => ?_)
    refine u_aload_n (i := 0) (pc' := 63) dX11_beginning_62 rfl rfl rfl ?_
    refine u_iconst (pc' := 64) dX11_beginning_63 rfl ?_
    refine u_iconst (pc' := 65) dX11_beginning_64 rfl ?_
    refine u_invV (q' := qX11_number) (As := [vI 2, vI 5]) (st := [vI (τ9 140 39), vR 143]) (pc' := 68) dX11_beginning_65 rfl gX11_number wm_1491 rfl rfl (by decide) kd_140 wm_1493 wp_78 rfl (Nat.le_of_ble_eq_true rfl) (M0.mono h (fun v τ11 h => ?_))
    obtain ⟨r12, rfl, h⟩ := h
    show V0 E (d + 1) qX11_beginning 68 [some (vR 140)] [vI r12, vI (τ9 140 39), vR 143] τ11 Q
    obtain ⟨c13, c14, c15, h⟩ := h
    refine u_iastore (k := (τ9 140 39).toNat) (pc' := 69) dX11_beginning_68 rfl (by decide) kd_143 c13 c14 (by decide) rfl c15 ?_
    refine u_aload_n (i := 0) (pc' := 70) dX11_beginning_69 rfl rfl rfl ?_
    refine u_getI (z := (τ11 140 8)) (pc' := 73) dX11_beginning_70 rfl fl_TuneDoorModel_36 rfl (by decide) (by decide) kd_140 rfl (fun r16 => ?_)
    refine u_if_ne (tgt := 82) (pc' := 76) dX11_beginning_73 rfl (by decide) r16 (fun hb => ?_) (fun hb => ?_)
    · have h := h.1 hb
      exact u_ret dX11_beginning_82 rfl h
    · have h := h.2 hb
      refine u_aload_n (i := 0) (pc' := 77) dX11_beginning_76 rfl rfl rfl ?_
      refine u_bipush (pc' := 79) dX11_beginning_77 rfl (by decide) ?_
      refine u_invV (q' := qX11_must) (As := [vI 59]) (st := []) (pc' := 82) dX11_beginning_79 rfl gX11_must wm_1503 rfl rfl (by decide) kd_140 wm_1505 wp_80 rfl (Nat.le_of_ble_eq_true rfl) (M0.mono h (fun v τ17 h => ?_))
      obtain ⟨rfl, h⟩ := h
      show V0 E (d + 1) qX11_beginning 82 [some (vR 140)] [] τ17 Q
      exact u_ret dX11_beginning_82 rfl h
  · have h := h.2 hb
    exact u_ret dX11_beginning_26 rfl h
set_option maxRecDepth 20000 in
theorem bX11_isWord_0 {E : mm_Env} {d : Nat} {τ : mm_Mem} {Q : mm_Q0} {a0 : Int} (h : (((τ 140 3) ≠ 1 → Q (some (vB false)) τ) ∧ ((τ 140 3) = 1 → inL (τ 140 7) ∧ inL a0 ∧ (((τ 140 7) ≠ a0 → Q (some (vB false)) τ) ∧ ((τ 140 7) = a0 → Q (some (vB true)) τ))))) : V0 E d qX11_isWord 0 [some (vR 140), some (vL a0), none] [] τ Q := by
  refine u_aload_n (i := 0) (pc' := 1) dX11_isWord_0 rfl rfl rfl ?_
  refine u_getI (z := (τ 140 3)) (pc' := 4) dX11_isWord_1 rfl fl_TuneDoorModel_20 rfl (by decide) (by decide) kd_140 rfl (fun r1 => ?_)
  refine u_iconst (pc' := 5) dX11_isWord_4 rfl ?_
  refine u_icmp_ne (tgt := 21) (pc' := 8) dX11_isWord_5 rfl (by decide) r1 ⟨by decide, by decide⟩ (fun hb => ?_) (fun hb => ?_)
  · have h := h.1 hb
    refine u_iconst (pc' := 22) dX11_isWord_21 rfl ?_
    exact u_zret (b := false) dX11_isWord_22 rfl rfl h
  · have h := h.2 hb
    refine u_aload_n (i := 0) (pc' := 9) dX11_isWord_8 rfl rfl rfl ?_
    refine u_getL (z := (τ 140 7)) (pc' := 12) dX11_isWord_9 rfl fl_TuneDoorModel_32 rfl rfl (by decide) kd_140 rfl ?_
    refine u_lload_n (i := 1) (pc' := 13) dX11_isWord_12 rfl rfl rfl ?_
    obtain ⟨c2, c3, h⟩ := h
    refine u_lcmp (pc' := 14) dX11_isWord_13 rfl c2 c3 ?_
    refine u_if_ne (tgt := 21) (pc' := 17) dX11_isWord_14 rfl (by decide) (mm_cmp_R _ _) (fun hb => ?_) (fun hb => ?_)
    · have h := h.1 (mm_cmp_ne.mp hb)
      refine u_iconst (pc' := 22) dX11_isWord_21 rfl ?_
      exact u_zret (b := false) dX11_isWord_22 rfl rfl h
    · have h := h.2 (mm_cmp_0.mp hb)
      refine u_iconst (pc' := 18) dX11_isWord_17 rfl ?_
      refine u_goto (tgt := 22) dX11_isWord_18 (by decide) ?_
      exact u_zret (b := true) dX11_isWord_22 rfl rfl h
theorem mX11_isWord {E : mm_Env} {d : Nat} {τ : mm_Mem} {Q : mm_Q0} {a0 : Int} (h : (((τ 140 3) ≠ 1 → Q (some (vB false)) τ) ∧ ((τ 140 3) = 1 → inL (τ 140 7) ∧ inL a0 ∧ (((τ 140 7) ≠ a0 → Q (some (vB false)) τ) ∧ ((τ 140 7) = a0 → Q (some (vB true)) τ))))) : M0 E d qX11_isWord [vR 140, vL a0] τ Q := M0_of rfl (Nat.le_of_ble_eq_true rfl) [some (vR 140), some (vL a0), none] rfl (bX11_isWord_0  h)
set_option maxRecDepth 20000 in
theorem bX11_number_0 {E : mm_Env} {d : Nat} {τ : mm_Mem} {Q : mm_Q0} {a0 : Int} {a1 : Int} (h : (((τ 140 8) ≤ 0 → (((τ 140 3) = 2 → V0 E (d + 1) qX11_number 26 [some (vR 140), some (vI a0), some (vI a1), none] [] τ Q) ∧ (¬ (τ 140 3) = 2 → M0 E d qX11_blame [vR 140, vI 1, vI (τ 140 4)] τ (fun v τ4 => v = none ∧ V0 E (d + 1) qX11_number 26 [some (vR 140), some (vI a0), some (vI a1), none] [] τ4 Q)))) ∧ (¬ (τ 140 8) ≤ 0 → Q (some (vI 0)) τ))) : V0 E (d + 1) qX11_number 0 [some (vR 140), some (vI a0), some (vI a1), none] [] τ Q := by
  refine u_aload_n (i := 0) (pc' := 1) dX11_number_0 rfl rfl rfl ?_
  refine u_getI (z := (τ 140 8)) (pc' := 4) dX11_number_1 rfl fl_TuneDoorModel_36 rfl (by decide) (by decide) kd_140 rfl (fun r1 => ?_)
  refine u_if_le (tgt := 9) (pc' := 7) dX11_number_4 rfl (by decide) r1 (fun hb => ?_) (fun hb => ?_)
  · have h := h.1 hb
    refine u_aload_n (i := 0) (pc' := 10) dX11_number_9 rfl rfl rfl ?_
    refine u_getI (z := (τ 140 3)) (pc' := 13) dX11_number_10 rfl fl_TuneDoorModel_20 rfl (by decide) (by decide) kd_140 rfl (fun r2 => ?_)
    refine u_iconst (pc' := 14) dX11_number_13 rfl ?_
    refine u_icmp_eq (tgt := 26) (pc' := 17) dX11_number_14 rfl (by decide) r2 ⟨by decide, by decide⟩ (fun hb => ?_) (fun hb => ?_)
    · have h := h.1 hb
      exact u_less (ls' := [some (vR 140), some (vI a0), some (vI a1), none]) ⟨rfl, ⟨rfl, ⟨rfl, trivial⟩⟩⟩ h
    · have h := h.2 hb
      refine u_aload_n (i := 0) (pc' := 18) dX11_number_17 rfl rfl rfl ?_
      refine u_iconst (pc' := 19) dX11_number_18 rfl ?_
      refine u_aload_n (i := 0) (pc' := 20) dX11_number_19 rfl rfl rfl ?_
      refine u_getI (z := (τ 140 4)) (pc' := 23) dX11_number_20 rfl fl_TuneDoorModel_23 rfl (by decide) (by decide) kd_140 rfl (fun r3 => ?_)
      refine u_invV (q' := qX11_blame) (As := [vI 1, vI (τ 140 4)]) (st := []) (pc' := 26) dX11_number_23 rfl gX11_blame wm_1478 rfl rfl (by decide) kd_140 wm_1480 wp_75 rfl (Nat.le_of_ble_eq_true rfl) (M0.mono h (fun v τ4 h => ?_))
      obtain ⟨rfl, h⟩ := h
      show V0 E (d + 1) qX11_number 26 [some (vR 140), some (vI a0), some (vI a1), none] [] τ4 Q
      exact u_less (ls' := [some (vR 140), some (vI a0), some (vI a1), none]) ⟨rfl, ⟨rfl, ⟨rfl, trivial⟩⟩⟩ h
  · have h := h.2 hb
    refine u_iconst (pc' := 8) dX11_number_7 rfl ?_
    exact u_iret dX11_number_8 rfl h
theorem mX11_number {E : mm_Env} {d : Nat} {τ : mm_Mem} {Q : mm_Q0} {a0 : Int} {a1 : Int} (h : (((τ 140 8) ≤ 0 → (((τ 140 3) = 2 → V0 E (d + 1) qX11_number 26 [some (vR 140), some (vI a0), some (vI a1), none] [] τ Q) ∧ (¬ (τ 140 3) = 2 → M0 E d qX11_blame [vR 140, vI 1, vI (τ 140 4)] τ (fun v τ4 => v = none ∧ V0 E (d + 1) qX11_number 26 [some (vR 140), some (vI a0), some (vI a1), none] [] τ4 Q)))) ∧ (¬ (τ 140 8) ≤ 0 → Q (some (vI 0)) τ))) : M0 E (d + 1) qX11_number [vR 140, vI a0, vI a1] τ Q := M0_of rfl (Nat.le_of_ble_eq_true rfl) [some (vR 140), some (vI a0), some (vI a1), none] rfl (bX11_number_0  h)
set_option maxRecDepth 20000 in
theorem bX11_number_26 {E : mm_Env} {d : Nat} {τ : mm_Mem} {Q : mm_Q0} {x1 : Int} {x2 : Int} (h : (((τ 140 8) ≠ 0 → (((τ 140 8) ≠ 0 → Q (some (vI (τ 140 6))) τ) ∧ ((τ 140 8) = 0 → M0 E d qX11_ahead [vR 140] τ (fun v τ4 => v = none ∧ Q (some (vI (τ 140 6))) τ4)))) ∧ ((τ 140 8) = 0 → M0 E d qX11_is [vI (τ 140 6), vI x1, vI x2] τ (fun v τ6 => ∃ b7 : Bool, v = some (vB b7) ∧ ((b7 = true → (((τ6 140 8) ≠ 0 → Q (some (vI (τ6 140 6))) τ6) ∧ ((τ6 140 8) = 0 → M0 E d qX11_ahead [vR 140] τ6 (fun v τ10 => v = none ∧ Q (some (vI (τ6 140 6))) τ10)))) ∧ (b7 = false → M0 E d qX11_blame [vR 140, vI 4, vI (τ6 140 4)] τ6 (fun v τ12 => v = none ∧ (((τ12 140 8) ≠ 0 → Q (some (vI (τ12 140 6))) τ12) ∧ ((τ12 140 8) = 0 → M0 E d qX11_ahead [vR 140] τ12 (fun v τ15 => v = none ∧ Q (some (vI (τ12 140 6))) τ15)))))))))) : V0 E (d + 1) qX11_number 26 [some (vR 140), some (vI x1), some (vI x2), none] [] τ Q := by
  refine u_aload_n (i := 0) (pc' := 27) dX11_number_26 rfl rfl rfl ?_
  refine u_getI (z := (τ 140 8)) (pc' := 30) dX11_number_27 rfl fl_TuneDoorModel_36 rfl (by decide) (by decide) kd_140 rfl (fun r1 => ?_)
  refine u_if_ne (tgt := 54) (pc' := 33) dX11_number_30 rfl (by decide) r1 (fun hb => ?_) (fun hb => ?_)
  · have h := h.1 hb
    refine u_aload_n (i := 0) (pc' := 55) dX11_number_54 rfl rfl rfl ?_
    refine u_getI (z := (τ 140 6)) (pc' := 58) dX11_number_55 rfl fl_TuneDoorModel_29 rfl (by decide) (by decide) kd_140 rfl (fun r2 => ?_)
    refine s_istore_n (i := 3) (ls' := [some (vR 140), some (vI x1), some (vI x2), some (vI (τ 140 6))]) (pc' := 59) dX11_number_58 rfl rfl (Nat.le_of_ble_eq_true rfl) rfl rfl ?_
    refine u_aload_n (i := 0) (pc' := 60) dX11_number_59 rfl rfl rfl ?_
    refine u_getI (z := (τ 140 8)) (pc' := 63) dX11_number_60 rfl fl_TuneDoorModel_36 rfl (by decide) (by decide) kd_140 rfl (fun r3 => ?_)
    refine u_if_ne (tgt := 70) (pc' := 66) dX11_number_63 rfl (by decide) r3 (fun hb => ?_) (fun hb => ?_)
    · have h := h.1 hb
      refine u_iload_n (i := 3) (pc' := 71) dX11_number_70 rfl rfl rfl ?_
      exact u_iret dX11_number_71 rfl h
    · have h := h.2 hb
      refine u_aload_n (i := 0) (pc' := 67) dX11_number_66 rfl rfl rfl ?_
      refine u_invV (q' := qX11_ahead) (As := []) (st := []) (pc' := 70) dX11_number_67 rfl gX11_ahead wm_1468 rfl rfl (by decide) kd_140 wm_1470 wp_74 rfl (Nat.le_of_ble_eq_true rfl) (M0.mono h (fun v τ4 h => ?_))
      obtain ⟨rfl, h⟩ := h
      show V0 E (d + 1) qX11_number 70 [some (vR 140), some (vI x1), some (vI x2), some (vI (τ 140 6))] [] τ4 Q
      refine u_iload_n (i := 3) (pc' := 71) dX11_number_70 rfl rfl rfl ?_
      exact u_iret dX11_number_71 rfl h
  · have h := h.2 hb
    refine u_aload_n (i := 0) (pc' := 34) dX11_number_33 rfl rfl rfl ?_
    refine u_getI (z := (τ 140 6)) (pc' := 37) dX11_number_34 rfl fl_TuneDoorModel_29 rfl (by decide) (by decide) kd_140 rfl (fun r5 => ?_)
    refine u_iload_n (i := 1) (pc' := 38) dX11_number_37 rfl rfl rfl ?_
    refine u_iload_n (i := 2) (pc' := 39) dX11_number_38 rfl rfl rfl ?_
    refine u_invS (q' := qX11_is) (As := [vI (τ 140 6), vI x1, vI x2]) (st := []) (pc' := 42) dX11_number_39 rfl gX11_is wm_1495 wm_1496 rfl (Nat.le_of_ble_eq_true rfl) (M0.mono h (fun v τ6 h => ?_))
    obtain ⟨b7, rfl, h⟩ := h
    show V0 E (d + 1) qX11_number 42 [some (vR 140), some (vI x1), some (vI x2), none] [vB b7] τ6 Q
    refine u_if_ne (tgt := 54) (pc' := 45) dX11_number_42 rfl (by decide) (bI_R _) (fun hb => ?_) (fun hb => ?_)
    · have h := h.1 (bI_n0.mp hb)
      refine u_aload_n (i := 0) (pc' := 55) dX11_number_54 rfl rfl rfl ?_
      refine u_getI (z := (τ6 140 6)) (pc' := 58) dX11_number_55 rfl fl_TuneDoorModel_29 rfl (by decide) (by decide) kd_140 rfl (fun r8 => ?_)
      refine s_istore_n (i := 3) (ls' := [some (vR 140), some (vI x1), some (vI x2), some (vI (τ6 140 6))]) (pc' := 59) dX11_number_58 rfl rfl (Nat.le_of_ble_eq_true rfl) rfl rfl ?_
      refine u_aload_n (i := 0) (pc' := 60) dX11_number_59 rfl rfl rfl ?_
      refine u_getI (z := (τ6 140 8)) (pc' := 63) dX11_number_60 rfl fl_TuneDoorModel_36 rfl (by decide) (by decide) kd_140 rfl (fun r9 => ?_)
      refine u_if_ne (tgt := 70) (pc' := 66) dX11_number_63 rfl (by decide) r9 (fun hb => ?_) (fun hb => ?_)
      · have h := h.1 hb
        refine u_iload_n (i := 3) (pc' := 71) dX11_number_70 rfl rfl rfl ?_
        exact u_iret dX11_number_71 rfl h
      · have h := h.2 hb
        refine u_aload_n (i := 0) (pc' := 67) dX11_number_66 rfl rfl rfl ?_
        refine u_invV (q' := qX11_ahead) (As := []) (st := []) (pc' := 70) dX11_number_67 rfl gX11_ahead wm_1468 rfl rfl (by decide) kd_140 wm_1470 wp_74 rfl (Nat.le_of_ble_eq_true rfl) (M0.mono h (fun v τ10 h => ?_))
        obtain ⟨rfl, h⟩ := h
        show V0 E (d + 1) qX11_number 70 [some (vR 140), some (vI x1), some (vI x2), some (vI (τ6 140 6))] [] τ10 Q
        refine u_iload_n (i := 3) (pc' := 71) dX11_number_70 rfl rfl rfl ?_
        exact u_iret dX11_number_71 rfl h
    · have h := h.2 (bI_0.mp hb)
      refine u_aload_n (i := 0) (pc' := 46) dX11_number_45 rfl rfl rfl ?_
      refine u_iconst (pc' := 47) dX11_number_46 rfl ?_
      refine u_aload_n (i := 0) (pc' := 48) dX11_number_47 rfl rfl rfl ?_
      refine u_getI (z := (τ6 140 4)) (pc' := 51) dX11_number_48 rfl fl_TuneDoorModel_23 rfl (by decide) (by decide) kd_140 rfl (fun r11 => ?_)
      refine u_invV (q' := qX11_blame) (As := [vI 4, vI (τ6 140 4)]) (st := []) (pc' := 54) dX11_number_51 rfl gX11_blame wm_1478 rfl rfl (by decide) kd_140 wm_1480 wp_75 rfl (Nat.le_of_ble_eq_true rfl) (M0.mono h (fun v τ12 h => ?_))
      obtain ⟨rfl, h⟩ := h
      show V0 E (d + 1) qX11_number 54 [some (vR 140), some (vI x1), some (vI x2), none] [] τ12 Q
      refine u_aload_n (i := 0) (pc' := 55) dX11_number_54 rfl rfl rfl ?_
      refine u_getI (z := (τ12 140 6)) (pc' := 58) dX11_number_55 rfl fl_TuneDoorModel_29 rfl (by decide) (by decide) kd_140 rfl (fun r13 => ?_)
      refine s_istore_n (i := 3) (ls' := [some (vR 140), some (vI x1), some (vI x2), some (vI (τ12 140 6))]) (pc' := 59) dX11_number_58 rfl rfl (Nat.le_of_ble_eq_true rfl) rfl rfl ?_
      refine u_aload_n (i := 0) (pc' := 60) dX11_number_59 rfl rfl rfl ?_
      refine u_getI (z := (τ12 140 8)) (pc' := 63) dX11_number_60 rfl fl_TuneDoorModel_36 rfl (by decide) (by decide) kd_140 rfl (fun r14 => ?_)
      refine u_if_ne (tgt := 70) (pc' := 66) dX11_number_63 rfl (by decide) r14 (fun hb => ?_) (fun hb => ?_)
      · have h := h.1 hb
        refine u_iload_n (i := 3) (pc' := 71) dX11_number_70 rfl rfl rfl ?_
        exact u_iret dX11_number_71 rfl h
      · have h := h.2 hb
        refine u_aload_n (i := 0) (pc' := 67) dX11_number_66 rfl rfl rfl ?_
        refine u_invV (q' := qX11_ahead) (As := []) (st := []) (pc' := 70) dX11_number_67 rfl gX11_ahead wm_1468 rfl rfl (by decide) kd_140 wm_1470 wp_74 rfl (Nat.le_of_ble_eq_true rfl) (M0.mono h (fun v τ15 h => ?_))
        obtain ⟨rfl, h⟩ := h
        show V0 E (d + 1) qX11_number 70 [some (vR 140), some (vI x1), some (vI x2), some (vI (τ12 140 6))] [] τ15 Q
        refine u_iload_n (i := 3) (pc' := 71) dX11_number_70 rfl rfl rfl ?_
        exact u_iret dX11_number_71 rfl h
set_option maxRecDepth 20000 in
theorem bX11_is_0 {E : mm_Env} {d : Nat} {τ : mm_Mem} {Q : mm_Q0} {a0 : Int} {a1 : Int} {a2 : Int} (h : inR a0 ∧ inR a1 ∧ ((a0 < a1 → Q (some (vB false)) τ) ∧ (¬ a0 < a1 → inR a2 ∧ ((a2 < a0 → Q (some (vB false)) τ) ∧ (¬ a2 < a0 → Q (some (vB true)) τ))))) : V0 E d qX11_is 0 [some (vI a0), some (vI a1), some (vI a2)] [] τ Q := by
  refine u_iload_n (i := 0) (pc' := 1) dX11_is_0 rfl rfl rfl ?_
  refine u_iload_n (i := 1) (pc' := 2) dX11_is_1 rfl rfl rfl ?_
  obtain ⟨c1, c2, h⟩ := h
  refine u_icmp_lt (tgt := 14) (pc' := 5) dX11_is_2 rfl (by decide) c1 c2 (fun hb => ?_) (fun hb => ?_)
  · have h := h.1 hb
    refine u_iconst (pc' := 15) dX11_is_14 rfl ?_
    exact u_zret (b := false) dX11_is_15 rfl rfl h
  · have h := h.2 hb
    refine u_iload_n (i := 0) (pc' := 6) dX11_is_5 rfl rfl rfl ?_
    refine u_iload_n (i := 2) (pc' := 7) dX11_is_6 rfl rfl rfl ?_
    obtain ⟨c3, h⟩ := h
    refine u_icmp_gt (tgt := 14) (pc' := 10) dX11_is_7 rfl (by decide) c1 c3 (fun hb => ?_) (fun hb => ?_)
    · have h := h.1 hb
      refine u_iconst (pc' := 15) dX11_is_14 rfl ?_
      exact u_zret (b := false) dX11_is_15 rfl rfl h
    · have h := h.2 hb
      refine u_iconst (pc' := 11) dX11_is_10 rfl ?_
      refine u_goto (tgt := 15) dX11_is_11 (by decide) ?_
      exact u_zret (b := true) dX11_is_15 rfl rfl h
theorem mX11_is {E : mm_Env} {d : Nat} {τ : mm_Mem} {Q : mm_Q0} {a0 : Int} {a1 : Int} {a2 : Int} (h : inR a0 ∧ inR a1 ∧ ((a0 < a1 → Q (some (vB false)) τ) ∧ (¬ a0 < a1 → inR a2 ∧ ((a2 < a0 → Q (some (vB false)) τ) ∧ (¬ a2 < a0 → Q (some (vB true)) τ))))) : M0 E d qX11_is [vI a0, vI a1, vI a2] τ Q := M0_of rfl (Nat.le_of_ble_eq_true rfl) [some (vI a0), some (vI a1), some (vI a2)] rfl (bX11_is_0  h)
set_option maxRecDepth 20000 in
theorem bX11_must__0 {E : mm_Env} {d : Nat} {τ : mm_Mem} {Q : mm_Q0} {a0 : Int} (h : (((τ 140 8) ≤ 0 → M0 E d qX11_isWord [vR 140, vL a0] τ (fun v τ2 => ∃ b3 : Bool, v = some (vB b3) ∧ ((b3 = true → (((τ2 140 8) ≠ 0 → Q none τ2) ∧ ((τ2 140 8) = 0 → M0 E d qX11_ahead [vR 140] τ2 (fun v τ5 => v = none ∧ Q none τ5)))) ∧ (b3 = false → M0 E d qX11_blame [vR 140, vI 1, vI (τ2 140 4)] τ2 (fun v τ7 => v = none ∧ (((τ7 140 8) ≠ 0 → Q none τ7) ∧ ((τ7 140 8) = 0 → M0 E d qX11_ahead [vR 140] τ7 (fun v τ9 => v = none ∧ Q none τ9)))))))) ∧ (¬ (τ 140 8) ≤ 0 → Q none τ))) : V0 E (d + 1) qX11_must_ 0 [some (vR 140), some (vL a0), none] [] τ Q := by
  refine u_aload_n (i := 0) (pc' := 1) dX11_must__0 rfl rfl rfl ?_
  refine u_getI (z := (τ 140 8)) (pc' := 4) dX11_must__1 rfl fl_TuneDoorModel_36 rfl (by decide) (by decide) kd_140 rfl (fun r1 => ?_)
  refine u_if_le (tgt := 8) (pc' := 7) dX11_must__4 rfl (by decide) r1 (fun hb => ?_) (fun hb => ?_)
  · have h := h.1 hb
    refine u_aload_n (i := 0) (pc' := 9) dX11_must__8 rfl rfl rfl ?_
    refine u_lload_n (i := 1) (pc' := 10) dX11_must__9 rfl rfl rfl ?_
    refine u_invV (q' := qX11_isWord) (As := [vL a0]) (st := []) (pc' := 13) dX11_must__10 rfl gX11_isWord wm_1487 rfl rfl (by decide) kd_140 wm_1489 wp_77 rfl (Nat.le_of_ble_eq_true rfl) (M0.mono h (fun v τ2 h => ?_))
    obtain ⟨b3, rfl, h⟩ := h
    show V0 E (d + 1) qX11_must_ 13 [some (vR 140), some (vL a0), none] [vB b3] τ2 Q
    refine u_if_ne (tgt := 25) (pc' := 16) dX11_must__13 rfl (by decide) (bI_R _) (fun hb => ?_) (fun hb => ?_)
    · have h := h.1 (bI_n0.mp hb)
      refine u_aload_n (i := 0) (pc' := 26) dX11_must__25 rfl rfl rfl ?_
      refine u_getI (z := (τ2 140 8)) (pc' := 29) dX11_must__26 rfl fl_TuneDoorModel_36 rfl (by decide) (by decide) kd_140 rfl (fun r4 => ?_)
      refine u_if_ne (tgt := 36) (pc' := 32) dX11_must__29 rfl (by decide) r4 (fun hb => ?_) (fun hb => ?_)
      · have h := h.1 hb
        exact u_ret dX11_must__36 rfl h
      · have h := h.2 hb
        refine u_aload_n (i := 0) (pc' := 33) dX11_must__32 rfl rfl rfl ?_
        refine u_invV (q' := qX11_ahead) (As := []) (st := []) (pc' := 36) dX11_must__33 rfl gX11_ahead wm_1468 rfl rfl (by decide) kd_140 wm_1470 wp_74 rfl (Nat.le_of_ble_eq_true rfl) (M0.mono h (fun v τ5 h => ?_))
        obtain ⟨rfl, h⟩ := h
        show V0 E (d + 1) qX11_must_ 36 [some (vR 140), some (vL a0), none] [] τ5 Q
        exact u_ret dX11_must__36 rfl h
    · have h := h.2 (bI_0.mp hb)
      refine u_aload_n (i := 0) (pc' := 17) dX11_must__16 rfl rfl rfl ?_
      refine u_iconst (pc' := 18) dX11_must__17 rfl ?_
      refine u_aload_n (i := 0) (pc' := 19) dX11_must__18 rfl rfl rfl ?_
      refine u_getI (z := (τ2 140 4)) (pc' := 22) dX11_must__19 rfl fl_TuneDoorModel_23 rfl (by decide) (by decide) kd_140 rfl (fun r6 => ?_)
      refine u_invV (q' := qX11_blame) (As := [vI 1, vI (τ2 140 4)]) (st := []) (pc' := 25) dX11_must__22 rfl gX11_blame wm_1478 rfl rfl (by decide) kd_140 wm_1480 wp_75 rfl (Nat.le_of_ble_eq_true rfl) (M0.mono h (fun v τ7 h => ?_))
      obtain ⟨rfl, h⟩ := h
      show V0 E (d + 1) qX11_must_ 25 [some (vR 140), some (vL a0), none] [] τ7 Q
      refine u_aload_n (i := 0) (pc' := 26) dX11_must__25 rfl rfl rfl ?_
      refine u_getI (z := (τ7 140 8)) (pc' := 29) dX11_must__26 rfl fl_TuneDoorModel_36 rfl (by decide) (by decide) kd_140 rfl (fun r8 => ?_)
      refine u_if_ne (tgt := 36) (pc' := 32) dX11_must__29 rfl (by decide) r8 (fun hb => ?_) (fun hb => ?_)
      · have h := h.1 hb
        exact u_ret dX11_must__36 rfl h
      · have h := h.2 hb
        refine u_aload_n (i := 0) (pc' := 33) dX11_must__32 rfl rfl rfl ?_
        refine u_invV (q' := qX11_ahead) (As := []) (st := []) (pc' := 36) dX11_must__33 rfl gX11_ahead wm_1468 rfl rfl (by decide) kd_140 wm_1470 wp_74 rfl (Nat.le_of_ble_eq_true rfl) (M0.mono h (fun v τ9 h => ?_))
        obtain ⟨rfl, h⟩ := h
        show V0 E (d + 1) qX11_must_ 36 [some (vR 140), some (vL a0), none] [] τ9 Q
        exact u_ret dX11_must__36 rfl h
  · have h := h.2 hb
    exact u_ret dX11_must__7 rfl h
theorem mX11_must_ {E : mm_Env} {d : Nat} {τ : mm_Mem} {Q : mm_Q0} {a0 : Int} (h : (((τ 140 8) ≤ 0 → M0 E d qX11_isWord [vR 140, vL a0] τ (fun v τ2 => ∃ b3 : Bool, v = some (vB b3) ∧ ((b3 = true → (((τ2 140 8) ≠ 0 → Q none τ2) ∧ ((τ2 140 8) = 0 → M0 E d qX11_ahead [vR 140] τ2 (fun v τ5 => v = none ∧ Q none τ5)))) ∧ (b3 = false → M0 E d qX11_blame [vR 140, vI 1, vI (τ2 140 4)] τ2 (fun v τ7 => v = none ∧ (((τ7 140 8) ≠ 0 → Q none τ7) ∧ ((τ7 140 8) = 0 → M0 E d qX11_ahead [vR 140] τ7 (fun v τ9 => v = none ∧ Q none τ9)))))))) ∧ (¬ (τ 140 8) ≤ 0 → Q none τ))) : M0 E (d + 1) qX11_must_ [vR 140, vL a0] τ Q := M0_of rfl (Nat.le_of_ble_eq_true rfl) [some (vR 140), some (vL a0), none] rfl (bX11_must__0  h)
set_option maxRecDepth 20000 in
theorem bX11_must_0 {E : mm_Env} {d : Nat} {τ : mm_Mem} {Q : mm_Q0} {a0 : Int} (h : M0 E d qX11_isSign [vR 140, vI a0] τ (fun v τ1 => ∃ b2 : Bool, v = some (vB b2) ∧ ((b2 = true → (((τ1 140 8) ≠ 0 → Q none τ1) ∧ ((τ1 140 8) = 0 → M0 E d qX11_ahead [vR 140] τ1 (fun v τ4 => v = none ∧ Q none τ4)))) ∧ (b2 = false → M0 E d qX11_blame [vR 140, vI 1, vI (τ1 140 4)] τ1 (fun v τ6 => v = none ∧ (((τ6 140 8) ≠ 0 → Q none τ6) ∧ ((τ6 140 8) = 0 → M0 E d qX11_ahead [vR 140] τ6 (fun v τ8 => v = none ∧ Q none τ8)))))))) : V0 E (d + 1) qX11_must 0 [some (vR 140), some (vI a0)] [] τ Q := by
  refine u_aload_n (i := 0) (pc' := 1) dX11_must_0 rfl rfl rfl ?_
  refine u_iload_n (i := 1) (pc' := 2) dX11_must_1 rfl rfl rfl ?_
  refine u_invV (q' := qX11_isSign) (As := [vI a0]) (st := []) (pc' := 5) dX11_must_2 rfl gX11_isSign wm_1507 rfl rfl (by decide) kd_140 wm_1509 wp_81 rfl (Nat.le_of_ble_eq_true rfl) (M0.mono h (fun v τ1 h => ?_))
  obtain ⟨b2, rfl, h⟩ := h
  show V0 E (d + 1) qX11_must 5 [some (vR 140), some (vI a0)] [vB b2] τ1 Q
  refine u_if_ne (tgt := 17) (pc' := 8) dX11_must_5 rfl (by decide) (bI_R _) (fun hb => ?_) (fun hb => ?_)
  · have h := h.1 (bI_n0.mp hb)
    refine u_aload_n (i := 0) (pc' := 18) dX11_must_17 rfl rfl rfl ?_
    refine u_getI (z := (τ1 140 8)) (pc' := 21) dX11_must_18 rfl fl_TuneDoorModel_36 rfl (by decide) (by decide) kd_140 rfl (fun r3 => ?_)
    refine u_if_ne (tgt := 28) (pc' := 24) dX11_must_21 rfl (by decide) r3 (fun hb => ?_) (fun hb => ?_)
    · have h := h.1 hb
      exact u_ret dX11_must_28 rfl h
    · have h := h.2 hb
      refine u_aload_n (i := 0) (pc' := 25) dX11_must_24 rfl rfl rfl ?_
      refine u_invV (q' := qX11_ahead) (As := []) (st := []) (pc' := 28) dX11_must_25 rfl gX11_ahead wm_1468 rfl rfl (by decide) kd_140 wm_1470 wp_74 rfl (Nat.le_of_ble_eq_true rfl) (M0.mono h (fun v τ4 h => ?_))
      obtain ⟨rfl, h⟩ := h
      show V0 E (d + 1) qX11_must 28 [some (vR 140), some (vI a0)] [] τ4 Q
      exact u_ret dX11_must_28 rfl h
  · have h := h.2 (bI_0.mp hb)
    refine u_aload_n (i := 0) (pc' := 9) dX11_must_8 rfl rfl rfl ?_
    refine u_iconst (pc' := 10) dX11_must_9 rfl ?_
    refine u_aload_n (i := 0) (pc' := 11) dX11_must_10 rfl rfl rfl ?_
    refine u_getI (z := (τ1 140 4)) (pc' := 14) dX11_must_11 rfl fl_TuneDoorModel_23 rfl (by decide) (by decide) kd_140 rfl (fun r5 => ?_)
    refine u_invV (q' := qX11_blame) (As := [vI 1, vI (τ1 140 4)]) (st := []) (pc' := 17) dX11_must_14 rfl gX11_blame wm_1478 rfl rfl (by decide) kd_140 wm_1480 wp_75 rfl (Nat.le_of_ble_eq_true rfl) (M0.mono h (fun v τ6 h => ?_))
    obtain ⟨rfl, h⟩ := h
    show V0 E (d + 1) qX11_must 17 [some (vR 140), some (vI a0)] [] τ6 Q
    refine u_aload_n (i := 0) (pc' := 18) dX11_must_17 rfl rfl rfl ?_
    refine u_getI (z := (τ6 140 8)) (pc' := 21) dX11_must_18 rfl fl_TuneDoorModel_36 rfl (by decide) (by decide) kd_140 rfl (fun r7 => ?_)
    refine u_if_ne (tgt := 28) (pc' := 24) dX11_must_21 rfl (by decide) r7 (fun hb => ?_) (fun hb => ?_)
    · have h := h.1 hb
      exact u_ret dX11_must_28 rfl h
    · have h := h.2 hb
      refine u_aload_n (i := 0) (pc' := 25) dX11_must_24 rfl rfl rfl ?_
      refine u_invV (q' := qX11_ahead) (As := []) (st := []) (pc' := 28) dX11_must_25 rfl gX11_ahead wm_1468 rfl rfl (by decide) kd_140 wm_1470 wp_74 rfl (Nat.le_of_ble_eq_true rfl) (M0.mono h (fun v τ8 h => ?_))
      obtain ⟨rfl, h⟩ := h
      show V0 E (d + 1) qX11_must 28 [some (vR 140), some (vI a0)] [] τ8 Q
      exact u_ret dX11_must_28 rfl h
theorem mX11_must {E : mm_Env} {d : Nat} {τ : mm_Mem} {Q : mm_Q0} {a0 : Int} (h : M0 E d qX11_isSign [vR 140, vI a0] τ (fun v τ1 => ∃ b2 : Bool, v = some (vB b2) ∧ ((b2 = true → (((τ1 140 8) ≠ 0 → Q none τ1) ∧ ((τ1 140 8) = 0 → M0 E d qX11_ahead [vR 140] τ1 (fun v τ4 => v = none ∧ Q none τ4)))) ∧ (b2 = false → M0 E d qX11_blame [vR 140, vI 1, vI (τ1 140 4)] τ1 (fun v τ6 => v = none ∧ (((τ6 140 8) ≠ 0 → Q none τ6) ∧ ((τ6 140 8) = 0 → M0 E d qX11_ahead [vR 140] τ6 (fun v τ8 => v = none ∧ Q none τ8)))))))) : M0 E (d + 1) qX11_must [vR 140, vI a0] τ Q := M0_of rfl (Nat.le_of_ble_eq_true rfl) [some (vR 140), some (vI a0)] rfl (bX11_must_0  h)
set_option maxRecDepth 20000 in
theorem bX11_isSign_0 {E : mm_Env} {d : Nat} {τ : mm_Mem} {Q : mm_Q0} {a0 : Int} (h : (((τ 140 3) ≠ 3 → Q (some (vB false)) τ) ∧ ((τ 140 3) = 3 → inR a0 ∧ (((τ 140 6) ≠ a0 → Q (some (vB false)) τ) ∧ ((τ 140 6) = a0 → Q (some (vB true)) τ))))) : V0 E d qX11_isSign 0 [some (vR 140), some (vI a0)] [] τ Q := by
  refine u_aload_n (i := 0) (pc' := 1) dX11_isSign_0 rfl rfl rfl ?_
  refine u_getI (z := (τ 140 3)) (pc' := 4) dX11_isSign_1 rfl fl_TuneDoorModel_20 rfl (by decide) (by decide) kd_140 rfl (fun r1 => ?_)
  refine u_iconst (pc' := 5) dX11_isSign_4 rfl ?_
  refine u_icmp_ne (tgt := 20) (pc' := 8) dX11_isSign_5 rfl (by decide) r1 ⟨by decide, by decide⟩ (fun hb => ?_) (fun hb => ?_)
  · have h := h.1 hb
    refine u_iconst (pc' := 21) dX11_isSign_20 rfl ?_
    exact u_zret (b := false) dX11_isSign_21 rfl rfl h
  · have h := h.2 hb
    refine u_aload_n (i := 0) (pc' := 9) dX11_isSign_8 rfl rfl rfl ?_
    refine u_getI (z := (τ 140 6)) (pc' := 12) dX11_isSign_9 rfl fl_TuneDoorModel_29 rfl (by decide) (by decide) kd_140 rfl (fun r2 => ?_)
    refine u_iload_n (i := 1) (pc' := 13) dX11_isSign_12 rfl rfl rfl ?_
    obtain ⟨c3, h⟩ := h
    refine u_icmp_ne (tgt := 20) (pc' := 16) dX11_isSign_13 rfl (by decide) r2 c3 (fun hb => ?_) (fun hb => ?_)
    · have h := h.1 hb
      refine u_iconst (pc' := 21) dX11_isSign_20 rfl ?_
      exact u_zret (b := false) dX11_isSign_21 rfl rfl h
    · have h := h.2 hb
      refine u_iconst (pc' := 17) dX11_isSign_16 rfl ?_
      refine u_goto (tgt := 21) dX11_isSign_17 (by decide) ?_
      exact u_zret (b := true) dX11_isSign_21 rfl rfl h
theorem mX11_isSign {E : mm_Env} {d : Nat} {τ : mm_Mem} {Q : mm_Q0} {a0 : Int} (h : (((τ 140 3) ≠ 3 → Q (some (vB false)) τ) ∧ ((τ 140 3) = 3 → inR a0 ∧ (((τ 140 6) ≠ a0 → Q (some (vB false)) τ) ∧ ((τ 140 6) = a0 → Q (some (vB true)) τ))))) : M0 E d qX11_isSign [vR 140, vI a0] τ Q := M0_of rfl (Nat.le_of_ble_eq_true rfl) [some (vR 140), some (vI a0)] rfl (bX11_isSign_0  h)
set_option maxRecDepth 20000 in
theorem bX11_statement_0 {E : mm_Env} {d : Nat} {τ : mm_Mem} {Q : mm_Q0}  (h : M0 E d qX11_isWord [vR 140, vL 1953853029] τ (fun v τ1 => ∃ b2 : Bool, v = some (vB b2) ∧ ((b2 = false → M0 E d qX11_isWord [vR 140, vL 482854658917] τ1 (fun v τ3 => ∃ b4 : Bool, v = some (vB b4) ∧ ((b4 = false → M0 E d qX11_isWord [vR 140, vL 1852798053] τ3 (fun v τ5 => ∃ b6 : Bool, v = some (vB b6) ∧ ((b6 = false → M0 E d qX11_isWord [vR 140, vL 1801810036] τ5 (fun v τ7 => ∃ b8 : Bool, v = some (vB b8) ∧ ((b8 = false → M0 E d qX11_isWord [vR 140, vL 1685024626] τ7 (fun v τ9 => ∃ b10 : Bool, v = some (vB b10) ∧ ((b10 = false → M0 E d qX11_isWord [vR 140, vL 123581014175598] τ9 (fun v τ11 => ∃ b12 : Bool, v = some (vB b12) ∧ ((b12 = false → M0 E d qX11_isWord [vR 140, vL 512970880104] τ11 (fun v τ13 => ∃ b14 : Bool, v = some (vB b14) ∧ ((b14 = false → M0 E d qX11_blame [vR 140, vI 1, vI (τ13 140 4)] τ13 (fun v τ16 => v = none ∧ (((τ16 140 8) ≠ 0 → Q none τ16) ∧ ((τ16 140 8) = 0 → M0 E d qX11_must [vR 140, vI 59] τ16 (fun v τ18 => v = none ∧ Q none τ18))))) ∧ (b14 = true → M0 E d qX11_worths [vR 140] τ13 (fun v τ19 => v = none ∧ (((τ19 140 8) ≠ 0 → Q none τ19) ∧ ((τ19 140 8) = 0 → M0 E d qX11_must [vR 140, vI 59] τ19 (fun v τ21 => v = none ∧ Q none τ21)))))))) ∧ (b12 = true → M0 E d qX11_person [vR 140] τ11 (fun v τ22 => v = none ∧ (((τ22 140 8) ≠ 0 → Q none τ22) ∧ ((τ22 140 8) = 0 → M0 E d qX11_must [vR 140, vI 59] τ22 (fun v τ24 => v = none ∧ Q none τ24)))))))) ∧ (b10 = true → M0 E d qX11_door [vR 140] τ9 (fun v τ25 => v = none ∧ (((τ25 140 8) ≠ 0 → Q none τ25) ∧ ((τ25 140 8) = 0 → M0 E d qX11_must [vR 140, vI 59] τ25 (fun v τ27 => v = none ∧ Q none τ27)))))))) ∧ (b8 = true → M0 E d qX11_rule [vR 140, vI 2] τ7 (fun v τ28 => v = none ∧ (((τ28 140 8) ≠ 0 → Q none τ28) ∧ ((τ28 140 8) = 0 → M0 E d qX11_must [vR 140, vI 59] τ28 (fun v τ30 => v = none ∧ Q none τ30)))))))) ∧ (b6 = true → M0 E d qX11_rule [vR 140, vI 1] τ5 (fun v τ31 => v = none ∧ (((τ31 140 8) ≠ 0 → Q none τ31) ∧ ((τ31 140 8) = 0 → M0 E d qX11_must [vR 140, vI 59] τ31 (fun v τ33 => v = none ∧ Q none τ33)))))))) ∧ (b4 = true → M0 E d qX11_rule [vR 140, vI 0] τ3 (fun v τ34 => v = none ∧ (((τ34 140 8) ≠ 0 → Q none τ34) ∧ ((τ34 140 8) = 0 → M0 E d qX11_must [vR 140, vI 59] τ34 (fun v τ36 => v = none ∧ Q none τ36)))))))) ∧ (b2 = true → M0 E d qX11_tune [vR 140] τ1 (fun v τ37 => v = none ∧ (((τ37 140 8) ≠ 0 → Q none τ37) ∧ ((τ37 140 8) = 0 → M0 E d qX11_must [vR 140, vI 59] τ37 (fun v τ39 => v = none ∧ Q none τ39)))))))) : V0 E (d + 1) qX11_statement 0 [some (vR 140)] [] τ Q := by
  refine u_aload_n (i := 0) (pc' := 1) dX11_statement_0 rfl rfl rfl ?_
  refine u_ldc2 (z := 1953853029) (pc' := 4) dX11_statement_1 rfl wm_1515 (by decide) ?_
  refine u_invV (q' := qX11_isWord) (As := [vL 1953853029]) (st := []) (pc' := 7) dX11_statement_4 rfl gX11_isWord wm_1487 rfl rfl (by decide) kd_140 wm_1489 wp_77 rfl (Nat.le_of_ble_eq_true rfl) (M0.mono h (fun v τ1 h => ?_))
  obtain ⟨b2, rfl, h⟩ := h
  show V0 E (d + 1) qX11_statement 7 [some (vR 140)] [vB b2] τ1 Q
  refine u_if_eq (tgt := 17) (pc' := 10) dX11_statement_7 rfl (by decide) (bI_R _) (fun hb => ?_) (fun hb => ?_)
  · have h := h.1 (bI_0.mp hb)
    refine u_aload_n (i := 0) (pc' := 18) dX11_statement_17 rfl rfl rfl ?_
    refine u_ldc2 (z := 482854658917) (pc' := 21) dX11_statement_18 rfl wm_1533 (by decide) ?_
    refine u_invV (q' := qX11_isWord) (As := [vL 482854658917]) (st := []) (pc' := 24) dX11_statement_21 rfl gX11_isWord wm_1487 rfl rfl (by decide) kd_140 wm_1489 wp_77 rfl (Nat.le_of_ble_eq_true rfl) (M0.mono h (fun v τ3 h => ?_))
    obtain ⟨b4, rfl, h⟩ := h
    show V0 E (d + 1) qX11_statement 24 [some (vR 140)] [vB b4] τ3 Q
    refine u_if_eq (tgt := 35) (pc' := 27) dX11_statement_24 rfl (by decide) (bI_R _) (fun hb => ?_) (fun hb => ?_)
    · have h := h.1 (bI_0.mp hb)
      refine u_aload_n (i := 0) (pc' := 36) dX11_statement_35 rfl rfl rfl ?_
      refine u_ldc2 (z := 1852798053) (pc' := 39) dX11_statement_36 rfl wm_1534 (by decide) ?_
      refine u_invV (q' := qX11_isWord) (As := [vL 1852798053]) (st := []) (pc' := 42) dX11_statement_39 rfl gX11_isWord wm_1487 rfl rfl (by decide) kd_140 wm_1489 wp_77 rfl (Nat.le_of_ble_eq_true rfl) (M0.mono h (fun v τ5 h => ?_))
      obtain ⟨b6, rfl, h⟩ := h
      show V0 E (d + 1) qX11_statement 42 [some (vR 140)] [vB b6] τ5 Q
      refine u_if_eq (tgt := 53) (pc' := 45) dX11_statement_42 rfl (by decide) (bI_R _) (fun hb => ?_) (fun hb => ?_)
      · have h := h.1 (bI_0.mp hb)
        refine u_aload_n (i := 0) (pc' := 54) dX11_statement_53 rfl rfl rfl ?_
        refine u_ldc2 (z := 1801810036) (pc' := 57) dX11_statement_54 rfl wm_1535 (by decide) ?_
        refine u_invV (q' := qX11_isWord) (As := [vL 1801810036]) (st := []) (pc' := 60) dX11_statement_57 rfl gX11_isWord wm_1487 rfl rfl (by decide) kd_140 wm_1489 wp_77 rfl (Nat.le_of_ble_eq_true rfl) (M0.mono h (fun v τ7 h => ?_))
        obtain ⟨b8, rfl, h⟩ := h
        show V0 E (d + 1) qX11_statement 60 [some (vR 140)] [vB b8] τ7 Q
        refine u_if_eq (tgt := 71) (pc' := 63) dX11_statement_60 rfl (by decide) (bI_R _) (fun hb => ?_) (fun hb => ?_)
        · have h := h.1 (bI_0.mp hb)
          refine u_aload_n (i := 0) (pc' := 72) dX11_statement_71 rfl rfl rfl ?_
          refine u_ldc2 (z := 1685024626) (pc' := 75) dX11_statement_72 rfl wm_1536 (by decide) ?_
          refine u_invV (q' := qX11_isWord) (As := [vL 1685024626]) (st := []) (pc' := 78) dX11_statement_75 rfl gX11_isWord wm_1487 rfl rfl (by decide) kd_140 wm_1489 wp_77 rfl (Nat.le_of_ble_eq_true rfl) (M0.mono h (fun v τ9 h => ?_))
          obtain ⟨b10, rfl, h⟩ := h
          show V0 E (d + 1) qX11_statement 78 [some (vR 140)] [vB b10] τ9 Q
          refine u_if_eq (tgt := 88) (pc' := 81) dX11_statement_78 rfl (by decide) (bI_R _) (fun hb => ?_) (fun hb => ?_)
          · have h := h.1 (bI_0.mp hb)
            refine u_aload_n (i := 0) (pc' := 89) dX11_statement_88 rfl rfl rfl ?_
            refine u_ldc2 (z := 123581014175598) (pc' := 92) dX11_statement_89 rfl wm_1542 (by decide) ?_
            refine u_invV (q' := qX11_isWord) (As := [vL 123581014175598]) (st := []) (pc' := 95) dX11_statement_92 rfl gX11_isWord wm_1487 rfl rfl (by decide) kd_140 wm_1489 wp_77 rfl (Nat.le_of_ble_eq_true rfl) (M0.mono h (fun v τ11 h => ?_))
            obtain ⟨b12, rfl, h⟩ := h
            show V0 E (d + 1) qX11_statement 95 [some (vR 140)] [vB b12] τ11 Q
            refine u_if_eq (tgt := 105) (pc' := 98) dX11_statement_95 rfl (by decide) (bI_R _) (fun hb => ?_) (fun hb => ?_)
            · have h := h.1 (bI_0.mp hb)
              refine u_aload_n (i := 0) (pc' := 106) dX11_statement_105 rfl rfl rfl ?_
              refine u_ldc2 (z := 512970880104) (pc' := 109) dX11_statement_106 rfl wm_1545 (by decide) ?_
              refine u_invV (q' := qX11_isWord) (As := [vL 512970880104]) (st := []) (pc' := 112) dX11_statement_109 rfl gX11_isWord wm_1487 rfl rfl (by decide) kd_140 wm_1489 wp_77 rfl (Nat.le_of_ble_eq_true rfl) (M0.mono h (fun v τ13 h => ?_))
              obtain ⟨b14, rfl, h⟩ := h
              show V0 E (d + 1) qX11_statement 112 [some (vR 140)] [vB b14] τ13 Q
              refine u_if_eq (tgt := 122) (pc' := 115) dX11_statement_112 rfl (by decide) (bI_R _) (fun hb => ?_) (fun hb => ?_)
              · have h := h.1 (bI_0.mp hb)
                refine u_aload_n (i := 0) (pc' := 123) dX11_statement_122 rfl rfl rfl ?_
                refine u_iconst (pc' := 124) dX11_statement_123 rfl ?_
                refine u_aload_n (i := 0) (pc' := 125) dX11_statement_124 rfl rfl rfl ?_
                refine u_getI (z := (τ13 140 4)) (pc' := 128) dX11_statement_125 rfl fl_TuneDoorModel_23 rfl (by decide) (by decide) kd_140 rfl (fun r15 => ?_)
                refine u_invV (q' := qX11_blame) (As := [vI 1, vI (τ13 140 4)]) (st := []) (pc' := 131) dX11_statement_128 rfl gX11_blame wm_1478 rfl rfl (by decide) kd_140 wm_1480 wp_75 rfl (Nat.le_of_ble_eq_true rfl) (M0.mono h (fun v τ16 h => ?_))
                obtain ⟨rfl, h⟩ := h
                show V0 E (d + 1) qX11_statement 131 [some (vR 140)] [] τ16 Q
                refine u_aload_n (i := 0) (pc' := 132) dX11_statement_131 rfl rfl rfl ?_
                refine u_getI (z := (τ16 140 8)) (pc' := 135) dX11_statement_132 rfl fl_TuneDoorModel_36 rfl (by decide) (by decide) kd_140 rfl (fun r17 => ?_)
                refine u_if_ne (tgt := 144) (pc' := 138) dX11_statement_135 rfl (by decide) r17 (fun hb => ?_) (fun hb => ?_)
                · have h := h.1 hb
                  exact u_ret dX11_statement_144 rfl h
                · have h := h.2 hb
                  refine u_aload_n (i := 0) (pc' := 139) dX11_statement_138 rfl rfl rfl ?_
                  refine u_bipush (pc' := 141) dX11_statement_139 rfl (by decide) ?_
                  refine u_invV (q' := qX11_must) (As := [vI 59]) (st := []) (pc' := 144) dX11_statement_141 rfl gX11_must wm_1503 rfl rfl (by decide) kd_140 wm_1505 wp_80 rfl (Nat.le_of_ble_eq_true rfl) (M0.mono h (fun v τ18 h => ?_))
                  obtain ⟨rfl, h⟩ := h
                  show V0 E (d + 1) qX11_statement 144 [some (vR 140)] [] τ18 Q
                  exact u_ret dX11_statement_144 rfl h
              · have h := h.2 (bI_n0.mp hb)
                refine u_aload_n (i := 0) (pc' := 116) dX11_statement_115 rfl rfl rfl ?_
                refine u_invV (q' := qX11_worths) (As := []) (st := []) (pc' := 119) dX11_statement_116 rfl gX11_worths wm_1624 rfl rfl (by decide) kd_140 wm_1626 wp_102 rfl (Nat.le_of_ble_eq_true rfl) (M0.mono h (fun v τ19 h => ?_))
                obtain ⟨rfl, h⟩ := h
                show V0 E (d + 1) qX11_statement 119 [some (vR 140)] [] τ19 Q
                refine u_goto (tgt := 131) dX11_statement_119 (by decide) ?_
                refine u_aload_n (i := 0) (pc' := 132) dX11_statement_131 rfl rfl rfl ?_
                refine u_getI (z := (τ19 140 8)) (pc' := 135) dX11_statement_132 rfl fl_TuneDoorModel_36 rfl (by decide) (by decide) kd_140 rfl (fun r20 => ?_)
                refine u_if_ne (tgt := 144) (pc' := 138) dX11_statement_135 rfl (by decide) r20 (fun hb => ?_) (fun hb => ?_)
                · have h := h.1 hb
                  exact u_ret dX11_statement_144 rfl h
                · have h := h.2 hb
                  refine u_aload_n (i := 0) (pc' := 139) dX11_statement_138 rfl rfl rfl ?_
                  refine u_bipush (pc' := 141) dX11_statement_139 rfl (by decide) ?_
                  refine u_invV (q' := qX11_must) (As := [vI 59]) (st := []) (pc' := 144) dX11_statement_141 rfl gX11_must wm_1503 rfl rfl (by decide) kd_140 wm_1505 wp_80 rfl (Nat.le_of_ble_eq_true rfl) (M0.mono h (fun v τ21 h => ?_))
                  obtain ⟨rfl, h⟩ := h
                  show V0 E (d + 1) qX11_statement 144 [some (vR 140)] [] τ21 Q
                  exact u_ret dX11_statement_144 rfl h
            · have h := h.2 (bI_n0.mp hb)
              refine u_aload_n (i := 0) (pc' := 99) dX11_statement_98 rfl rfl rfl ?_
              refine u_invV (q' := qX11_person) (As := []) (st := []) (pc' := 102) dX11_statement_99 rfl gX11_person wm_1616 rfl rfl (by decide) kd_140 wm_1618 wp_100 rfl (Nat.le_of_ble_eq_true rfl) (M0.mono h (fun v τ22 h => ?_))
              obtain ⟨rfl, h⟩ := h
              show V0 E (d + 1) qX11_statement 102 [some (vR 140)] [] τ22 Q
              refine u_goto (tgt := 131) dX11_statement_102 (by decide) ?_
              refine u_aload_n (i := 0) (pc' := 132) dX11_statement_131 rfl rfl rfl ?_
              refine u_getI (z := (τ22 140 8)) (pc' := 135) dX11_statement_132 rfl fl_TuneDoorModel_36 rfl (by decide) (by decide) kd_140 rfl (fun r23 => ?_)
              refine u_if_ne (tgt := 144) (pc' := 138) dX11_statement_135 rfl (by decide) r23 (fun hb => ?_) (fun hb => ?_)
              · have h := h.1 hb
                exact u_ret dX11_statement_144 rfl h
              · have h := h.2 hb
                refine u_aload_n (i := 0) (pc' := 139) dX11_statement_138 rfl rfl rfl ?_
                refine u_bipush (pc' := 141) dX11_statement_139 rfl (by decide) ?_
                refine u_invV (q' := qX11_must) (As := [vI 59]) (st := []) (pc' := 144) dX11_statement_141 rfl gX11_must wm_1503 rfl rfl (by decide) kd_140 wm_1505 wp_80 rfl (Nat.le_of_ble_eq_true rfl) (M0.mono h (fun v τ24 h => ?_))
                obtain ⟨rfl, h⟩ := h
                show V0 E (d + 1) qX11_statement 144 [some (vR 140)] [] τ24 Q
                exact u_ret dX11_statement_144 rfl h
          · have h := h.2 (bI_n0.mp hb)
            refine u_aload_n (i := 0) (pc' := 82) dX11_statement_81 rfl rfl rfl ?_
            refine u_invV (q' := qX11_door) (As := []) (st := []) (pc' := 85) dX11_statement_82 rfl gX11_door wm_1608 rfl rfl (by decide) kd_140 wm_1610 wp_98 rfl (Nat.le_of_ble_eq_true rfl) (M0.mono h (fun v τ25 h => ?_))
            obtain ⟨rfl, h⟩ := h
            show V0 E (d + 1) qX11_statement 85 [some (vR 140)] [] τ25 Q
            refine u_goto (tgt := 131) dX11_statement_85 (by decide) ?_
            refine u_aload_n (i := 0) (pc' := 132) dX11_statement_131 rfl rfl rfl ?_
            refine u_getI (z := (τ25 140 8)) (pc' := 135) dX11_statement_132 rfl fl_TuneDoorModel_36 rfl (by decide) (by decide) kd_140 rfl (fun r26 => ?_)
            refine u_if_ne (tgt := 144) (pc' := 138) dX11_statement_135 rfl (by decide) r26 (fun hb => ?_) (fun hb => ?_)
            · have h := h.1 hb
              exact u_ret dX11_statement_144 rfl h
            · have h := h.2 hb
              refine u_aload_n (i := 0) (pc' := 139) dX11_statement_138 rfl rfl rfl ?_
              refine u_bipush (pc' := 141) dX11_statement_139 rfl (by decide) ?_
              refine u_invV (q' := qX11_must) (As := [vI 59]) (st := []) (pc' := 144) dX11_statement_141 rfl gX11_must wm_1503 rfl rfl (by decide) kd_140 wm_1505 wp_80 rfl (Nat.le_of_ble_eq_true rfl) (M0.mono h (fun v τ27 h => ?_))
              obtain ⟨rfl, h⟩ := h
              show V0 E (d + 1) qX11_statement 144 [some (vR 140)] [] τ27 Q
              exact u_ret dX11_statement_144 rfl h
        · have h := h.2 (bI_n0.mp hb)
          refine u_aload_n (i := 0) (pc' := 64) dX11_statement_63 rfl rfl rfl ?_
          refine u_iconst (pc' := 65) dX11_statement_64 rfl ?_
          refine u_invV (q' := qX11_rule) (As := [vI 2]) (st := []) (pc' := 68) dX11_statement_65 rfl gX11_rule wm_1566 rfl rfl (by decide) kd_140 wm_1568 wp_89 rfl (Nat.le_of_ble_eq_true rfl) (M0.mono h (fun v τ28 h => ?_))
          obtain ⟨rfl, h⟩ := h
          show V0 E (d + 1) qX11_statement 68 [some (vR 140)] [] τ28 Q
          refine u_goto (tgt := 131) dX11_statement_68 (by decide) ?_
          refine u_aload_n (i := 0) (pc' := 132) dX11_statement_131 rfl rfl rfl ?_
          refine u_getI (z := (τ28 140 8)) (pc' := 135) dX11_statement_132 rfl fl_TuneDoorModel_36 rfl (by decide) (by decide) kd_140 rfl (fun r29 => ?_)
          refine u_if_ne (tgt := 144) (pc' := 138) dX11_statement_135 rfl (by decide) r29 (fun hb => ?_) (fun hb => ?_)
          · have h := h.1 hb
            exact u_ret dX11_statement_144 rfl h
          · have h := h.2 hb
            refine u_aload_n (i := 0) (pc' := 139) dX11_statement_138 rfl rfl rfl ?_
            refine u_bipush (pc' := 141) dX11_statement_139 rfl (by decide) ?_
            refine u_invV (q' := qX11_must) (As := [vI 59]) (st := []) (pc' := 144) dX11_statement_141 rfl gX11_must wm_1503 rfl rfl (by decide) kd_140 wm_1505 wp_80 rfl (Nat.le_of_ble_eq_true rfl) (M0.mono h (fun v τ30 h => ?_))
            obtain ⟨rfl, h⟩ := h
            show V0 E (d + 1) qX11_statement 144 [some (vR 140)] [] τ30 Q
            exact u_ret dX11_statement_144 rfl h
      · have h := h.2 (bI_n0.mp hb)
        refine u_aload_n (i := 0) (pc' := 46) dX11_statement_45 rfl rfl rfl ?_
        refine u_iconst (pc' := 47) dX11_statement_46 rfl ?_
        refine u_invV (q' := qX11_rule) (As := [vI 1]) (st := []) (pc' := 50) dX11_statement_47 rfl gX11_rule wm_1566 rfl rfl (by decide) kd_140 wm_1568 wp_89 rfl (Nat.le_of_ble_eq_true rfl) (M0.mono h (fun v τ31 h => ?_))
        obtain ⟨rfl, h⟩ := h
        show V0 E (d + 1) qX11_statement 50 [some (vR 140)] [] τ31 Q
        refine u_goto (tgt := 131) dX11_statement_50 (by decide) ?_
        refine u_aload_n (i := 0) (pc' := 132) dX11_statement_131 rfl rfl rfl ?_
        refine u_getI (z := (τ31 140 8)) (pc' := 135) dX11_statement_132 rfl fl_TuneDoorModel_36 rfl (by decide) (by decide) kd_140 rfl (fun r32 => ?_)
        refine u_if_ne (tgt := 144) (pc' := 138) dX11_statement_135 rfl (by decide) r32 (fun hb => ?_) (fun hb => ?_)
        · have h := h.1 hb
          exact u_ret dX11_statement_144 rfl h
        · have h := h.2 hb
          refine u_aload_n (i := 0) (pc' := 139) dX11_statement_138 rfl rfl rfl ?_
          refine u_bipush (pc' := 141) dX11_statement_139 rfl (by decide) ?_
          refine u_invV (q' := qX11_must) (As := [vI 59]) (st := []) (pc' := 144) dX11_statement_141 rfl gX11_must wm_1503 rfl rfl (by decide) kd_140 wm_1505 wp_80 rfl (Nat.le_of_ble_eq_true rfl) (M0.mono h (fun v τ33 h => ?_))
          obtain ⟨rfl, h⟩ := h
          show V0 E (d + 1) qX11_statement 144 [some (vR 140)] [] τ33 Q
          exact u_ret dX11_statement_144 rfl h
    · have h := h.2 (bI_n0.mp hb)
      refine u_aload_n (i := 0) (pc' := 28) dX11_statement_27 rfl rfl rfl ?_
      refine u_iconst (pc' := 29) dX11_statement_28 rfl ?_
      refine u_invV (q' := qX11_rule) (As := [vI 0]) (st := []) (pc' := 32) dX11_statement_29 rfl gX11_rule wm_1566 rfl rfl (by decide) kd_140 wm_1568 wp_89 rfl (Nat.le_of_ble_eq_true rfl) (M0.mono h (fun v τ34 h => ?_))
      obtain ⟨rfl, h⟩ := h
      show V0 E (d + 1) qX11_statement 32 [some (vR 140)] [] τ34 Q
      refine u_goto (tgt := 131) dX11_statement_32 (by decide) ?_
      refine u_aload_n (i := 0) (pc' := 132) dX11_statement_131 rfl rfl rfl ?_
      refine u_getI (z := (τ34 140 8)) (pc' := 135) dX11_statement_132 rfl fl_TuneDoorModel_36 rfl (by decide) (by decide) kd_140 rfl (fun r35 => ?_)
      refine u_if_ne (tgt := 144) (pc' := 138) dX11_statement_135 rfl (by decide) r35 (fun hb => ?_) (fun hb => ?_)
      · have h := h.1 hb
        exact u_ret dX11_statement_144 rfl h
      · have h := h.2 hb
        refine u_aload_n (i := 0) (pc' := 139) dX11_statement_138 rfl rfl rfl ?_
        refine u_bipush (pc' := 141) dX11_statement_139 rfl (by decide) ?_
        refine u_invV (q' := qX11_must) (As := [vI 59]) (st := []) (pc' := 144) dX11_statement_141 rfl gX11_must wm_1503 rfl rfl (by decide) kd_140 wm_1505 wp_80 rfl (Nat.le_of_ble_eq_true rfl) (M0.mono h (fun v τ36 h => ?_))
        obtain ⟨rfl, h⟩ := h
        show V0 E (d + 1) qX11_statement 144 [some (vR 140)] [] τ36 Q
        exact u_ret dX11_statement_144 rfl h
  · have h := h.2 (bI_n0.mp hb)
    refine u_aload_n (i := 0) (pc' := 11) dX11_statement_10 rfl rfl rfl ?_
    refine u_invV (q' := qX11_tune) (As := []) (st := []) (pc' := 14) dX11_statement_11 rfl gX11_tune wm_1516 rfl rfl (by decide) kd_140 wm_1518 wp_83 rfl (Nat.le_of_ble_eq_true rfl) (M0.mono h (fun v τ37 h => ?_))
    obtain ⟨rfl, h⟩ := h
    show V0 E (d + 1) qX11_statement 14 [some (vR 140)] [] τ37 Q
    refine u_goto (tgt := 131) dX11_statement_14 (by decide) ?_
    refine u_aload_n (i := 0) (pc' := 132) dX11_statement_131 rfl rfl rfl ?_
    refine u_getI (z := (τ37 140 8)) (pc' := 135) dX11_statement_132 rfl fl_TuneDoorModel_36 rfl (by decide) (by decide) kd_140 rfl (fun r38 => ?_)
    refine u_if_ne (tgt := 144) (pc' := 138) dX11_statement_135 rfl (by decide) r38 (fun hb => ?_) (fun hb => ?_)
    · have h := h.1 hb
      exact u_ret dX11_statement_144 rfl h
    · have h := h.2 hb
      refine u_aload_n (i := 0) (pc' := 139) dX11_statement_138 rfl rfl rfl ?_
      refine u_bipush (pc' := 141) dX11_statement_139 rfl (by decide) ?_
      refine u_invV (q' := qX11_must) (As := [vI 59]) (st := []) (pc' := 144) dX11_statement_141 rfl gX11_must wm_1503 rfl rfl (by decide) kd_140 wm_1505 wp_80 rfl (Nat.le_of_ble_eq_true rfl) (M0.mono h (fun v τ39 h => ?_))
      obtain ⟨rfl, h⟩ := h
      show V0 E (d + 1) qX11_statement 144 [some (vR 140)] [] τ39 Q
      exact u_ret dX11_statement_144 rfl h
theorem mX11_statement {E : mm_Env} {d : Nat} {τ : mm_Mem} {Q : mm_Q0}  (h : M0 E d qX11_isWord [vR 140, vL 1953853029] τ (fun v τ1 => ∃ b2 : Bool, v = some (vB b2) ∧ ((b2 = false → M0 E d qX11_isWord [vR 140, vL 482854658917] τ1 (fun v τ3 => ∃ b4 : Bool, v = some (vB b4) ∧ ((b4 = false → M0 E d qX11_isWord [vR 140, vL 1852798053] τ3 (fun v τ5 => ∃ b6 : Bool, v = some (vB b6) ∧ ((b6 = false → M0 E d qX11_isWord [vR 140, vL 1801810036] τ5 (fun v τ7 => ∃ b8 : Bool, v = some (vB b8) ∧ ((b8 = false → M0 E d qX11_isWord [vR 140, vL 1685024626] τ7 (fun v τ9 => ∃ b10 : Bool, v = some (vB b10) ∧ ((b10 = false → M0 E d qX11_isWord [vR 140, vL 123581014175598] τ9 (fun v τ11 => ∃ b12 : Bool, v = some (vB b12) ∧ ((b12 = false → M0 E d qX11_isWord [vR 140, vL 512970880104] τ11 (fun v τ13 => ∃ b14 : Bool, v = some (vB b14) ∧ ((b14 = false → M0 E d qX11_blame [vR 140, vI 1, vI (τ13 140 4)] τ13 (fun v τ16 => v = none ∧ (((τ16 140 8) ≠ 0 → Q none τ16) ∧ ((τ16 140 8) = 0 → M0 E d qX11_must [vR 140, vI 59] τ16 (fun v τ18 => v = none ∧ Q none τ18))))) ∧ (b14 = true → M0 E d qX11_worths [vR 140] τ13 (fun v τ19 => v = none ∧ (((τ19 140 8) ≠ 0 → Q none τ19) ∧ ((τ19 140 8) = 0 → M0 E d qX11_must [vR 140, vI 59] τ19 (fun v τ21 => v = none ∧ Q none τ21)))))))) ∧ (b12 = true → M0 E d qX11_person [vR 140] τ11 (fun v τ22 => v = none ∧ (((τ22 140 8) ≠ 0 → Q none τ22) ∧ ((τ22 140 8) = 0 → M0 E d qX11_must [vR 140, vI 59] τ22 (fun v τ24 => v = none ∧ Q none τ24)))))))) ∧ (b10 = true → M0 E d qX11_door [vR 140] τ9 (fun v τ25 => v = none ∧ (((τ25 140 8) ≠ 0 → Q none τ25) ∧ ((τ25 140 8) = 0 → M0 E d qX11_must [vR 140, vI 59] τ25 (fun v τ27 => v = none ∧ Q none τ27)))))))) ∧ (b8 = true → M0 E d qX11_rule [vR 140, vI 2] τ7 (fun v τ28 => v = none ∧ (((τ28 140 8) ≠ 0 → Q none τ28) ∧ ((τ28 140 8) = 0 → M0 E d qX11_must [vR 140, vI 59] τ28 (fun v τ30 => v = none ∧ Q none τ30)))))))) ∧ (b6 = true → M0 E d qX11_rule [vR 140, vI 1] τ5 (fun v τ31 => v = none ∧ (((τ31 140 8) ≠ 0 → Q none τ31) ∧ ((τ31 140 8) = 0 → M0 E d qX11_must [vR 140, vI 59] τ31 (fun v τ33 => v = none ∧ Q none τ33)))))))) ∧ (b4 = true → M0 E d qX11_rule [vR 140, vI 0] τ3 (fun v τ34 => v = none ∧ (((τ34 140 8) ≠ 0 → Q none τ34) ∧ ((τ34 140 8) = 0 → M0 E d qX11_must [vR 140, vI 59] τ34 (fun v τ36 => v = none ∧ Q none τ36)))))))) ∧ (b2 = true → M0 E d qX11_tune [vR 140] τ1 (fun v τ37 => v = none ∧ (((τ37 140 8) ≠ 0 → Q none τ37) ∧ ((τ37 140 8) = 0 → M0 E d qX11_must [vR 140, vI 59] τ37 (fun v τ39 => v = none ∧ Q none τ39)))))))) : M0 E (d + 1) qX11_statement [vR 140] τ Q := M0_of rfl (Nat.le_of_ble_eq_true rfl) [some (vR 140)] rfl (bX11_statement_0  h)
set_option maxRecDepth 20000 in
theorem bX11_tune_0 {E : mm_Env} {d : Nat} {τ : mm_Mem} {Q : mm_Q0}  (h : 0 ≤ (τ 140 39) ∧ (τ 140 39) < 2 ∧ (((τ 144 (τ 140 39).toNat) ≠ 3 → M0 E d qX11_counts [vR 140, vB false] τ (fun v τ5 => ∃ b6 : Bool, v = some (vB b6) ∧ ((b6 = true → 0 ≤ (τ5 140 39) ∧ (τ5 140 39) < 2 ∧ M0 E d qX11_fresh [vR 140] τ5 (fun v τ12 => ∃ r13 : Int, v = some (vL r13) ∧ 0 ≤ ((3 * (τ5 140 39)) + (τ5 144 (τ5 140 39).toNat)) ∧ ((3 * (τ5 140 39)) + (τ5 144 (τ5 140 39).toNat)) < 6 ∧ V0 E (d + 1) qX11_tune 55 [some (vR 140), some (vI ((3 * (τ5 140 39)) + (τ5 144 (τ5 140 39).toNat))), some (vI 0)] [] (wr τ12 145 ((3 * (τ5 140 39)) + (τ5 144 (τ5 140 39).toNat)).toNat r13) Q)) ∧ (b6 = false → Q none τ5)))) ∧ ((τ 144 (τ 140 39).toNat) = 3 → M0 E d qX11_counts [vR 140, vB true] τ (fun v τ16 => ∃ b17 : Bool, v = some (vB b17) ∧ ((b17 = true → 0 ≤ (τ16 140 39) ∧ (τ16 140 39) < 2 ∧ M0 E d qX11_fresh [vR 140] τ16 (fun v τ23 => ∃ r24 : Int, v = some (vL r24) ∧ 0 ≤ ((3 * (τ16 140 39)) + (τ16 144 (τ16 140 39).toNat)) ∧ ((3 * (τ16 140 39)) + (τ16 144 (τ16 140 39).toNat)) < 6 ∧ V0 E (d + 1) qX11_tune 55 [some (vR 140), some (vI ((3 * (τ16 140 39)) + (τ16 144 (τ16 140 39).toNat))), some (vI 0)] [] (wr τ23 145 ((3 * (τ16 140 39)) + (τ16 144 (τ16 140 39).toNat)).toNat r24) Q)) ∧ (b17 = false → Q none τ16)))))) : V0 E (d + 1) qX11_tune 0 [some (vR 140), none, none] [] τ Q := by
  refine u_aload_n (i := 0) (pc' := 1) dX11_tune_0 rfl rfl rfl ?_
  refine u_aload_n (i := 0) (pc' := 2) dX11_tune_1 rfl rfl rfl ?_
  refine u_getR (a := 144) (pc' := 5) dX11_tune_2 rfl fl_TuneDoorModel_57 rfl (by decide) kd_140 rfl ?_
  refine u_aload_n (i := 0) (pc' := 6) dX11_tune_5 rfl rfl rfl ?_
  refine u_getI (z := (τ 140 39)) (pc' := 9) dX11_tune_6 rfl fl_TuneDoorModel_130 rfl (by decide) (by decide) kd_140 rfl (fun r1 => ?_)
  obtain ⟨c2, c3, h⟩ := h
  refine u_iaload (k := (τ 140 39).toNat) (z := (τ 144 (τ 140 39).toNat)) (pc' := 10) dX11_tune_9 rfl (by decide) kd_144 c2 c3 (by decide) rfl rfl (fun r4 => ?_)
  refine u_iconst (pc' := 11) dX11_tune_10 rfl ?_
  refine u_icmp_ne (tgt := 18) (pc' := 14) dX11_tune_11 rfl (by decide) r4 ⟨by decide, by decide⟩ (fun hb => ?_) (fun hb => ?_)
  · have h := h.1 hb
    refine u_iconst (pc' := 19) dX11_tune_18 rfl ?_
    refine u_invV (q' := qX11_counts) (As := [vB false]) (st := []) (pc' := 22) dX11_tune_19 rfl gX11_counts wm_1520 rfl rfl (by decide) kd_140 wm_1522 wp_84 rfl (Nat.le_of_ble_eq_true rfl) (M0.mono h (fun v τ5 h => ?_))
    obtain ⟨b6, rfl, h⟩ := h
    show V0 E (d + 1) qX11_tune 22 [some (vR 140), none, none] [vB b6] τ5 Q
    refine u_if_ne (tgt := 26) (pc' := 25) dX11_tune_22 rfl (by decide) (bI_R _) (fun hb => ?_) (fun hb => ?_)
    · have h := h.1 (bI_n0.mp hb)
      refine u_iconst (pc' := 27) dX11_tune_26 rfl ?_
      refine u_aload_n (i := 0) (pc' := 28) dX11_tune_27 rfl rfl rfl ?_
      refine u_getI (z := (τ5 140 39)) (pc' := 31) dX11_tune_28 rfl fl_TuneDoorModel_130 rfl (by decide) (by decide) kd_140 rfl (fun r7 => ?_)
      refine u_imul (pc' := 32) dX11_tune_31 rfl ?_
      refine u_aload_n (i := 0) (pc' := 33) dX11_tune_32 rfl rfl rfl ?_
      refine u_getR (a := 144) (pc' := 36) dX11_tune_33 rfl fl_TuneDoorModel_57 rfl (by decide) kd_140 rfl ?_
      refine u_aload_n (i := 0) (pc' := 37) dX11_tune_36 rfl rfl rfl ?_
      refine u_getI (z := (τ5 140 39)) (pc' := 40) dX11_tune_37 rfl fl_TuneDoorModel_130 rfl (by decide) (by decide) kd_140 rfl (fun r8 => ?_)
      obtain ⟨c9, c10, h⟩ := h
      refine u_iaload (k := (τ5 140 39).toNat) (z := (τ5 144 (τ5 140 39).toNat)) (pc' := 41) dX11_tune_40 rfl (by decide) kd_144 c9 c10 (by decide) rfl rfl (fun r11 => ?_)
      refine u_iadd (pc' := 42) dX11_tune_41 rfl ?_
      refine s_istore_n (i := 1) (ls' := [some (vR 140), some (vI ((3 * (τ5 140 39)) + (τ5 144 (τ5 140 39).toNat))), none]) (pc' := 43) dX11_tune_42 rfl rfl (Nat.le_of_ble_eq_true rfl) rfl rfl ?_
      refine u_aload_n (i := 0) (pc' := 44) dX11_tune_43 rfl rfl rfl ?_
      refine u_getR (a := 145) (pc' := 47) dX11_tune_44 rfl fl_TuneDoorModel_60 rfl (by decide) kd_140 rfl ?_
      refine u_iload_n (i := 1) (pc' := 48) dX11_tune_47 rfl rfl rfl ?_
      refine u_aload_n (i := 0) (pc' := 49) dX11_tune_48 rfl rfl rfl ?_
      refine u_invV (q' := qX11_fresh) (As := []) (st := [vI ((3 * (τ5 140 39)) + (τ5 144 (τ5 140 39).toNat)), vR 145]) (pc' := 52) dX11_tune_49 rfl gX11_fresh wm_1524 rfl rfl (by decide) kd_140 wm_1526 wp_85 rfl (Nat.le_of_ble_eq_true rfl) (M0.mono h (fun v τ12 h => ?_))
      obtain ⟨r13, rfl, h⟩ := h
      show V0 E (d + 1) qX11_tune 52 [some (vR 140), some (vI ((3 * (τ5 140 39)) + (τ5 144 (τ5 140 39).toNat))), none] [vL r13, vI ((3 * (τ5 140 39)) + (τ5 144 (τ5 140 39).toNat)), vR 145] τ12 Q
      obtain ⟨c14, c15, h⟩ := h
      refine u_lastore (k := ((3 * (τ5 140 39)) + (τ5 144 (τ5 140 39).toNat)).toNat) (pc' := 53) dX11_tune_52 rfl (by decide) kd_145 c14 c15 (by decide) rfl (mm_R0_La kd_145) ?_
      refine u_iconst (pc' := 54) dX11_tune_53 rfl ?_
      refine s_istore_n (i := 2) (ls' := [some (vR 140), some (vI ((3 * (τ5 140 39)) + (τ5 144 (τ5 140 39).toNat))), some (vI 0)]) (pc' := 55) dX11_tune_54 rfl rfl (Nat.le_of_ble_eq_true rfl) rfl rfl ?_
      exact u_less (ls' := [some (vR 140), some (vI ((3 * (τ5 140 39)) + (τ5 144 (τ5 140 39).toNat))), some (vI 0)]) ⟨rfl, ⟨rfl, ⟨rfl, trivial⟩⟩⟩ h
    · have h := h.2 (bI_0.mp hb)
      exact u_ret dX11_tune_25 rfl h
  · have h := h.2 hb
    refine u_iconst (pc' := 15) dX11_tune_14 rfl ?_
    refine u_goto (tgt := 19) dX11_tune_15 (by decide) ?_
    refine u_invV (q' := qX11_counts) (As := [vB true]) (st := []) (pc' := 22) dX11_tune_19 rfl gX11_counts wm_1520 rfl rfl (by decide) kd_140 wm_1522 wp_84 rfl (Nat.le_of_ble_eq_true rfl) (M0.mono h (fun v τ16 h => ?_))
    obtain ⟨b17, rfl, h⟩ := h
    show V0 E (d + 1) qX11_tune 22 [some (vR 140), none, none] [vB b17] τ16 Q
    refine u_if_ne (tgt := 26) (pc' := 25) dX11_tune_22 rfl (by decide) (bI_R _) (fun hb => ?_) (fun hb => ?_)
    · have h := h.1 (bI_n0.mp hb)
      refine u_iconst (pc' := 27) dX11_tune_26 rfl ?_
      refine u_aload_n (i := 0) (pc' := 28) dX11_tune_27 rfl rfl rfl ?_
      refine u_getI (z := (τ16 140 39)) (pc' := 31) dX11_tune_28 rfl fl_TuneDoorModel_130 rfl (by decide) (by decide) kd_140 rfl (fun r18 => ?_)
      refine u_imul (pc' := 32) dX11_tune_31 rfl ?_
      refine u_aload_n (i := 0) (pc' := 33) dX11_tune_32 rfl rfl rfl ?_
      refine u_getR (a := 144) (pc' := 36) dX11_tune_33 rfl fl_TuneDoorModel_57 rfl (by decide) kd_140 rfl ?_
      refine u_aload_n (i := 0) (pc' := 37) dX11_tune_36 rfl rfl rfl ?_
      refine u_getI (z := (τ16 140 39)) (pc' := 40) dX11_tune_37 rfl fl_TuneDoorModel_130 rfl (by decide) (by decide) kd_140 rfl (fun r19 => ?_)
      obtain ⟨c20, c21, h⟩ := h
      refine u_iaload (k := (τ16 140 39).toNat) (z := (τ16 144 (τ16 140 39).toNat)) (pc' := 41) dX11_tune_40 rfl (by decide) kd_144 c20 c21 (by decide) rfl rfl (fun r22 => ?_)
      refine u_iadd (pc' := 42) dX11_tune_41 rfl ?_
      refine s_istore_n (i := 1) (ls' := [some (vR 140), some (vI ((3 * (τ16 140 39)) + (τ16 144 (τ16 140 39).toNat))), none]) (pc' := 43) dX11_tune_42 rfl rfl (Nat.le_of_ble_eq_true rfl) rfl rfl ?_
      refine u_aload_n (i := 0) (pc' := 44) dX11_tune_43 rfl rfl rfl ?_
      refine u_getR (a := 145) (pc' := 47) dX11_tune_44 rfl fl_TuneDoorModel_60 rfl (by decide) kd_140 rfl ?_
      refine u_iload_n (i := 1) (pc' := 48) dX11_tune_47 rfl rfl rfl ?_
      refine u_aload_n (i := 0) (pc' := 49) dX11_tune_48 rfl rfl rfl ?_
      refine u_invV (q' := qX11_fresh) (As := []) (st := [vI ((3 * (τ16 140 39)) + (τ16 144 (τ16 140 39).toNat)), vR 145]) (pc' := 52) dX11_tune_49 rfl gX11_fresh wm_1524 rfl rfl (by decide) kd_140 wm_1526 wp_85 rfl (Nat.le_of_ble_eq_true rfl) (M0.mono h (fun v τ23 h => ?_))
      obtain ⟨r24, rfl, h⟩ := h
      show V0 E (d + 1) qX11_tune 52 [some (vR 140), some (vI ((3 * (τ16 140 39)) + (τ16 144 (τ16 140 39).toNat))), none] [vL r24, vI ((3 * (τ16 140 39)) + (τ16 144 (τ16 140 39).toNat)), vR 145] τ23 Q
      obtain ⟨c25, c26, h⟩ := h
      refine u_lastore (k := ((3 * (τ16 140 39)) + (τ16 144 (τ16 140 39).toNat)).toNat) (pc' := 53) dX11_tune_52 rfl (by decide) kd_145 c25 c26 (by decide) rfl (mm_R0_La kd_145) ?_
      refine u_iconst (pc' := 54) dX11_tune_53 rfl ?_
      refine s_istore_n (i := 2) (ls' := [some (vR 140), some (vI ((3 * (τ16 140 39)) + (τ16 144 (τ16 140 39).toNat))), some (vI 0)]) (pc' := 55) dX11_tune_54 rfl rfl (Nat.le_of_ble_eq_true rfl) rfl rfl ?_
      exact u_less (ls' := [some (vR 140), some (vI ((3 * (τ16 140 39)) + (τ16 144 (τ16 140 39).toNat))), some (vI 0)]) ⟨rfl, ⟨rfl, ⟨rfl, trivial⟩⟩⟩ h
    · have h := h.2 (bI_0.mp hb)
      exact u_ret dX11_tune_25 rfl h
theorem mX11_tune {E : mm_Env} {d : Nat} {τ : mm_Mem} {Q : mm_Q0}  (h : 0 ≤ (τ 140 39) ∧ (τ 140 39) < 2 ∧ (((τ 144 (τ 140 39).toNat) ≠ 3 → M0 E d qX11_counts [vR 140, vB false] τ (fun v τ5 => ∃ b6 : Bool, v = some (vB b6) ∧ ((b6 = true → 0 ≤ (τ5 140 39) ∧ (τ5 140 39) < 2 ∧ M0 E d qX11_fresh [vR 140] τ5 (fun v τ12 => ∃ r13 : Int, v = some (vL r13) ∧ 0 ≤ ((3 * (τ5 140 39)) + (τ5 144 (τ5 140 39).toNat)) ∧ ((3 * (τ5 140 39)) + (τ5 144 (τ5 140 39).toNat)) < 6 ∧ V0 E (d + 1) qX11_tune 55 [some (vR 140), some (vI ((3 * (τ5 140 39)) + (τ5 144 (τ5 140 39).toNat))), some (vI 0)] [] (wr τ12 145 ((3 * (τ5 140 39)) + (τ5 144 (τ5 140 39).toNat)).toNat r13) Q)) ∧ (b6 = false → Q none τ5)))) ∧ ((τ 144 (τ 140 39).toNat) = 3 → M0 E d qX11_counts [vR 140, vB true] τ (fun v τ16 => ∃ b17 : Bool, v = some (vB b17) ∧ ((b17 = true → 0 ≤ (τ16 140 39) ∧ (τ16 140 39) < 2 ∧ M0 E d qX11_fresh [vR 140] τ16 (fun v τ23 => ∃ r24 : Int, v = some (vL r24) ∧ 0 ≤ ((3 * (τ16 140 39)) + (τ16 144 (τ16 140 39).toNat)) ∧ ((3 * (τ16 140 39)) + (τ16 144 (τ16 140 39).toNat)) < 6 ∧ V0 E (d + 1) qX11_tune 55 [some (vR 140), some (vI ((3 * (τ16 140 39)) + (τ16 144 (τ16 140 39).toNat))), some (vI 0)] [] (wr τ23 145 ((3 * (τ16 140 39)) + (τ16 144 (τ16 140 39).toNat)).toNat r24) Q)) ∧ (b17 = false → Q none τ16)))))) : M0 E (d + 1) qX11_tune [vR 140] τ Q := M0_of rfl (Nat.le_of_ble_eq_true rfl) [some (vR 140), none, none] rfl (bX11_tune_0  h)
set_option maxRecDepth 20000 in
theorem bX11_tune_55 {E : mm_Env} {d : Nat} {τ : mm_Mem} {Q : mm_Q0} {x1 : Int} {x2 : Int} (h : 0 ≤ (τ 140 39) ∧ (τ 140 39) < 2 ∧ inR x2 ∧ (((τ 143 (τ 140 39).toNat) ≤ x2 → M0 E d qX11_must_ [vR 140, vL 1801807216] τ (fun v τ6 => v = none ∧ M0 E d qX11_number [vR 140, vI 0, vI 99] τ6 (fun v τ7 => ∃ r8 : Int, v = some (vI r8) ∧ 0 ≤ x1 ∧ x1 < 6 ∧ inR r8 ∧ (((τ7 140 8) ≠ 0 → Q none (wr τ7 147 x1.toNat r8)) ∧ ((τ7 140 8) = 0 → 0 ≤ (τ7 140 39) ∧ (τ7 140 39) < 2 ∧ 0 ≤ (τ7 140 39) ∧ (τ7 140 39) < 2 ∧ inR ((τ7 144 (τ7 140 39).toNat) + 1) ∧ Q none (wr (wr τ7 147 x1.toNat r8) 144 (τ7 140 39).toNat ((τ7 144 (τ7 140 39).toNat) + 1))))))) ∧ (¬ (τ 143 (τ 140 39).toNat) ≤ x2 → 0 ≤ (τ 140 39) ∧ (τ 140 39) < 2 ∧ M0 E d qX11_number [vR 140, vI 0, vI ((τ 142 (τ 140 39).toNat) - 1)] τ (fun v τ24 => ∃ r25 : Int, v = some (vI r25) ∧ 0 ≤ ((5 * x1) + x2) ∧ ((5 * x1) + x2) < 30 ∧ inR r25 ∧ V0 E (d + 1) qX11_tune 55 [some (vR 140), some (vI x1), some (vI (x2 + 1))] [] (wr τ24 146 ((5 * x1) + x2).toNat r25) Q)))) : V0 E (d + 1) qX11_tune 55 [some (vR 140), some (vI x1), some (vI x2)] [] τ Q := by
  refine u_iload_n (i := 2) (pc' := 56) dX11_tune_55 rfl rfl rfl ?_
  refine u_aload_n (i := 0) (pc' := 57) dX11_tune_56 rfl rfl rfl ?_
  refine u_getR (a := 143) (pc' := 60) dX11_tune_57 rfl fl_TuneDoorModel_54 rfl (by decide) kd_140 rfl ?_
  refine u_aload_n (i := 0) (pc' := 61) dX11_tune_60 rfl rfl rfl ?_
  refine u_getI (z := (τ 140 39)) (pc' := 64) dX11_tune_61 rfl fl_TuneDoorModel_130 rfl (by decide) (by decide) kd_140 rfl (fun r1 => ?_)
  obtain ⟨c2, c3, h⟩ := h
  refine u_iaload (k := (τ 140 39).toNat) (z := (τ 143 (τ 140 39).toNat)) (pc' := 65) dX11_tune_64 rfl (by decide) kd_143 c2 c3 (by decide) rfl rfl (fun r4 => ?_)
  obtain ⟨c5, h⟩ := h
  refine u_icmp_ge (tgt := 100) (pc' := 68) dX11_tune_65 rfl (by decide) c5 r4 (fun hb => ?_) (fun hb => ?_)
  · have h := h.1 hb
    refine u_aload_n (i := 0) (pc' := 101) dX11_tune_100 rfl rfl rfl ?_
    refine u_ldc2 (z := 1801807216) (pc' := 104) dX11_tune_101 rfl wm_1532 (by decide) ?_
    refine u_invV (q' := qX11_must_) (As := [vL 1801807216]) (st := []) (pc' := 107) dX11_tune_104 rfl gX11_must_ wm_1499 rfl rfl (by decide) kd_140 wm_1501 wp_79 rfl (Nat.le_of_ble_eq_true rfl) (M0.mono h (fun v τ6 h => ?_))
    obtain ⟨rfl, h⟩ := h
    show V0 E (d + 1) qX11_tune 107 [some (vR 140), some (vI x1), some (vI x2)] [] τ6 Q
    refine u_aload_n (i := 0) (pc' := 108) dX11_tune_107 rfl rfl rfl ?_
    refine u_getR (a := 147) (pc' := 111) dX11_tune_108 rfl fl_TuneDoorModel_67 rfl (by decide) kd_140 rfl ?_
    refine u_iload_n (i := 1) (pc' := 112) dX11_tune_111 rfl rfl rfl ?_
    refine u_aload_n (i := 0) (pc' := 113) dX11_tune_112 rfl rfl rfl ?_
    refine u_iconst (pc' := 114) dX11_tune_113 rfl ?_
    refine u_bipush (pc' := 116) dX11_tune_114 rfl (by decide) ?_
    refine u_invV (q' := qX11_number) (As := [vI 0, vI 99]) (st := [vI x1, vR 147]) (pc' := 119) dX11_tune_116 rfl gX11_number wm_1491 rfl rfl (by decide) kd_140 wm_1493 wp_78 rfl (Nat.le_of_ble_eq_true rfl) (M0.mono h (fun v τ7 h => ?_))
    obtain ⟨r8, rfl, h⟩ := h
    show V0 E (d + 1) qX11_tune 119 [some (vR 140), some (vI x1), some (vI x2)] [vI r8, vI x1, vR 147] τ7 Q
    obtain ⟨c9, c10, c11, h⟩ := h
    refine u_iastore (k := x1.toNat) (pc' := 120) dX11_tune_119 rfl (by decide) kd_147 c9 c10 (by decide) rfl c11 ?_
    refine u_aload_n (i := 0) (pc' := 121) dX11_tune_120 rfl rfl rfl ?_
    refine u_getI (z := (τ7 140 8)) (pc' := 124) dX11_tune_121 rfl fl_TuneDoorModel_36 rfl (by decide) (by decide) kd_140 rfl (fun r12 => ?_)
    refine u_if_ne (tgt := 140) (pc' := 127) dX11_tune_124 rfl (by decide) r12 (fun hb => ?_) (fun hb => ?_)
    · have h := h.1 hb
      exact u_ret dX11_tune_140 rfl h
    · have h := h.2 hb
      refine u_aload_n (i := 0) (pc' := 128) dX11_tune_127 rfl rfl rfl ?_
      refine u_getR (a := 144) (pc' := 131) dX11_tune_128 rfl fl_TuneDoorModel_57 rfl (by decide) kd_140 rfl ?_
      refine u_aload_n (i := 0) (pc' := 132) dX11_tune_131 rfl rfl rfl ?_
      refine u_getI (z := (τ7 140 39)) (pc' := 135) dX11_tune_132 rfl fl_TuneDoorModel_130 rfl (by decide) (by decide) kd_140 rfl (fun r13 => ?_)
      refine u_dup2 (pc' := 136) dX11_tune_135 rfl (fun _ hh => by cases hh) (fun _ hh => by cases hh) ?_
      obtain ⟨c14, c15, h⟩ := h
      refine u_iaload (k := (τ7 140 39).toNat) (z := (τ7 144 (τ7 140 39).toNat)) (pc' := 137) dX11_tune_136 rfl (by decide) kd_144 c14 c15 (by decide) rfl rfl (fun r16 => ?_)
      refine u_iconst (pc' := 138) dX11_tune_137 rfl ?_
      refine u_iadd (pc' := 139) dX11_tune_138 rfl ?_
      obtain ⟨c17, c18, c19, h⟩ := h
      refine u_iastore (k := (τ7 140 39).toNat) (pc' := 140) dX11_tune_139 rfl (by decide) kd_144 c17 c18 (by decide) rfl c19 ?_
      exact u_ret dX11_tune_140 rfl h
  · have h := h.2 hb
    refine u_aload_n (i := 0) (pc' := 69) dX11_tune_68 rfl rfl rfl ?_
    refine u_getR (a := 146) (pc' := 72) dX11_tune_69 rfl fl_TuneDoorModel_64 rfl (by decide) kd_140 rfl ?_
    refine u_iconst (pc' := 73) dX11_tune_72 rfl ?_
    refine u_iload_n (i := 1) (pc' := 74) dX11_tune_73 rfl rfl rfl ?_
    refine u_imul (pc' := 75) dX11_tune_74 rfl ?_
    refine u_iload_n (i := 2) (pc' := 76) dX11_tune_75 rfl rfl rfl ?_
    refine u_iadd (pc' := 77) dX11_tune_76 rfl ?_
    refine u_aload_n (i := 0) (pc' := 78) dX11_tune_77 rfl rfl rfl ?_
    refine u_iconst (pc' := 79) dX11_tune_78 rfl ?_
    refine u_aload_n (i := 0) (pc' := 80) dX11_tune_79 rfl rfl rfl ?_
    refine u_getR (a := 142) (pc' := 83) dX11_tune_80 rfl fl_TuneDoorModel_51 rfl (by decide) kd_140 rfl ?_
    refine u_aload_n (i := 0) (pc' := 84) dX11_tune_83 rfl rfl rfl ?_
    refine u_getI (z := (τ 140 39)) (pc' := 87) dX11_tune_84 rfl fl_TuneDoorModel_130 rfl (by decide) (by decide) kd_140 rfl (fun r20 => ?_)
    obtain ⟨c21, c22, h⟩ := h
    refine u_iaload (k := (τ 140 39).toNat) (z := (τ 142 (τ 140 39).toNat)) (pc' := 88) dX11_tune_87 rfl (by decide) kd_142 c21 c22 (by decide) rfl rfl (fun r23 => ?_)
    refine u_iconst (pc' := 89) dX11_tune_88 rfl ?_
    refine u_isub (pc' := 90) dX11_tune_89 rfl ?_
    refine u_invV (q' := qX11_number) (As := [vI 0, vI ((τ 142 (τ 140 39).toNat) - 1)]) (st := [vI ((5 * x1) + x2), vR 146]) (pc' := 93) dX11_tune_90 rfl gX11_number wm_1491 rfl rfl (by decide) kd_140 wm_1493 wp_78 rfl (Nat.le_of_ble_eq_true rfl) (M0.mono h (fun v τ24 h => ?_))
    obtain ⟨r25, rfl, h⟩ := h
    show V0 E (d + 1) qX11_tune 93 [some (vR 140), some (vI x1), some (vI x2)] [vI r25, vI ((5 * x1) + x2), vR 146] τ24 Q
    obtain ⟨c26, c27, c28, h⟩ := h
    refine u_iastore (k := ((5 * x1) + x2).toNat) (pc' := 94) dX11_tune_93 rfl (by decide) kd_146 c26 c27 (by decide) rfl c28 ?_
    refine s_iinc (i := 2) (ls' := [some (vR 140), some (vI x1), some (vI (x2 + 1))]) (pc' := 97) dX11_tune_94 rfl rfl (Nat.le_of_ble_eq_true rfl) rfl rfl ?_
    refine u_goto (tgt := 55) dX11_tune_97 (by decide) ?_
    exact u_less (ls' := [some (vR 140), some (vI x1), some (vI (x2 + 1))]) ⟨rfl, ⟨rfl, ⟨rfl, trivial⟩⟩⟩ h
set_option maxRecDepth 20000 in
theorem bX11_counts_0 {E : mm_Env} {d : Nat} {τ : mm_Mem} {Q : mm_Q0} {a0 : Bool} (h : (((τ 140 8) ≠ 0 → (((τ 140 8) ≠ 0 → (((τ 140 8) ≠ 0 → Q (some (vB false)) τ) ∧ ((τ 140 8) = 0 → Q (some (vB true)) τ))) ∧ ((τ 140 8) = 0 → M0 E d qX11_ahead [vR 140] τ (fun v τ4 => v = none ∧ (((τ4 140 8) ≠ 0 → Q (some (vB false)) τ4) ∧ ((τ4 140 8) = 0 → Q (some (vB true)) τ4)))))) ∧ ((τ 140 8) = 0 → ((a0 = false → (((τ 140 8) ≠ 0 → (((τ 140 8) ≠ 0 → Q (some (vB false)) τ) ∧ ((τ 140 8) = 0 → Q (some (vB true)) τ))) ∧ ((τ 140 8) = 0 → M0 E d qX11_ahead [vR 140] τ (fun v τ8 => v = none ∧ (((τ8 140 8) ≠ 0 → Q (some (vB false)) τ8) ∧ ((τ8 140 8) = 0 → Q (some (vB true)) τ8)))))) ∧ (a0 = true → M0 E d qX11_blame [vR 140, vI 5, vI (τ 140 4)] τ (fun v τ11 => v = none ∧ (((τ11 140 8) ≠ 0 → (((τ11 140 8) ≠ 0 → Q (some (vB false)) τ11) ∧ ((τ11 140 8) = 0 → Q (some (vB true)) τ11))) ∧ ((τ11 140 8) = 0 → M0 E d qX11_ahead [vR 140] τ11 (fun v τ14 => v = none ∧ (((τ14 140 8) ≠ 0 → Q (some (vB false)) τ14) ∧ ((τ14 140 8) = 0 → Q (some (vB true)) τ14))))))))))) : V0 E (d + 1) qX11_counts 0 [some (vR 140), some (vB a0)] [] τ Q := by
  refine u_aload_n (i := 0) (pc' := 1) dX11_counts_0 rfl rfl rfl ?_
  refine u_getI (z := (τ 140 8)) (pc' := 4) dX11_counts_1 rfl fl_TuneDoorModel_36 rfl (by decide) (by decide) kd_140 rfl (fun r1 => ?_)
  refine u_if_ne (tgt := 20) (pc' := 7) dX11_counts_4 rfl (by decide) r1 (fun hb => ?_) (fun hb => ?_)
  · have h := h.1 hb
    refine u_aload_n (i := 0) (pc' := 21) dX11_counts_20 rfl rfl rfl ?_
    refine u_getI (z := (τ 140 8)) (pc' := 24) dX11_counts_21 rfl fl_TuneDoorModel_36 rfl (by decide) (by decide) kd_140 rfl (fun r2 => ?_)
    refine u_if_ne (tgt := 31) (pc' := 27) dX11_counts_24 rfl (by decide) r2 (fun hb => ?_) (fun hb => ?_)
    · have h := h.1 hb
      refine u_aload_n (i := 0) (pc' := 32) dX11_counts_31 rfl rfl rfl ?_
      refine u_getI (z := (τ 140 8)) (pc' := 35) dX11_counts_32 rfl fl_TuneDoorModel_36 rfl (by decide) (by decide) kd_140 rfl (fun r3 => ?_)
      refine u_if_ne (tgt := 42) (pc' := 38) dX11_counts_35 rfl (by decide) r3 (fun hb => ?_) (fun hb => ?_)
      · have h := h.1 hb
        refine u_iconst (pc' := 43) dX11_counts_42 rfl ?_
        exact u_zret (b := false) dX11_counts_43 rfl rfl h
      · have h := h.2 hb
        refine u_iconst (pc' := 39) dX11_counts_38 rfl ?_
        refine u_goto (tgt := 43) dX11_counts_39 (by decide) ?_
        exact u_zret (b := true) dX11_counts_43 rfl rfl h
    · have h := h.2 hb
      refine u_aload_n (i := 0) (pc' := 28) dX11_counts_27 rfl rfl rfl ?_
      refine u_invV (q' := qX11_ahead) (As := []) (st := []) (pc' := 31) dX11_counts_28 rfl gX11_ahead wm_1468 rfl rfl (by decide) kd_140 wm_1470 wp_74 rfl (Nat.le_of_ble_eq_true rfl) (M0.mono h (fun v τ4 h => ?_))
      obtain ⟨rfl, h⟩ := h
      show V0 E (d + 1) qX11_counts 31 [some (vR 140), some (vB a0)] [] τ4 Q
      refine u_aload_n (i := 0) (pc' := 32) dX11_counts_31 rfl rfl rfl ?_
      refine u_getI (z := (τ4 140 8)) (pc' := 35) dX11_counts_32 rfl fl_TuneDoorModel_36 rfl (by decide) (by decide) kd_140 rfl (fun r5 => ?_)
      refine u_if_ne (tgt := 42) (pc' := 38) dX11_counts_35 rfl (by decide) r5 (fun hb => ?_) (fun hb => ?_)
      · have h := h.1 hb
        refine u_iconst (pc' := 43) dX11_counts_42 rfl ?_
        exact u_zret (b := false) dX11_counts_43 rfl rfl h
      · have h := h.2 hb
        refine u_iconst (pc' := 39) dX11_counts_38 rfl ?_
        refine u_goto (tgt := 43) dX11_counts_39 (by decide) ?_
        exact u_zret (b := true) dX11_counts_43 rfl rfl h
  · have h := h.2 hb
    refine u_iload_n (i := 1) (pc' := 8) dX11_counts_7 rfl rfl rfl ?_
    refine u_if_eq (tgt := 20) (pc' := 11) dX11_counts_8 rfl (by decide) (bI_R _) (fun hb => ?_) (fun hb => ?_)
    · have h := h.1 (bI_0.mp hb)
      refine u_aload_n (i := 0) (pc' := 21) dX11_counts_20 rfl rfl rfl ?_
      refine u_getI (z := (τ 140 8)) (pc' := 24) dX11_counts_21 rfl fl_TuneDoorModel_36 rfl (by decide) (by decide) kd_140 rfl (fun r6 => ?_)
      refine u_if_ne (tgt := 31) (pc' := 27) dX11_counts_24 rfl (by decide) r6 (fun hb => ?_) (fun hb => ?_)
      · have h := h.1 hb
        refine u_aload_n (i := 0) (pc' := 32) dX11_counts_31 rfl rfl rfl ?_
        refine u_getI (z := (τ 140 8)) (pc' := 35) dX11_counts_32 rfl fl_TuneDoorModel_36 rfl (by decide) (by decide) kd_140 rfl (fun r7 => ?_)
        refine u_if_ne (tgt := 42) (pc' := 38) dX11_counts_35 rfl (by decide) r7 (fun hb => ?_) (fun hb => ?_)
        · have h := h.1 hb
          refine u_iconst (pc' := 43) dX11_counts_42 rfl ?_
          exact u_zret (b := false) dX11_counts_43 rfl rfl h
        · have h := h.2 hb
          refine u_iconst (pc' := 39) dX11_counts_38 rfl ?_
          refine u_goto (tgt := 43) dX11_counts_39 (by decide) ?_
          exact u_zret (b := true) dX11_counts_43 rfl rfl h
      · have h := h.2 hb
        refine u_aload_n (i := 0) (pc' := 28) dX11_counts_27 rfl rfl rfl ?_
        refine u_invV (q' := qX11_ahead) (As := []) (st := []) (pc' := 31) dX11_counts_28 rfl gX11_ahead wm_1468 rfl rfl (by decide) kd_140 wm_1470 wp_74 rfl (Nat.le_of_ble_eq_true rfl) (M0.mono h (fun v τ8 h => ?_))
        obtain ⟨rfl, h⟩ := h
        show V0 E (d + 1) qX11_counts 31 [some (vR 140), some (vB a0)] [] τ8 Q
        refine u_aload_n (i := 0) (pc' := 32) dX11_counts_31 rfl rfl rfl ?_
        refine u_getI (z := (τ8 140 8)) (pc' := 35) dX11_counts_32 rfl fl_TuneDoorModel_36 rfl (by decide) (by decide) kd_140 rfl (fun r9 => ?_)
        refine u_if_ne (tgt := 42) (pc' := 38) dX11_counts_35 rfl (by decide) r9 (fun hb => ?_) (fun hb => ?_)
        · have h := h.1 hb
          refine u_iconst (pc' := 43) dX11_counts_42 rfl ?_
          exact u_zret (b := false) dX11_counts_43 rfl rfl h
        · have h := h.2 hb
          refine u_iconst (pc' := 39) dX11_counts_38 rfl ?_
          refine u_goto (tgt := 43) dX11_counts_39 (by decide) ?_
          exact u_zret (b := true) dX11_counts_43 rfl rfl h
    · have h := h.2 (bI_n0.mp hb)
      refine u_aload_n (i := 0) (pc' := 12) dX11_counts_11 rfl rfl rfl ?_
      refine u_iconst (pc' := 13) dX11_counts_12 rfl ?_
      refine u_aload_n (i := 0) (pc' := 14) dX11_counts_13 rfl rfl rfl ?_
      refine u_getI (z := (τ 140 4)) (pc' := 17) dX11_counts_14 rfl fl_TuneDoorModel_23 rfl (by decide) (by decide) kd_140 rfl (fun r10 => ?_)
      refine u_invV (q' := qX11_blame) (As := [vI 5, vI (τ 140 4)]) (st := []) (pc' := 20) dX11_counts_17 rfl gX11_blame wm_1478 rfl rfl (by decide) kd_140 wm_1480 wp_75 rfl (Nat.le_of_ble_eq_true rfl) (M0.mono h (fun v τ11 h => ?_))
      obtain ⟨rfl, h⟩ := h
      show V0 E (d + 1) qX11_counts 20 [some (vR 140), some (vB a0)] [] τ11 Q
      refine u_aload_n (i := 0) (pc' := 21) dX11_counts_20 rfl rfl rfl ?_
      refine u_getI (z := (τ11 140 8)) (pc' := 24) dX11_counts_21 rfl fl_TuneDoorModel_36 rfl (by decide) (by decide) kd_140 rfl (fun r12 => ?_)
      refine u_if_ne (tgt := 31) (pc' := 27) dX11_counts_24 rfl (by decide) r12 (fun hb => ?_) (fun hb => ?_)
      · have h := h.1 hb
        refine u_aload_n (i := 0) (pc' := 32) dX11_counts_31 rfl rfl rfl ?_
        refine u_getI (z := (τ11 140 8)) (pc' := 35) dX11_counts_32 rfl fl_TuneDoorModel_36 rfl (by decide) (by decide) kd_140 rfl (fun r13 => ?_)
        refine u_if_ne (tgt := 42) (pc' := 38) dX11_counts_35 rfl (by decide) r13 (fun hb => ?_) (fun hb => ?_)
        · have h := h.1 hb
          refine u_iconst (pc' := 43) dX11_counts_42 rfl ?_
          exact u_zret (b := false) dX11_counts_43 rfl rfl h
        · have h := h.2 hb
          refine u_iconst (pc' := 39) dX11_counts_38 rfl ?_
          refine u_goto (tgt := 43) dX11_counts_39 (by decide) ?_
          exact u_zret (b := true) dX11_counts_43 rfl rfl h
      · have h := h.2 hb
        refine u_aload_n (i := 0) (pc' := 28) dX11_counts_27 rfl rfl rfl ?_
        refine u_invV (q' := qX11_ahead) (As := []) (st := []) (pc' := 31) dX11_counts_28 rfl gX11_ahead wm_1468 rfl rfl (by decide) kd_140 wm_1470 wp_74 rfl (Nat.le_of_ble_eq_true rfl) (M0.mono h (fun v τ14 h => ?_))
        obtain ⟨rfl, h⟩ := h
        show V0 E (d + 1) qX11_counts 31 [some (vR 140), some (vB a0)] [] τ14 Q
        refine u_aload_n (i := 0) (pc' := 32) dX11_counts_31 rfl rfl rfl ?_
        refine u_getI (z := (τ14 140 8)) (pc' := 35) dX11_counts_32 rfl fl_TuneDoorModel_36 rfl (by decide) (by decide) kd_140 rfl (fun r15 => ?_)
        refine u_if_ne (tgt := 42) (pc' := 38) dX11_counts_35 rfl (by decide) r15 (fun hb => ?_) (fun hb => ?_)
        · have h := h.1 hb
          refine u_iconst (pc' := 43) dX11_counts_42 rfl ?_
          exact u_zret (b := false) dX11_counts_43 rfl rfl h
        · have h := h.2 hb
          refine u_iconst (pc' := 39) dX11_counts_38 rfl ?_
          refine u_goto (tgt := 43) dX11_counts_39 (by decide) ?_
          exact u_zret (b := true) dX11_counts_43 rfl rfl h
theorem mX11_counts {E : mm_Env} {d : Nat} {τ : mm_Mem} {Q : mm_Q0} {a0 : Bool} (h : (((τ 140 8) ≠ 0 → (((τ 140 8) ≠ 0 → (((τ 140 8) ≠ 0 → Q (some (vB false)) τ) ∧ ((τ 140 8) = 0 → Q (some (vB true)) τ))) ∧ ((τ 140 8) = 0 → M0 E d qX11_ahead [vR 140] τ (fun v τ4 => v = none ∧ (((τ4 140 8) ≠ 0 → Q (some (vB false)) τ4) ∧ ((τ4 140 8) = 0 → Q (some (vB true)) τ4)))))) ∧ ((τ 140 8) = 0 → ((a0 = false → (((τ 140 8) ≠ 0 → (((τ 140 8) ≠ 0 → Q (some (vB false)) τ) ∧ ((τ 140 8) = 0 → Q (some (vB true)) τ))) ∧ ((τ 140 8) = 0 → M0 E d qX11_ahead [vR 140] τ (fun v τ8 => v = none ∧ (((τ8 140 8) ≠ 0 → Q (some (vB false)) τ8) ∧ ((τ8 140 8) = 0 → Q (some (vB true)) τ8)))))) ∧ (a0 = true → M0 E d qX11_blame [vR 140, vI 5, vI (τ 140 4)] τ (fun v τ11 => v = none ∧ (((τ11 140 8) ≠ 0 → (((τ11 140 8) ≠ 0 → Q (some (vB false)) τ11) ∧ ((τ11 140 8) = 0 → Q (some (vB true)) τ11))) ∧ ((τ11 140 8) = 0 → M0 E d qX11_ahead [vR 140] τ11 (fun v τ14 => v = none ∧ (((τ14 140 8) ≠ 0 → Q (some (vB false)) τ14) ∧ ((τ14 140 8) = 0 → Q (some (vB true)) τ14))))))))))) : M0 E (d + 1) qX11_counts [vR 140, vB a0] τ Q := M0_of rfl (Nat.le_of_ble_eq_true rfl) [some (vR 140), some (vB a0)] rfl (bX11_counts_0  h)
set_option maxRecDepth 20000 in
theorem bX11_fresh_0 {E : mm_Env} {d : Nat} {τ : mm_Mem} {Q : mm_Q0}  (h : (((τ 140 8) ≤ 0 → (((τ 140 3) ≠ 1 → M0 E d qX11_blame [vR 140, vI 1, vI (τ 140 4)] τ (fun v τ4 => v = none ∧ V0 E (d + 1) qX11_fresh 39 [some (vR 140), some (vI 0), none] [] τ4 Q)) ∧ ((τ 140 3) = 1 → M0 E d qX11_isOwn [vR 140, vL (τ 140 7)] τ (fun v τ5 => ∃ b6 : Bool, v = some (vB b6) ∧ ((b6 = false → V0 E (d + 1) qX11_fresh 39 [some (vR 140), some (vI 0), none] [] τ5 Q) ∧ (b6 = true → M0 E d qX11_blame [vR 140, vI 1, vI (τ5 140 4)] τ5 (fun v τ8 => v = none ∧ V0 E (d + 1) qX11_fresh 39 [some (vR 140), some (vI 0), none] [] τ8 Q))))))) ∧ (¬ (τ 140 8) ≤ 0 → Q (some (vL 0)) τ))) : V0 E (d + 1) qX11_fresh 0 [some (vR 140), none, none] [] τ Q := by
  refine u_aload_n (i := 0) (pc' := 1) dX11_fresh_0 rfl rfl rfl ?_
  refine u_getI (z := (τ 140 8)) (pc' := 4) dX11_fresh_1 rfl fl_TuneDoorModel_36 rfl (by decide) (by decide) kd_140 rfl (fun r1 => ?_)
  refine u_if_le (tgt := 9) (pc' := 7) dX11_fresh_4 rfl (by decide) r1 (fun hb => ?_) (fun hb => ?_)
  · have h := h.1 hb
    refine u_aload_n (i := 0) (pc' := 10) dX11_fresh_9 rfl rfl rfl ?_
    refine u_getI (z := (τ 140 3)) (pc' := 13) dX11_fresh_10 rfl fl_TuneDoorModel_20 rfl (by decide) (by decide) kd_140 rfl (fun r2 => ?_)
    refine u_iconst (pc' := 14) dX11_fresh_13 rfl ?_
    refine u_icmp_ne (tgt := 28) (pc' := 17) dX11_fresh_14 rfl (by decide) r2 ⟨by decide, by decide⟩ (fun hb => ?_) (fun hb => ?_)
    · have h := h.1 hb
      refine u_aload_n (i := 0) (pc' := 29) dX11_fresh_28 rfl rfl rfl ?_
      refine u_iconst (pc' := 30) dX11_fresh_29 rfl ?_
      refine u_aload_n (i := 0) (pc' := 31) dX11_fresh_30 rfl rfl rfl ?_
      refine u_getI (z := (τ 140 4)) (pc' := 34) dX11_fresh_31 rfl fl_TuneDoorModel_23 rfl (by decide) (by decide) kd_140 rfl (fun r3 => ?_)
      refine u_invV (q' := qX11_blame) (As := [vI 1, vI (τ 140 4)]) (st := []) (pc' := 37) dX11_fresh_34 rfl gX11_blame wm_1478 rfl rfl (by decide) kd_140 wm_1480 wp_75 rfl (Nat.le_of_ble_eq_true rfl) (M0.mono h (fun v τ4 h => ?_))
      obtain ⟨rfl, h⟩ := h
      show V0 E (d + 1) qX11_fresh 37 [some (vR 140), none, none] [] τ4 Q
      refine u_iconst (pc' := 38) dX11_fresh_37 rfl ?_
      refine s_istore_n (i := 1) (ls' := [some (vR 140), some (vI 0), none]) (pc' := 39) dX11_fresh_38 rfl rfl (Nat.le_of_ble_eq_true rfl) rfl rfl ?_
      exact u_less (ls' := [some (vR 140), some (vI 0), none]) ⟨rfl, ⟨rfl, trivial⟩⟩ h
    · have h := h.2 hb
      refine u_aload_n (i := 0) (pc' := 18) dX11_fresh_17 rfl rfl rfl ?_
      refine u_aload_n (i := 0) (pc' := 19) dX11_fresh_18 rfl rfl rfl ?_
      refine u_getL (z := (τ 140 7)) (pc' := 22) dX11_fresh_19 rfl fl_TuneDoorModel_32 rfl rfl (by decide) kd_140 rfl ?_
      refine u_invV (q' := qX11_isOwn) (As := [vL (τ 140 7)]) (st := []) (pc' := 25) dX11_fresh_22 rfl gX11_isOwn wm_1528 rfl rfl (by decide) kd_140 wm_1530 wp_86 rfl (Nat.le_of_ble_eq_true rfl) (M0.mono h (fun v τ5 h => ?_))
      obtain ⟨b6, rfl, h⟩ := h
      show V0 E (d + 1) qX11_fresh 25 [some (vR 140), none, none] [vB b6] τ5 Q
      refine u_if_eq (tgt := 37) (pc' := 28) dX11_fresh_25 rfl (by decide) (bI_R _) (fun hb => ?_) (fun hb => ?_)
      · have h := h.1 (bI_0.mp hb)
        refine u_iconst (pc' := 38) dX11_fresh_37 rfl ?_
        refine s_istore_n (i := 1) (ls' := [some (vR 140), some (vI 0), none]) (pc' := 39) dX11_fresh_38 rfl rfl (Nat.le_of_ble_eq_true rfl) rfl rfl ?_
        exact u_less (ls' := [some (vR 140), some (vI 0), none]) ⟨rfl, ⟨rfl, trivial⟩⟩ h
      · have h := h.2 (bI_n0.mp hb)
        refine u_aload_n (i := 0) (pc' := 29) dX11_fresh_28 rfl rfl rfl ?_
        refine u_iconst (pc' := 30) dX11_fresh_29 rfl ?_
        refine u_aload_n (i := 0) (pc' := 31) dX11_fresh_30 rfl rfl rfl ?_
        refine u_getI (z := (τ5 140 4)) (pc' := 34) dX11_fresh_31 rfl fl_TuneDoorModel_23 rfl (by decide) (by decide) kd_140 rfl (fun r7 => ?_)
        refine u_invV (q' := qX11_blame) (As := [vI 1, vI (τ5 140 4)]) (st := []) (pc' := 37) dX11_fresh_34 rfl gX11_blame wm_1478 rfl rfl (by decide) kd_140 wm_1480 wp_75 rfl (Nat.le_of_ble_eq_true rfl) (M0.mono h (fun v τ8 h => ?_))
        obtain ⟨rfl, h⟩ := h
        show V0 E (d + 1) qX11_fresh 37 [some (vR 140), none, none] [] τ8 Q
        refine u_iconst (pc' := 38) dX11_fresh_37 rfl ?_
        refine s_istore_n (i := 1) (ls' := [some (vR 140), some (vI 0), none]) (pc' := 39) dX11_fresh_38 rfl rfl (Nat.le_of_ble_eq_true rfl) rfl rfl ?_
        exact u_less (ls' := [some (vR 140), some (vI 0), none]) ⟨rfl, ⟨rfl, trivial⟩⟩ h
  · have h := h.2 hb
    refine u_lconst (z := 0) (pc' := 8) dX11_fresh_7 rfl (by decide) ?_
    exact u_lret dX11_fresh_8 rfl h
theorem mX11_fresh {E : mm_Env} {d : Nat} {τ : mm_Mem} {Q : mm_Q0}  (h : (((τ 140 8) ≤ 0 → (((τ 140 3) ≠ 1 → M0 E d qX11_blame [vR 140, vI 1, vI (τ 140 4)] τ (fun v τ4 => v = none ∧ V0 E (d + 1) qX11_fresh 39 [some (vR 140), some (vI 0), none] [] τ4 Q)) ∧ ((τ 140 3) = 1 → M0 E d qX11_isOwn [vR 140, vL (τ 140 7)] τ (fun v τ5 => ∃ b6 : Bool, v = some (vB b6) ∧ ((b6 = false → V0 E (d + 1) qX11_fresh 39 [some (vR 140), some (vI 0), none] [] τ5 Q) ∧ (b6 = true → M0 E d qX11_blame [vR 140, vI 1, vI (τ5 140 4)] τ5 (fun v τ8 => v = none ∧ V0 E (d + 1) qX11_fresh 39 [some (vR 140), some (vI 0), none] [] τ8 Q))))))) ∧ (¬ (τ 140 8) ≤ 0 → Q (some (vL 0)) τ))) : M0 E (d + 1) qX11_fresh [vR 140] τ Q := M0_of rfl (Nat.le_of_ble_eq_true rfl) [some (vR 140), none, none] rfl (bX11_fresh_0  h)
set_option maxRecDepth 20000 in
theorem bX11_fresh_39 {E : mm_Env} {d : Nat} {τ : mm_Mem} {Q : mm_Q0} {x1 : Int} (h : inR x1 ∧ ((2 < x1 → (((τ 140 8) ≠ 0 → Q (some (vL (τ 140 7))) τ) ∧ ((τ 140 8) = 0 → M0 E d qX11_ahead [vR 140] τ (fun v τ3 => v = none ∧ Q (some (vL (τ 140 7))) τ3)))) ∧ (¬ 2 < x1 → (((τ 140 8) ≠ 0 → (((τ 140 8) ≠ 0 → Q (some (vL (τ 140 7))) τ) ∧ ((τ 140 8) = 0 → M0 E d qX11_ahead [vR 140] τ (fun v τ6 => v = none ∧ Q (some (vL (τ 140 7))) τ6)))) ∧ ((τ 140 8) = 0 → M0 E d qX11_named [vR 140, vI x1, vL (τ 140 7)] τ (fun v τ7 => ∃ r8 : Int, v = some (vI r8) ∧ inR r8 ∧ ((r8 = (-1) → V0 E (d + 1) qX11_fresh 39 [some (vR 140), some (vI (x1 + 1)), none] [] τ7 Q) ∧ (¬ r8 = (-1) → M0 E d qX11_blame [vR 140, vI 2, vI (τ7 140 4)] τ7 (fun v τ11 => v = none ∧ V0 E (d + 1) qX11_fresh 39 [some (vR 140), some (vI (x1 + 1)), none] [] τ11 Q))))))))) : V0 E (d + 1) qX11_fresh 39 [some (vR 140), some (vI x1), none] [] τ Q := by
  refine u_iload_n (i := 1) (pc' := 40) dX11_fresh_39 rfl rfl rfl ?_
  refine u_iconst (pc' := 41) dX11_fresh_40 rfl ?_
  obtain ⟨c1, h⟩ := h
  refine u_icmp_gt (tgt := 79) (pc' := 44) dX11_fresh_41 rfl (by decide) c1 ⟨by decide, by decide⟩ (fun hb => ?_) (fun hb => ?_)
  · have h := h.1 hb
    refine u_aload_n (i := 0) (pc' := 80) dX11_fresh_79 rfl rfl rfl ?_
    refine u_getL (z := (τ 140 7)) (pc' := 83) dX11_fresh_80 rfl fl_TuneDoorModel_32 rfl rfl (by decide) kd_140 rfl ?_
    refine s_lstore_n (i := 1) (ls' := [some (vR 140), some (vL (τ 140 7)), none]) (pc' := 84) dX11_fresh_83 rfl rfl (Nat.le_of_ble_eq_true rfl) rfl rfl ?_
    refine u_aload_n (i := 0) (pc' := 85) dX11_fresh_84 rfl rfl rfl ?_
    refine u_getI (z := (τ 140 8)) (pc' := 88) dX11_fresh_85 rfl fl_TuneDoorModel_36 rfl (by decide) (by decide) kd_140 rfl (fun r2 => ?_)
    refine u_if_ne (tgt := 95) (pc' := 91) dX11_fresh_88 rfl (by decide) r2 (fun hb => ?_) (fun hb => ?_)
    · have h := h.1 hb
      refine u_lload_n (i := 1) (pc' := 96) dX11_fresh_95 rfl rfl rfl ?_
      exact u_lret dX11_fresh_96 rfl h
    · have h := h.2 hb
      refine u_aload_n (i := 0) (pc' := 92) dX11_fresh_91 rfl rfl rfl ?_
      refine u_invV (q' := qX11_ahead) (As := []) (st := []) (pc' := 95) dX11_fresh_92 rfl gX11_ahead wm_1468 rfl rfl (by decide) kd_140 wm_1470 wp_74 rfl (Nat.le_of_ble_eq_true rfl) (M0.mono h (fun v τ3 h => ?_))
      obtain ⟨rfl, h⟩ := h
      show V0 E (d + 1) qX11_fresh 95 [some (vR 140), some (vL (τ 140 7)), none] [] τ3 Q
      refine u_lload_n (i := 1) (pc' := 96) dX11_fresh_95 rfl rfl rfl ?_
      exact u_lret dX11_fresh_96 rfl h
  · have h := h.2 hb
    refine u_aload_n (i := 0) (pc' := 45) dX11_fresh_44 rfl rfl rfl ?_
    refine u_getI (z := (τ 140 8)) (pc' := 48) dX11_fresh_45 rfl fl_TuneDoorModel_36 rfl (by decide) (by decide) kd_140 rfl (fun r4 => ?_)
    refine u_if_ne (tgt := 79) (pc' := 51) dX11_fresh_48 rfl (by decide) r4 (fun hb => ?_) (fun hb => ?_)
    · have h := h.1 hb
      refine u_aload_n (i := 0) (pc' := 80) dX11_fresh_79 rfl rfl rfl ?_
      refine u_getL (z := (τ 140 7)) (pc' := 83) dX11_fresh_80 rfl fl_TuneDoorModel_32 rfl rfl (by decide) kd_140 rfl ?_
      refine s_lstore_n (i := 1) (ls' := [some (vR 140), some (vL (τ 140 7)), none]) (pc' := 84) dX11_fresh_83 rfl rfl (Nat.le_of_ble_eq_true rfl) rfl rfl ?_
      refine u_aload_n (i := 0) (pc' := 85) dX11_fresh_84 rfl rfl rfl ?_
      refine u_getI (z := (τ 140 8)) (pc' := 88) dX11_fresh_85 rfl fl_TuneDoorModel_36 rfl (by decide) (by decide) kd_140 rfl (fun r5 => ?_)
      refine u_if_ne (tgt := 95) (pc' := 91) dX11_fresh_88 rfl (by decide) r5 (fun hb => ?_) (fun hb => ?_)
      · have h := h.1 hb
        refine u_lload_n (i := 1) (pc' := 96) dX11_fresh_95 rfl rfl rfl ?_
        exact u_lret dX11_fresh_96 rfl h
      · have h := h.2 hb
        refine u_aload_n (i := 0) (pc' := 92) dX11_fresh_91 rfl rfl rfl ?_
        refine u_invV (q' := qX11_ahead) (As := []) (st := []) (pc' := 95) dX11_fresh_92 rfl gX11_ahead wm_1468 rfl rfl (by decide) kd_140 wm_1470 wp_74 rfl (Nat.le_of_ble_eq_true rfl) (M0.mono h (fun v τ6 h => ?_))
        obtain ⟨rfl, h⟩ := h
        show V0 E (d + 1) qX11_fresh 95 [some (vR 140), some (vL (τ 140 7)), none] [] τ6 Q
        refine u_lload_n (i := 1) (pc' := 96) dX11_fresh_95 rfl rfl rfl ?_
        exact u_lret dX11_fresh_96 rfl h
    · have h := h.2 hb
      refine u_aload_n (i := 0) (pc' := 52) dX11_fresh_51 rfl rfl rfl ?_
      refine u_iload_n (i := 1) (pc' := 53) dX11_fresh_52 rfl rfl rfl ?_
      refine u_aload_n (i := 0) (pc' := 54) dX11_fresh_53 rfl rfl rfl ?_
      refine u_getL (z := (τ 140 7)) (pc' := 57) dX11_fresh_54 rfl fl_TuneDoorModel_32 rfl rfl (by decide) kd_140 rfl ?_
      refine u_invV (q' := qX11_named) (As := [vI x1, vL (τ 140 7)]) (st := []) (pc' := 60) dX11_fresh_57 rfl gX11_named wm_1558 rfl rfl (by decide) kd_140 wm_1560 wp_87 rfl (Nat.le_of_ble_eq_true rfl) (M0.mono h (fun v τ7 h => ?_))
      obtain ⟨r8, rfl, h⟩ := h
      show V0 E (d + 1) qX11_fresh 60 [some (vR 140), some (vI x1), none] [vI r8] τ7 Q
      refine u_iconst (pc' := 61) dX11_fresh_60 rfl ?_
      obtain ⟨c9, h⟩ := h
      refine u_icmp_eq (tgt := 73) (pc' := 64) dX11_fresh_61 rfl (by decide) c9 ⟨by decide, by decide⟩ (fun hb => ?_) (fun hb => ?_)
      · have h := h.1 hb
        refine s_iinc (i := 1) (ls' := [some (vR 140), some (vI (x1 + 1)), none]) (pc' := 76) dX11_fresh_73 rfl rfl (Nat.le_of_ble_eq_true rfl) rfl rfl ?_
        refine u_goto (tgt := 39) dX11_fresh_76 (by decide) ?_
        exact u_less (ls' := [some (vR 140), some (vI (x1 + 1)), none]) ⟨rfl, ⟨rfl, trivial⟩⟩ h
      · have h := h.2 hb
        refine u_aload_n (i := 0) (pc' := 65) dX11_fresh_64 rfl rfl rfl ?_
        refine u_iconst (pc' := 66) dX11_fresh_65 rfl ?_
        refine u_aload_n (i := 0) (pc' := 67) dX11_fresh_66 rfl rfl rfl ?_
        refine u_getI (z := (τ7 140 4)) (pc' := 70) dX11_fresh_67 rfl fl_TuneDoorModel_23 rfl (by decide) (by decide) kd_140 rfl (fun r10 => ?_)
        refine u_invV (q' := qX11_blame) (As := [vI 2, vI (τ7 140 4)]) (st := []) (pc' := 73) dX11_fresh_70 rfl gX11_blame wm_1478 rfl rfl (by decide) kd_140 wm_1480 wp_75 rfl (Nat.le_of_ble_eq_true rfl) (M0.mono h (fun v τ11 h => ?_))
        obtain ⟨rfl, h⟩ := h
        show V0 E (d + 1) qX11_fresh 73 [some (vR 140), some (vI x1), none] [] τ11 Q
        refine s_iinc (i := 1) (ls' := [some (vR 140), some (vI (x1 + 1)), none]) (pc' := 76) dX11_fresh_73 rfl rfl (Nat.le_of_ble_eq_true rfl) rfl rfl ?_
        refine u_goto (tgt := 39) dX11_fresh_76 (by decide) ?_
        exact u_less (ls' := [some (vR 140), some (vI (x1 + 1)), none]) ⟨rfl, ⟨rfl, trivial⟩⟩ h
set_option maxRecDepth 20000 in
theorem bX11_isOwn_0 {E : mm_Env} {d : Nat} {τ : mm_Mem} {Q : mm_Q0} {a0 : Int} (h : inL a0 ∧ ((a0 = 474316301683 → Q (some (vB true)) τ) ∧ (¬ a0 = 474316301683 → ((a0 = 1819242087 → Q (some (vB true)) τ) ∧ (¬ a0 = 1819242087 → ((a0 = 1953853029 → Q (some (vB true)) τ) ∧ (¬ a0 = 1953853029 → ((a0 = 1801807216 → Q (some (vB true)) τ) ∧ (¬ a0 = 1801807216 → ((a0 ≠ 482854658917 → ((a0 = 1852798053 → Q (some (vB true)) τ) ∧ (¬ a0 = 1852798053 → ((a0 = 1801810036 → Q (some (vB true)) τ) ∧ (¬ a0 = 1801810036 → ((a0 = 1685024626 → Q (some (vB true)) τ) ∧ (¬ a0 = 1685024626 → ((a0 = 126943972909940 → Q (some (vB true)) τ) ∧ (¬ a0 = 126943972909940 → ((a0 ≠ 131294707347319 → ((a0 = 1885432178 → Q (some (vB true)) τ) ∧ (¬ a0 = 1885432178 → ((a0 = 7104880 → Q (some (vB true)) τ) ∧ (¬ a0 = 7104880 → ((a0 = 491328333172 → Q (some (vB true)) τ) ∧ (¬ a0 = 491328333172 → ((a0 = 123581014175598 → Q (some (vB true)) τ) ∧ (¬ a0 = 123581014175598 → ((a0 ≠ 465726301555 → ((a0 = 1701999219 → Q (some (vB true)) τ) ∧ (¬ a0 = 1701999219 → ((a0 = 512970880104 → Q (some (vB true)) τ) ∧ (¬ a0 = 512970880104 → ((a0 = 2003330414 → Q (some (vB true)) τ) ∧ (¬ a0 = 2003330414 → ((a0 = 28530 → Q (some (vB true)) τ) ∧ (¬ a0 = 28530 → ((a0 ≠ 6385252 → ((a0 = 7237492 → Q (some (vB true)) τ) ∧ (¬ a0 = 7237492 → ((a0 = 6384748 → Q (some (vB true)) τ) ∧ (¬ a0 = 6384748 → ((a0 = 7566701 → Q (some (vB true)) τ) ∧ (¬ a0 = 7566701 → ((a0 = 439855772532 → Q (some (vB true)) τ) ∧ (¬ a0 = 439855772532 → ((a0 ≠ 1818325876 → ((a0 = 7302244 → Q (some (vB true)) τ) ∧ (¬ a0 = 7302244 → ((a0 = 1751478885 → Q (some (vB true)) τ) ∧ (¬ a0 = 1751478885 → ((a0 = 7170414 → Q (some (vB true)) τ) ∧ (¬ a0 = 7170414 → ((a0 ≠ 7168376 → Q (some (vB false)) τ) ∧ (a0 = 7168376 → Q (some (vB true)) τ))))))))) ∧ (a0 = 1818325876 → Q (some (vB true)) τ))))))))))) ∧ (a0 = 6385252 → Q (some (vB true)) τ))))))))))) ∧ (a0 = 465726301555 → Q (some (vB true)) τ))))))))))) ∧ (a0 = 131294707347319 → Q (some (vB true)) τ))))))))))) ∧ (a0 = 482854658917 → Q (some (vB true)) τ))))))))))) : V0 E d qX11_isOwn 0 [some (vR 140), some (vL a0), none] [] τ Q := by
  refine u_lload_n (i := 1) (pc' := 1) dX11_isOwn_0 rfl rfl rfl ?_
  refine u_ldc2 (z := 474316301683) (pc' := 4) dX11_isOwn_1 rfl wm_1486 (by decide) ?_
  obtain ⟨c1, h⟩ := h
  refine u_lcmp (pc' := 5) dX11_isOwn_4 rfl c1 ⟨by decide, by decide⟩ ?_
  refine u_if_eq (tgt := 40) (pc' := 8) dX11_isOwn_5 rfl (by decide) (mm_cmp_R _ _) (fun hb => ?_) (fun hb => ?_)
  · have h := h.1 (mm_cmp_0.mp hb)
    refine u_iconst (pc' := 41) dX11_isOwn_40 rfl ?_
    exact u_zret (b := true) dX11_isOwn_41 rfl rfl h
  · have h := h.2 (fun w => hb (mm_cmp_0.mpr w))
    refine u_lload_n (i := 1) (pc' := 9) dX11_isOwn_8 rfl rfl rfl ?_
    refine u_ldc2 (z := 1819242087) (pc' := 12) dX11_isOwn_9 rfl wm_1498 (by decide) ?_
    refine u_lcmp (pc' := 13) dX11_isOwn_12 rfl c1 ⟨by decide, by decide⟩ ?_
    refine u_if_eq (tgt := 40) (pc' := 16) dX11_isOwn_13 rfl (by decide) (mm_cmp_R _ _) (fun hb => ?_) (fun hb => ?_)
    · have h := h.1 (mm_cmp_0.mp hb)
      refine u_iconst (pc' := 41) dX11_isOwn_40 rfl ?_
      exact u_zret (b := true) dX11_isOwn_41 rfl rfl h
    · have h := h.2 (fun w => hb (mm_cmp_0.mpr w))
      refine u_lload_n (i := 1) (pc' := 17) dX11_isOwn_16 rfl rfl rfl ?_
      refine u_ldc2 (z := 1953853029) (pc' := 20) dX11_isOwn_17 rfl wm_1515 (by decide) ?_
      refine u_lcmp (pc' := 21) dX11_isOwn_20 rfl c1 ⟨by decide, by decide⟩ ?_
      refine u_if_eq (tgt := 40) (pc' := 24) dX11_isOwn_21 rfl (by decide) (mm_cmp_R _ _) (fun hb => ?_) (fun hb => ?_)
      · have h := h.1 (mm_cmp_0.mp hb)
        refine u_iconst (pc' := 41) dX11_isOwn_40 rfl ?_
        exact u_zret (b := true) dX11_isOwn_41 rfl rfl h
      · have h := h.2 (fun w => hb (mm_cmp_0.mpr w))
        refine u_lload_n (i := 1) (pc' := 25) dX11_isOwn_24 rfl rfl rfl ?_
        refine u_ldc2 (z := 1801807216) (pc' := 28) dX11_isOwn_25 rfl wm_1532 (by decide) ?_
        refine u_lcmp (pc' := 29) dX11_isOwn_28 rfl c1 ⟨by decide, by decide⟩ ?_
        refine u_if_eq (tgt := 40) (pc' := 32) dX11_isOwn_29 rfl (by decide) (mm_cmp_R _ _) (fun hb => ?_) (fun hb => ?_)
        · have h := h.1 (mm_cmp_0.mp hb)
          refine u_iconst (pc' := 41) dX11_isOwn_40 rfl ?_
          exact u_zret (b := true) dX11_isOwn_41 rfl rfl h
        · have h := h.2 (fun w => hb (mm_cmp_0.mpr w))
          refine u_lload_n (i := 1) (pc' := 33) dX11_isOwn_32 rfl rfl rfl ?_
          refine u_ldc2 (z := 482854658917) (pc' := 36) dX11_isOwn_33 rfl wm_1533 (by decide) ?_
          refine u_lcmp (pc' := 37) dX11_isOwn_36 rfl c1 ⟨by decide, by decide⟩ ?_
          refine u_if_ne (tgt := 42) (pc' := 40) dX11_isOwn_37 rfl (by decide) (mm_cmp_R _ _) (fun hb => ?_) (fun hb => ?_)
          · have h := h.1 (mm_cmp_ne.mp hb)
            refine u_lload_n (i := 1) (pc' := 43) dX11_isOwn_42 rfl rfl rfl ?_
            refine u_ldc2 (z := 1852798053) (pc' := 46) dX11_isOwn_43 rfl wm_1534 (by decide) ?_
            refine u_lcmp (pc' := 47) dX11_isOwn_46 rfl c1 ⟨by decide, by decide⟩ ?_
            refine u_if_eq (tgt := 82) (pc' := 50) dX11_isOwn_47 rfl (by decide) (mm_cmp_R _ _) (fun hb => ?_) (fun hb => ?_)
            · have h := h.1 (mm_cmp_0.mp hb)
              refine u_iconst (pc' := 83) dX11_isOwn_82 rfl ?_
              exact u_zret (b := true) dX11_isOwn_83 rfl rfl h
            · have h := h.2 (fun w => hb (mm_cmp_0.mpr w))
              refine u_lload_n (i := 1) (pc' := 51) dX11_isOwn_50 rfl rfl rfl ?_
              refine u_ldc2 (z := 1801810036) (pc' := 54) dX11_isOwn_51 rfl wm_1535 (by decide) ?_
              refine u_lcmp (pc' := 55) dX11_isOwn_54 rfl c1 ⟨by decide, by decide⟩ ?_
              refine u_if_eq (tgt := 82) (pc' := 58) dX11_isOwn_55 rfl (by decide) (mm_cmp_R _ _) (fun hb => ?_) (fun hb => ?_)
              · have h := h.1 (mm_cmp_0.mp hb)
                refine u_iconst (pc' := 83) dX11_isOwn_82 rfl ?_
                exact u_zret (b := true) dX11_isOwn_83 rfl rfl h
              · have h := h.2 (fun w => hb (mm_cmp_0.mpr w))
                refine u_lload_n (i := 1) (pc' := 59) dX11_isOwn_58 rfl rfl rfl ?_
                refine u_ldc2 (z := 1685024626) (pc' := 62) dX11_isOwn_59 rfl wm_1536 (by decide) ?_
                refine u_lcmp (pc' := 63) dX11_isOwn_62 rfl c1 ⟨by decide, by decide⟩ ?_
                refine u_if_eq (tgt := 82) (pc' := 66) dX11_isOwn_63 rfl (by decide) (mm_cmp_R _ _) (fun hb => ?_) (fun hb => ?_)
                · have h := h.1 (mm_cmp_0.mp hb)
                  refine u_iconst (pc' := 83) dX11_isOwn_82 rfl ?_
                  exact u_zret (b := true) dX11_isOwn_83 rfl rfl h
                · have h := h.2 (fun w => hb (mm_cmp_0.mpr w))
                  refine u_lload_n (i := 1) (pc' := 67) dX11_isOwn_66 rfl rfl rfl ?_
                  refine u_ldc2 (z := 126943972909940) (pc' := 70) dX11_isOwn_67 rfl wm_1537 (by decide) ?_
                  refine u_lcmp (pc' := 71) dX11_isOwn_70 rfl c1 ⟨by decide, by decide⟩ ?_
                  refine u_if_eq (tgt := 82) (pc' := 74) dX11_isOwn_71 rfl (by decide) (mm_cmp_R _ _) (fun hb => ?_) (fun hb => ?_)
                  · have h := h.1 (mm_cmp_0.mp hb)
                    refine u_iconst (pc' := 83) dX11_isOwn_82 rfl ?_
                    exact u_zret (b := true) dX11_isOwn_83 rfl rfl h
                  · have h := h.2 (fun w => hb (mm_cmp_0.mpr w))
                    refine u_lload_n (i := 1) (pc' := 75) dX11_isOwn_74 rfl rfl rfl ?_
                    refine u_ldc2 (z := 131294707347319) (pc' := 78) dX11_isOwn_75 rfl wm_1538 (by decide) ?_
                    refine u_lcmp (pc' := 79) dX11_isOwn_78 rfl c1 ⟨by decide, by decide⟩ ?_
                    refine u_if_ne (tgt := 84) (pc' := 82) dX11_isOwn_79 rfl (by decide) (mm_cmp_R _ _) (fun hb => ?_) (fun hb => ?_)
                    · have h := h.1 (mm_cmp_ne.mp hb)
                      refine u_lload_n (i := 1) (pc' := 85) dX11_isOwn_84 rfl rfl rfl ?_
                      refine u_ldc2 (z := 1885432178) (pc' := 88) dX11_isOwn_85 rfl wm_1539 (by decide) ?_
                      refine u_lcmp (pc' := 89) dX11_isOwn_88 rfl c1 ⟨by decide, by decide⟩ ?_
                      refine u_if_eq (tgt := 124) (pc' := 92) dX11_isOwn_89 rfl (by decide) (mm_cmp_R _ _) (fun hb => ?_) (fun hb => ?_)
                      · have h := h.1 (mm_cmp_0.mp hb)
                        refine u_iconst (pc' := 125) dX11_isOwn_124 rfl ?_
                        exact u_zret (b := true) dX11_isOwn_125 rfl rfl h
                      · have h := h.2 (fun w => hb (mm_cmp_0.mpr w))
                        refine u_lload_n (i := 1) (pc' := 93) dX11_isOwn_92 rfl rfl rfl ?_
                        refine u_ldc2 (z := 7104880) (pc' := 96) dX11_isOwn_93 rfl wm_1540 (by decide) ?_
                        refine u_lcmp (pc' := 97) dX11_isOwn_96 rfl c1 ⟨by decide, by decide⟩ ?_
                        refine u_if_eq (tgt := 124) (pc' := 100) dX11_isOwn_97 rfl (by decide) (mm_cmp_R _ _) (fun hb => ?_) (fun hb => ?_)
                        · have h := h.1 (mm_cmp_0.mp hb)
                          refine u_iconst (pc' := 125) dX11_isOwn_124 rfl ?_
                          exact u_zret (b := true) dX11_isOwn_125 rfl rfl h
                        · have h := h.2 (fun w => hb (mm_cmp_0.mpr w))
                          refine u_lload_n (i := 1) (pc' := 101) dX11_isOwn_100 rfl rfl rfl ?_
                          refine u_ldc2 (z := 491328333172) (pc' := 104) dX11_isOwn_101 rfl wm_1541 (by decide) ?_
                          refine u_lcmp (pc' := 105) dX11_isOwn_104 rfl c1 ⟨by decide, by decide⟩ ?_
                          refine u_if_eq (tgt := 124) (pc' := 108) dX11_isOwn_105 rfl (by decide) (mm_cmp_R _ _) (fun hb => ?_) (fun hb => ?_)
                          · have h := h.1 (mm_cmp_0.mp hb)
                            refine u_iconst (pc' := 125) dX11_isOwn_124 rfl ?_
                            exact u_zret (b := true) dX11_isOwn_125 rfl rfl h
                          · have h := h.2 (fun w => hb (mm_cmp_0.mpr w))
                            refine u_lload_n (i := 1) (pc' := 109) dX11_isOwn_108 rfl rfl rfl ?_
                            refine u_ldc2 (z := 123581014175598) (pc' := 112) dX11_isOwn_109 rfl wm_1542 (by decide) ?_
                            refine u_lcmp (pc' := 113) dX11_isOwn_112 rfl c1 ⟨by decide, by decide⟩ ?_
                            refine u_if_eq (tgt := 124) (pc' := 116) dX11_isOwn_113 rfl (by decide) (mm_cmp_R _ _) (fun hb => ?_) (fun hb => ?_)
                            · have h := h.1 (mm_cmp_0.mp hb)
                              refine u_iconst (pc' := 125) dX11_isOwn_124 rfl ?_
                              exact u_zret (b := true) dX11_isOwn_125 rfl rfl h
                            · have h := h.2 (fun w => hb (mm_cmp_0.mpr w))
                              refine u_lload_n (i := 1) (pc' := 117) dX11_isOwn_116 rfl rfl rfl ?_
                              refine u_ldc2 (z := 465726301555) (pc' := 120) dX11_isOwn_117 rfl wm_1543 (by decide) ?_
                              refine u_lcmp (pc' := 121) dX11_isOwn_120 rfl c1 ⟨by decide, by decide⟩ ?_
                              refine u_if_ne (tgt := 126) (pc' := 124) dX11_isOwn_121 rfl (by decide) (mm_cmp_R _ _) (fun hb => ?_) (fun hb => ?_)
                              · have h := h.1 (mm_cmp_ne.mp hb)
                                refine u_lload_n (i := 1) (pc' := 127) dX11_isOwn_126 rfl rfl rfl ?_
                                refine u_ldc2 (z := 1701999219) (pc' := 130) dX11_isOwn_127 rfl wm_1544 (by decide) ?_
                                refine u_lcmp (pc' := 131) dX11_isOwn_130 rfl c1 ⟨by decide, by decide⟩ ?_
                                refine u_if_eq (tgt := 166) (pc' := 134) dX11_isOwn_131 rfl (by decide) (mm_cmp_R _ _) (fun hb => ?_) (fun hb => ?_)
                                · have h := h.1 (mm_cmp_0.mp hb)
                                  refine u_iconst (pc' := 167) dX11_isOwn_166 rfl ?_
                                  exact u_zret (b := true) dX11_isOwn_167 rfl rfl h
                                · have h := h.2 (fun w => hb (mm_cmp_0.mpr w))
                                  refine u_lload_n (i := 1) (pc' := 135) dX11_isOwn_134 rfl rfl rfl ?_
                                  refine u_ldc2 (z := 512970880104) (pc' := 138) dX11_isOwn_135 rfl wm_1545 (by decide) ?_
                                  refine u_lcmp (pc' := 139) dX11_isOwn_138 rfl c1 ⟨by decide, by decide⟩ ?_
                                  refine u_if_eq (tgt := 166) (pc' := 142) dX11_isOwn_139 rfl (by decide) (mm_cmp_R _ _) (fun hb => ?_) (fun hb => ?_)
                                  · have h := h.1 (mm_cmp_0.mp hb)
                                    refine u_iconst (pc' := 167) dX11_isOwn_166 rfl ?_
                                    exact u_zret (b := true) dX11_isOwn_167 rfl rfl h
                                  · have h := h.2 (fun w => hb (mm_cmp_0.mpr w))
                                    refine u_lload_n (i := 1) (pc' := 143) dX11_isOwn_142 rfl rfl rfl ?_
                                    refine u_ldc2 (z := 2003330414) (pc' := 146) dX11_isOwn_143 rfl wm_1546 (by decide) ?_
                                    refine u_lcmp (pc' := 147) dX11_isOwn_146 rfl c1 ⟨by decide, by decide⟩ ?_
                                    refine u_if_eq (tgt := 166) (pc' := 150) dX11_isOwn_147 rfl (by decide) (mm_cmp_R _ _) (fun hb => ?_) (fun hb => ?_)
                                    · have h := h.1 (mm_cmp_0.mp hb)
                                      refine u_iconst (pc' := 167) dX11_isOwn_166 rfl ?_
                                      exact u_zret (b := true) dX11_isOwn_167 rfl rfl h
                                    · have h := h.2 (fun w => hb (mm_cmp_0.mpr w))
                                      refine u_lload_n (i := 1) (pc' := 151) dX11_isOwn_150 rfl rfl rfl ?_
                                      refine u_ldc2 (z := 28530) (pc' := 154) dX11_isOwn_151 rfl wm_1547 (by decide) ?_
                                      refine u_lcmp (pc' := 155) dX11_isOwn_154 rfl c1 ⟨by decide, by decide⟩ ?_
                                      refine u_if_eq (tgt := 166) (pc' := 158) dX11_isOwn_155 rfl (by decide) (mm_cmp_R _ _) (fun hb => ?_) (fun hb => ?_)
                                      · have h := h.1 (mm_cmp_0.mp hb)
                                        refine u_iconst (pc' := 167) dX11_isOwn_166 rfl ?_
                                        exact u_zret (b := true) dX11_isOwn_167 rfl rfl h
                                      · have h := h.2 (fun w => hb (mm_cmp_0.mpr w))
                                        refine u_lload_n (i := 1) (pc' := 159) dX11_isOwn_158 rfl rfl rfl ?_
                                        refine u_ldc2 (z := 6385252) (pc' := 162) dX11_isOwn_159 rfl wm_1548 (by decide) ?_
                                        refine u_lcmp (pc' := 163) dX11_isOwn_162 rfl c1 ⟨by decide, by decide⟩ ?_
                                        refine u_if_ne (tgt := 168) (pc' := 166) dX11_isOwn_163 rfl (by decide) (mm_cmp_R _ _) (fun hb => ?_) (fun hb => ?_)
                                        · have h := h.1 (mm_cmp_ne.mp hb)
                                          refine u_lload_n (i := 1) (pc' := 169) dX11_isOwn_168 rfl rfl rfl ?_
                                          refine u_ldc2 (z := 7237492) (pc' := 172) dX11_isOwn_169 rfl wm_1549 (by decide) ?_
                                          refine u_lcmp (pc' := 173) dX11_isOwn_172 rfl c1 ⟨by decide, by decide⟩ ?_
                                          refine u_if_eq (tgt := 208) (pc' := 176) dX11_isOwn_173 rfl (by decide) (mm_cmp_R _ _) (fun hb => ?_) (fun hb => ?_)
                                          · have h := h.1 (mm_cmp_0.mp hb)
                                            refine u_iconst (pc' := 209) dX11_isOwn_208 rfl ?_
                                            exact u_zret (b := true) dX11_isOwn_209 rfl rfl h
                                          · have h := h.2 (fun w => hb (mm_cmp_0.mpr w))
                                            refine u_lload_n (i := 1) (pc' := 177) dX11_isOwn_176 rfl rfl rfl ?_
                                            refine u_ldc2 (z := 6384748) (pc' := 180) dX11_isOwn_177 rfl wm_1550 (by decide) ?_
                                            refine u_lcmp (pc' := 181) dX11_isOwn_180 rfl c1 ⟨by decide, by decide⟩ ?_
                                            refine u_if_eq (tgt := 208) (pc' := 184) dX11_isOwn_181 rfl (by decide) (mm_cmp_R _ _) (fun hb => ?_) (fun hb => ?_)
                                            · have h := h.1 (mm_cmp_0.mp hb)
                                              refine u_iconst (pc' := 209) dX11_isOwn_208 rfl ?_
                                              exact u_zret (b := true) dX11_isOwn_209 rfl rfl h
                                            · have h := h.2 (fun w => hb (mm_cmp_0.mpr w))
                                              refine u_lload_n (i := 1) (pc' := 185) dX11_isOwn_184 rfl rfl rfl ?_
                                              refine u_ldc2 (z := 7566701) (pc' := 188) dX11_isOwn_185 rfl wm_1551 (by decide) ?_
                                              refine u_lcmp (pc' := 189) dX11_isOwn_188 rfl c1 ⟨by decide, by decide⟩ ?_
                                              refine u_if_eq (tgt := 208) (pc' := 192) dX11_isOwn_189 rfl (by decide) (mm_cmp_R _ _) (fun hb => ?_) (fun hb => ?_)
                                              · have h := h.1 (mm_cmp_0.mp hb)
                                                refine u_iconst (pc' := 209) dX11_isOwn_208 rfl ?_
                                                exact u_zret (b := true) dX11_isOwn_209 rfl rfl h
                                              · have h := h.2 (fun w => hb (mm_cmp_0.mpr w))
                                                refine u_lload_n (i := 1) (pc' := 193) dX11_isOwn_192 rfl rfl rfl ?_
                                                refine u_ldc2 (z := 439855772532) (pc' := 196) dX11_isOwn_193 rfl wm_1552 (by decide) ?_
                                                refine u_lcmp (pc' := 197) dX11_isOwn_196 rfl c1 ⟨by decide, by decide⟩ ?_
                                                refine u_if_eq (tgt := 208) (pc' := 200) dX11_isOwn_197 rfl (by decide) (mm_cmp_R _ _) (fun hb => ?_) (fun hb => ?_)
                                                · have h := h.1 (mm_cmp_0.mp hb)
                                                  refine u_iconst (pc' := 209) dX11_isOwn_208 rfl ?_
                                                  exact u_zret (b := true) dX11_isOwn_209 rfl rfl h
                                                · have h := h.2 (fun w => hb (mm_cmp_0.mpr w))
                                                  refine u_lload_n (i := 1) (pc' := 201) dX11_isOwn_200 rfl rfl rfl ?_
                                                  refine u_ldc2 (z := 1818325876) (pc' := 204) dX11_isOwn_201 rfl wm_1553 (by decide) ?_
                                                  refine u_lcmp (pc' := 205) dX11_isOwn_204 rfl c1 ⟨by decide, by decide⟩ ?_
                                                  refine u_if_ne (tgt := 210) (pc' := 208) dX11_isOwn_205 rfl (by decide) (mm_cmp_R _ _) (fun hb => ?_) (fun hb => ?_)
                                                  · have h := h.1 (mm_cmp_ne.mp hb)
                                                    refine u_lload_n (i := 1) (pc' := 211) dX11_isOwn_210 rfl rfl rfl ?_
                                                    refine u_ldc2 (z := 7302244) (pc' := 214) dX11_isOwn_211 rfl wm_1554 (by decide) ?_
                                                    refine u_lcmp (pc' := 215) dX11_isOwn_214 rfl c1 ⟨by decide, by decide⟩ ?_
                                                    refine u_if_eq (tgt := 242) (pc' := 218) dX11_isOwn_215 rfl (by decide) (mm_cmp_R _ _) (fun hb => ?_) (fun hb => ?_)
                                                    · have h := h.1 (mm_cmp_0.mp hb)
                                                      refine u_iconst (pc' := 243) dX11_isOwn_242 rfl ?_
                                                      exact u_zret (b := true) dX11_isOwn_243 rfl rfl h
                                                    · have h := h.2 (fun w => hb (mm_cmp_0.mpr w))
                                                      refine u_lload_n (i := 1) (pc' := 219) dX11_isOwn_218 rfl rfl rfl ?_
                                                      refine u_ldc2 (z := 1751478885) (pc' := 222) dX11_isOwn_219 rfl wm_1555 (by decide) ?_
                                                      refine u_lcmp (pc' := 223) dX11_isOwn_222 rfl c1 ⟨by decide, by decide⟩ ?_
                                                      refine u_if_eq (tgt := 242) (pc' := 226) dX11_isOwn_223 rfl (by decide) (mm_cmp_R _ _) (fun hb => ?_) (fun hb => ?_)
                                                      · have h := h.1 (mm_cmp_0.mp hb)
                                                        refine u_iconst (pc' := 243) dX11_isOwn_242 rfl ?_
                                                        exact u_zret (b := true) dX11_isOwn_243 rfl rfl h
                                                      · have h := h.2 (fun w => hb (mm_cmp_0.mpr w))
                                                        refine u_lload_n (i := 1) (pc' := 227) dX11_isOwn_226 rfl rfl rfl ?_
                                                        refine u_ldc2 (z := 7170414) (pc' := 230) dX11_isOwn_227 rfl wm_1556 (by decide) ?_
                                                        refine u_lcmp (pc' := 231) dX11_isOwn_230 rfl c1 ⟨by decide, by decide⟩ ?_
                                                        refine u_if_eq (tgt := 242) (pc' := 234) dX11_isOwn_231 rfl (by decide) (mm_cmp_R _ _) (fun hb => ?_) (fun hb => ?_)
                                                        · have h := h.1 (mm_cmp_0.mp hb)
                                                          refine u_iconst (pc' := 243) dX11_isOwn_242 rfl ?_
                                                          exact u_zret (b := true) dX11_isOwn_243 rfl rfl h
                                                        · have h := h.2 (fun w => hb (mm_cmp_0.mpr w))
                                                          refine u_lload_n (i := 1) (pc' := 235) dX11_isOwn_234 rfl rfl rfl ?_
                                                          refine u_ldc2 (z := 7168376) (pc' := 238) dX11_isOwn_235 rfl wm_1557 (by decide) ?_
                                                          refine u_lcmp (pc' := 239) dX11_isOwn_238 rfl c1 ⟨by decide, by decide⟩ ?_
                                                          refine u_if_ne (tgt := 244) (pc' := 242) dX11_isOwn_239 rfl (by decide) (mm_cmp_R _ _) (fun hb => ?_) (fun hb => ?_)
                                                          · have h := h.1 (mm_cmp_ne.mp hb)
                                                            refine u_iconst (pc' := 245) dX11_isOwn_244 rfl ?_
                                                            exact u_zret (b := false) dX11_isOwn_245 rfl rfl h
                                                          · have h := h.2 (mm_cmp_0.mp hb)
                                                            refine u_iconst (pc' := 243) dX11_isOwn_242 rfl ?_
                                                            exact u_zret (b := true) dX11_isOwn_243 rfl rfl h
                                                  · have h := h.2 (mm_cmp_0.mp hb)
                                                    refine u_iconst (pc' := 209) dX11_isOwn_208 rfl ?_
                                                    exact u_zret (b := true) dX11_isOwn_209 rfl rfl h
                                        · have h := h.2 (mm_cmp_0.mp hb)
                                          refine u_iconst (pc' := 167) dX11_isOwn_166 rfl ?_
                                          exact u_zret (b := true) dX11_isOwn_167 rfl rfl h
                              · have h := h.2 (mm_cmp_0.mp hb)
                                refine u_iconst (pc' := 125) dX11_isOwn_124 rfl ?_
                                exact u_zret (b := true) dX11_isOwn_125 rfl rfl h
                    · have h := h.2 (mm_cmp_0.mp hb)
                      refine u_iconst (pc' := 83) dX11_isOwn_82 rfl ?_
                      exact u_zret (b := true) dX11_isOwn_83 rfl rfl h
          · have h := h.2 (mm_cmp_0.mp hb)
            refine u_iconst (pc' := 41) dX11_isOwn_40 rfl ?_
            exact u_zret (b := true) dX11_isOwn_41 rfl rfl h
theorem mX11_isOwn {E : mm_Env} {d : Nat} {τ : mm_Mem} {Q : mm_Q0} {a0 : Int} (h : inL a0 ∧ ((a0 = 474316301683 → Q (some (vB true)) τ) ∧ (¬ a0 = 474316301683 → ((a0 = 1819242087 → Q (some (vB true)) τ) ∧ (¬ a0 = 1819242087 → ((a0 = 1953853029 → Q (some (vB true)) τ) ∧ (¬ a0 = 1953853029 → ((a0 = 1801807216 → Q (some (vB true)) τ) ∧ (¬ a0 = 1801807216 → ((a0 ≠ 482854658917 → ((a0 = 1852798053 → Q (some (vB true)) τ) ∧ (¬ a0 = 1852798053 → ((a0 = 1801810036 → Q (some (vB true)) τ) ∧ (¬ a0 = 1801810036 → ((a0 = 1685024626 → Q (some (vB true)) τ) ∧ (¬ a0 = 1685024626 → ((a0 = 126943972909940 → Q (some (vB true)) τ) ∧ (¬ a0 = 126943972909940 → ((a0 ≠ 131294707347319 → ((a0 = 1885432178 → Q (some (vB true)) τ) ∧ (¬ a0 = 1885432178 → ((a0 = 7104880 → Q (some (vB true)) τ) ∧ (¬ a0 = 7104880 → ((a0 = 491328333172 → Q (some (vB true)) τ) ∧ (¬ a0 = 491328333172 → ((a0 = 123581014175598 → Q (some (vB true)) τ) ∧ (¬ a0 = 123581014175598 → ((a0 ≠ 465726301555 → ((a0 = 1701999219 → Q (some (vB true)) τ) ∧ (¬ a0 = 1701999219 → ((a0 = 512970880104 → Q (some (vB true)) τ) ∧ (¬ a0 = 512970880104 → ((a0 = 2003330414 → Q (some (vB true)) τ) ∧ (¬ a0 = 2003330414 → ((a0 = 28530 → Q (some (vB true)) τ) ∧ (¬ a0 = 28530 → ((a0 ≠ 6385252 → ((a0 = 7237492 → Q (some (vB true)) τ) ∧ (¬ a0 = 7237492 → ((a0 = 6384748 → Q (some (vB true)) τ) ∧ (¬ a0 = 6384748 → ((a0 = 7566701 → Q (some (vB true)) τ) ∧ (¬ a0 = 7566701 → ((a0 = 439855772532 → Q (some (vB true)) τ) ∧ (¬ a0 = 439855772532 → ((a0 ≠ 1818325876 → ((a0 = 7302244 → Q (some (vB true)) τ) ∧ (¬ a0 = 7302244 → ((a0 = 1751478885 → Q (some (vB true)) τ) ∧ (¬ a0 = 1751478885 → ((a0 = 7170414 → Q (some (vB true)) τ) ∧ (¬ a0 = 7170414 → ((a0 ≠ 7168376 → Q (some (vB false)) τ) ∧ (a0 = 7168376 → Q (some (vB true)) τ))))))))) ∧ (a0 = 1818325876 → Q (some (vB true)) τ))))))))))) ∧ (a0 = 6385252 → Q (some (vB true)) τ))))))))))) ∧ (a0 = 465726301555 → Q (some (vB true)) τ))))))))))) ∧ (a0 = 131294707347319 → Q (some (vB true)) τ))))))))))) ∧ (a0 = 482854658917 → Q (some (vB true)) τ))))))))))) : M0 E d qX11_isOwn [vR 140, vL a0] τ Q := M0_of rfl (Nat.le_of_ble_eq_true rfl) [some (vR 140), some (vL a0), none] rfl (bX11_isOwn_0  h)
set_option maxRecDepth 20000 in
theorem bX11_named_0 {E : mm_Env} {d : Nat} {τ : mm_Mem} {Q : mm_Q0} {a0 : Int} {a1 : Int} (h : inR a0 ∧ ((a0 ≠ 0 → ((a0 ≠ 1 → 0 ≤ (τ 140 39) ∧ (τ 140 39) < 2 ∧ V0 E (d + 1) qX11_named 47 [some (vR 140), some (vI a0), some (vL a1), none, some (vI (τ 157 (τ 140 39).toNat)), some (vI 0)] [] τ Q) ∧ (a0 = 1 → 0 ≤ (τ 140 39) ∧ (τ 140 39) < 2 ∧ V0 E (d + 1) qX11_named 47 [some (vR 140), some (vI a0), some (vL a1), none, some (vI (τ 152 (τ 140 39).toNat)), some (vI 0)] [] τ Q))) ∧ (a0 = 0 → 0 ≤ (τ 140 39) ∧ (τ 140 39) < 2 ∧ V0 E (d + 1) qX11_named 47 [some (vR 140), some (vI a0), some (vL a1), none, some (vI (τ 144 (τ 140 39).toNat)), some (vI 0)] [] τ Q))) : V0 E (d + 1) qX11_named 0 [some (vR 140), some (vI a0), some (vL a1), none, none, none] [] τ Q := by
  refine u_iload_n (i := 1) (pc' := 1) dX11_named_0 rfl rfl rfl ?_
  obtain ⟨c1, h⟩ := h
  refine u_if_ne (tgt := 16) (pc' := 4) dX11_named_1 rfl (by decide) c1 (fun hb => ?_) (fun hb => ?_)
  · have h := h.1 hb
    refine u_iload_n (i := 1) (pc' := 17) dX11_named_16 rfl rfl rfl ?_
    refine u_iconst (pc' := 18) dX11_named_17 rfl ?_
    refine u_icmp_ne (tgt := 33) (pc' := 21) dX11_named_18 rfl (by decide) c1 ⟨by decide, by decide⟩ (fun hb => ?_) (fun hb => ?_)
    · have h := h.1 hb
      refine u_aload_n (i := 0) (pc' := 34) dX11_named_33 rfl rfl rfl ?_
      refine u_getR (a := 157) (pc' := 37) dX11_named_34 rfl fl_TuneDoorModel_97 rfl (by decide) kd_140 rfl ?_
      refine u_aload_n (i := 0) (pc' := 38) dX11_named_37 rfl rfl rfl ?_
      refine u_getI (z := (τ 140 39)) (pc' := 41) dX11_named_38 rfl fl_TuneDoorModel_130 rfl (by decide) (by decide) kd_140 rfl (fun r2 => ?_)
      obtain ⟨c3, c4, h⟩ := h
      refine u_iaload (k := (τ 140 39).toNat) (z := (τ 157 (τ 140 39).toNat)) (pc' := 42) dX11_named_41 rfl (by decide) kd_157 c3 c4 (by decide) rfl rfl (fun r5 => ?_)
      refine s_istore (i := 4) (ls' := [some (vR 140), some (vI a0), some (vL a1), none, some (vI (τ 157 (τ 140 39).toNat)), none]) (pc' := 44) dX11_named_42 rfl (Nat.le_of_ble_eq_true rfl) rfl rfl ?_
      refine u_iconst (pc' := 45) dX11_named_44 rfl ?_
      refine s_istore (i := 5) (ls' := [some (vR 140), some (vI a0), some (vL a1), none, some (vI (τ 157 (τ 140 39).toNat)), some (vI 0)]) (pc' := 47) dX11_named_45 rfl (Nat.le_of_ble_eq_true rfl) rfl rfl ?_
      exact u_less (ls' := [some (vR 140), some (vI a0), some (vL a1), none, some (vI (τ 157 (τ 140 39).toNat)), some (vI 0)]) ⟨rfl, ⟨rfl, ⟨rfl, ⟨rfl, ⟨rfl, trivial⟩⟩⟩⟩⟩ h
    · have h := h.2 hb
      refine u_aload_n (i := 0) (pc' := 22) dX11_named_21 rfl rfl rfl ?_
      refine u_getR (a := 152) (pc' := 25) dX11_named_22 rfl fl_TuneDoorModel_82 rfl (by decide) kd_140 rfl ?_
      refine u_aload_n (i := 0) (pc' := 26) dX11_named_25 rfl rfl rfl ?_
      refine u_getI (z := (τ 140 39)) (pc' := 29) dX11_named_26 rfl fl_TuneDoorModel_130 rfl (by decide) (by decide) kd_140 rfl (fun r6 => ?_)
      obtain ⟨c7, c8, h⟩ := h
      refine u_iaload (k := (τ 140 39).toNat) (z := (τ 152 (τ 140 39).toNat)) (pc' := 30) dX11_named_29 rfl (by decide) kd_152 c7 c8 (by decide) rfl rfl (fun r9 => ?_)
      refine u_goto (tgt := 42) dX11_named_30 (by decide) ?_
      refine s_istore (i := 4) (ls' := [some (vR 140), some (vI a0), some (vL a1), none, some (vI (τ 152 (τ 140 39).toNat)), none]) (pc' := 44) dX11_named_42 rfl (Nat.le_of_ble_eq_true rfl) rfl rfl ?_
      refine u_iconst (pc' := 45) dX11_named_44 rfl ?_
      refine s_istore (i := 5) (ls' := [some (vR 140), some (vI a0), some (vL a1), none, some (vI (τ 152 (τ 140 39).toNat)), some (vI 0)]) (pc' := 47) dX11_named_45 rfl (Nat.le_of_ble_eq_true rfl) rfl rfl ?_
      exact u_less (ls' := [some (vR 140), some (vI a0), some (vL a1), none, some (vI (τ 152 (τ 140 39).toNat)), some (vI 0)]) ⟨rfl, ⟨rfl, ⟨rfl, ⟨rfl, ⟨rfl, trivial⟩⟩⟩⟩⟩ h
  · have h := h.2 hb
    refine u_aload_n (i := 0) (pc' := 5) dX11_named_4 rfl rfl rfl ?_
    refine u_getR (a := 144) (pc' := 8) dX11_named_5 rfl fl_TuneDoorModel_57 rfl (by decide) kd_140 rfl ?_
    refine u_aload_n (i := 0) (pc' := 9) dX11_named_8 rfl rfl rfl ?_
    refine u_getI (z := (τ 140 39)) (pc' := 12) dX11_named_9 rfl fl_TuneDoorModel_130 rfl (by decide) (by decide) kd_140 rfl (fun r10 => ?_)
    obtain ⟨c11, c12, h⟩ := h
    refine u_iaload (k := (τ 140 39).toNat) (z := (τ 144 (τ 140 39).toNat)) (pc' := 13) dX11_named_12 rfl (by decide) kd_144 c11 c12 (by decide) rfl rfl (fun r13 => ?_)
    refine u_goto (tgt := 42) dX11_named_13 (by decide) ?_
    refine s_istore (i := 4) (ls' := [some (vR 140), some (vI a0), some (vL a1), none, some (vI (τ 144 (τ 140 39).toNat)), none]) (pc' := 44) dX11_named_42 rfl (Nat.le_of_ble_eq_true rfl) rfl rfl ?_
    refine u_iconst (pc' := 45) dX11_named_44 rfl ?_
    refine s_istore (i := 5) (ls' := [some (vR 140), some (vI a0), some (vL a1), none, some (vI (τ 144 (τ 140 39).toNat)), some (vI 0)]) (pc' := 47) dX11_named_45 rfl (Nat.le_of_ble_eq_true rfl) rfl rfl ?_
    exact u_less (ls' := [some (vR 140), some (vI a0), some (vL a1), none, some (vI (τ 144 (τ 140 39).toNat)), some (vI 0)]) ⟨rfl, ⟨rfl, ⟨rfl, ⟨rfl, ⟨rfl, trivial⟩⟩⟩⟩⟩ h
theorem mX11_named {E : mm_Env} {d : Nat} {τ : mm_Mem} {Q : mm_Q0} {a0 : Int} {a1 : Int} (h : inR a0 ∧ ((a0 ≠ 0 → ((a0 ≠ 1 → 0 ≤ (τ 140 39) ∧ (τ 140 39) < 2 ∧ V0 E (d + 1) qX11_named 47 [some (vR 140), some (vI a0), some (vL a1), none, some (vI (τ 157 (τ 140 39).toNat)), some (vI 0)] [] τ Q) ∧ (a0 = 1 → 0 ≤ (τ 140 39) ∧ (τ 140 39) < 2 ∧ V0 E (d + 1) qX11_named 47 [some (vR 140), some (vI a0), some (vL a1), none, some (vI (τ 152 (τ 140 39).toNat)), some (vI 0)] [] τ Q))) ∧ (a0 = 0 → 0 ≤ (τ 140 39) ∧ (τ 140 39) < 2 ∧ V0 E (d + 1) qX11_named 47 [some (vR 140), some (vI a0), some (vL a1), none, some (vI (τ 144 (τ 140 39).toNat)), some (vI 0)] [] τ Q))) : M0 E (d + 1) qX11_named [vR 140, vI a0, vL a1] τ Q := M0_of rfl (Nat.le_of_ble_eq_true rfl) [some (vR 140), some (vI a0), some (vL a1), none, none, none] rfl (bX11_named_0  h)
set_option maxRecDepth 20000 in
theorem bX11_named_47 {E : mm_Env} {d : Nat} {τ : mm_Mem} {Q : mm_Q0} {x1 : Int} {x2 : Int} {x4 : Int} {x5 : Int} (h : inR x5 ∧ inR x4 ∧ ((x4 ≤ x5 → Q (some (vI (-1))) τ) ∧ (¬ x4 ≤ x5 → M0 E d qX11_nameOf [vR 140, vI (τ 140 39), vI x1, vI x5] τ (fun v τ4 => ∃ r5 : Int, v = some (vL r5) ∧ inL r5 ∧ inL x2 ∧ ((r5 ≠ x2 → V0 E (d + 1) qX11_named 47 [some (vR 140), some (vI x1), some (vL x2), none, some (vI x4), some (vI (x5 + 1))] [] τ4 Q) ∧ (r5 = x2 → Q (some (vI x5)) τ4)))))) : V0 E (d + 1) qX11_named 47 [some (vR 140), some (vI x1), some (vL x2), none, some (vI x4), some (vI x5)] [] τ Q := by
  refine u_iload (i := 5) (pc' := 49) dX11_named_47 rfl rfl ?_
  refine u_iload (i := 4) (pc' := 51) dX11_named_49 rfl rfl ?_
  obtain ⟨c1, c2, h⟩ := h
  refine u_icmp_ge (tgt := 79) (pc' := 54) dX11_named_51 rfl (by decide) c1 c2 (fun hb => ?_) (fun hb => ?_)
  · have h := h.1 hb
    refine u_iconst (pc' := 80) dX11_named_79 rfl ?_
    exact u_iret dX11_named_80 rfl h
  · have h := h.2 hb
    refine u_aload_n (i := 0) (pc' := 55) dX11_named_54 rfl rfl rfl ?_
    refine u_aload_n (i := 0) (pc' := 56) dX11_named_55 rfl rfl rfl ?_
    refine u_getI (z := (τ 140 39)) (pc' := 59) dX11_named_56 rfl fl_TuneDoorModel_130 rfl (by decide) (by decide) kd_140 rfl (fun r3 => ?_)
    refine u_iload_n (i := 1) (pc' := 60) dX11_named_59 rfl rfl rfl ?_
    refine u_iload (i := 5) (pc' := 62) dX11_named_60 rfl rfl ?_
    refine u_invV (q' := qX11_nameOf) (As := [vI (τ 140 39), vI x1, vI x5]) (st := []) (pc' := 65) dX11_named_62 rfl gX11_nameOf wm_1562 rfl rfl (by decide) kd_140 wm_1564 wp_88 rfl (Nat.le_of_ble_eq_true rfl) (M0.mono h (fun v τ4 h => ?_))
    obtain ⟨r5, rfl, h⟩ := h
    show V0 E (d + 1) qX11_named 65 [some (vR 140), some (vI x1), some (vL x2), none, some (vI x4), some (vI x5)] [vL r5] τ4 Q
    refine u_lload_n (i := 2) (pc' := 66) dX11_named_65 rfl rfl rfl ?_
    obtain ⟨c6, c7, h⟩ := h
    refine u_lcmp (pc' := 67) dX11_named_66 rfl c6 c7 ?_
    refine u_if_ne (tgt := 73) (pc' := 70) dX11_named_67 rfl (by decide) (mm_cmp_R _ _) (fun hb => ?_) (fun hb => ?_)
    · have h := h.1 (mm_cmp_ne.mp hb)
      refine s_iinc (i := 5) (ls' := [some (vR 140), some (vI x1), some (vL x2), none, some (vI x4), some (vI (x5 + 1))]) (pc' := 76) dX11_named_73 rfl rfl (Nat.le_of_ble_eq_true rfl) rfl rfl ?_
      refine u_goto (tgt := 47) dX11_named_76 (by decide) ?_
      exact u_less (ls' := [some (vR 140), some (vI x1), some (vL x2), none, some (vI x4), some (vI (x5 + 1))]) ⟨rfl, ⟨rfl, ⟨rfl, ⟨rfl, ⟨rfl, trivial⟩⟩⟩⟩⟩ h
    · have h := h.2 (mm_cmp_0.mp hb)
      refine u_iload (i := 5) (pc' := 72) dX11_named_70 rfl rfl ?_
      exact u_iret dX11_named_72 rfl h
