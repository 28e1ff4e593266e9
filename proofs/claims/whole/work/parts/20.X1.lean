set_option maxRecDepth 20000 in
theorem bX1_begin_0 {E : mm_Env} {d : Nat} {τ : mm_Mem} {Q : mm_Q0} {a0 : Int} {a1 : Int} (h : M0 E d qJ9_min_7cf53 [vI a0, vI 5] τ (fun v τ1 => ∃ r2 : Int, v = some (vI r2) ∧ M0 E d qJ9_max_7cf53 [vI 2, vI r2] τ1 (fun v τ3 => ∃ r4 : Int, v = some (vI r4) ∧ inR r4 ∧ M0 E d qJ9_min_7cf53 [vI a1, vI 6] (wr τ3 136 1 r4) (fun v τ6 => ∃ r7 : Int, v = some (vI r7) ∧ M0 E d qJ9_max_7cf53 [vI 2, vI r7] τ6 (fun v τ8 => ∃ r9 : Int, v = some (vI r9) ∧ inR r9 ∧ inR (((τ8 136 1) * (τ8 136 1)) * (r9 - 1)) ∧ V0 E (d + 1) qX1_begin 49 [some (vR 136), none, none, some (vI 0)] [] (wr (wr τ8 136 2 r9) 136 3 (((τ8 136 1) * (τ8 136 1)) * (r9 - 1))) Q))))) : V0 E (d + 1) qX1_begin 0 [some (vR 136), some (vI a0), some (vI a1), none] [] τ Q := by
  refine u_aload_n (i := 0) (pc' := 1) dX1_begin_0 rfl rfl rfl ?_
  refine u_iconst (pc' := 2) dX1_begin_1 rfl ?_
  refine u_iload_n (i := 1) (pc' := 3) dX1_begin_2 rfl rfl rfl ?_
  refine u_iconst (pc' := 4) dX1_begin_3 rfl ?_
  refine u_invS (q' := qJ9_min_7cf53) (As := [vI a0, vI 5]) (st := [vI 2, vR 136]) (pc' := 7) dX1_begin_4 rfl gJ9_min_7cf53 wm_1090 wm_530 rfl (Nat.le_of_ble_eq_true rfl) (M0.mono h (fun v τ1 h => ?_))
  obtain ⟨r2, rfl, h⟩ := h
  show V0 E (d + 1) qX1_begin 7 [some (vR 136), some (vI a0), some (vI a1), none] [vI r2, vI 2, vR 136] τ1 Q
  refine u_invS (q' := qJ9_max_7cf53) (As := [vI 2, vI r2]) (st := [vR 136]) (pc' := 10) dX1_begin_7 rfl gJ9_max_7cf53 wm_1091 wm_814 rfl (Nat.le_of_ble_eq_true rfl) (M0.mono h (fun v τ3 h => ?_))
  obtain ⟨r4, rfl, h⟩ := h
  show V0 E (d + 1) qX1_begin 10 [some (vR 136), some (vI a0), some (vI a1), none] [vI r4, vR 136] τ3 Q
  obtain ⟨c5, h⟩ := h
  refine u_putI (pc' := 13) dX1_begin_10 rfl fl_TuneDoor_Forms_15 rfl rfl (by decide) (by decide) kd_136 c5 ?_
  refine u_aload_n (i := 0) (pc' := 14) dX1_begin_13 rfl rfl rfl ?_
  refine u_iconst (pc' := 15) dX1_begin_14 rfl ?_
  refine u_iload_n (i := 2) (pc' := 16) dX1_begin_15 rfl rfl rfl ?_
  refine u_bipush (pc' := 18) dX1_begin_16 rfl (by decide) ?_
  refine u_invS (q' := qJ9_min_7cf53) (As := [vI a1, vI 6]) (st := [vI 2, vR 136]) (pc' := 21) dX1_begin_18 rfl gJ9_min_7cf53 wm_1090 wm_530 rfl (Nat.le_of_ble_eq_true rfl) (M0.mono h (fun v τ6 h => ?_))
  obtain ⟨r7, rfl, h⟩ := h
  show V0 E (d + 1) qX1_begin 21 [some (vR 136), some (vI a0), some (vI a1), none] [vI r7, vI 2, vR 136] τ6 Q
  refine u_invS (q' := qJ9_max_7cf53) (As := [vI 2, vI r7]) (st := [vR 136]) (pc' := 24) dX1_begin_21 rfl gJ9_max_7cf53 wm_1091 wm_814 rfl (Nat.le_of_ble_eq_true rfl) (M0.mono h (fun v τ8 h => ?_))
  obtain ⟨r9, rfl, h⟩ := h
  show V0 E (d + 1) qX1_begin 24 [some (vR 136), some (vI a0), some (vI a1), none] [vI r9, vR 136] τ8 Q
  obtain ⟨c10, h⟩ := h
  refine u_putI (pc' := 27) dX1_begin_24 rfl fl_TuneDoor_Forms_19 rfl rfl (by decide) (by decide) kd_136 c10 ?_
  refine u_aload_n (i := 0) (pc' := 28) dX1_begin_27 rfl rfl rfl ?_
  refine u_aload_n (i := 0) (pc' := 29) dX1_begin_28 rfl rfl rfl ?_
  refine u_getI (z := (τ8 136 1)) (pc' := 32) dX1_begin_29 rfl fl_TuneDoor_Forms_15 rfl (by decide) (by decide) kd_136 rfl (fun r11 => ?_)
  refine u_aload_n (i := 0) (pc' := 33) dX1_begin_32 rfl rfl rfl ?_
  refine u_getI (z := (τ8 136 1)) (pc' := 36) dX1_begin_33 rfl fl_TuneDoor_Forms_15 rfl (by decide) (by decide) kd_136 rfl (fun r12 => ?_)
  refine u_imul (pc' := 37) dX1_begin_36 rfl ?_
  refine u_aload_n (i := 0) (pc' := 38) dX1_begin_37 rfl rfl rfl ?_
  refine u_getI (z := r9) (pc' := 41) dX1_begin_38 rfl fl_TuneDoor_Forms_19 rfl (by decide) (by decide) kd_136 rfl (fun r13 => ?_)
  refine u_iconst (pc' := 42) dX1_begin_41 rfl ?_
  refine u_isub (pc' := 43) dX1_begin_42 rfl ?_
  refine u_imul (pc' := 44) dX1_begin_43 rfl ?_
  obtain ⟨c14, h⟩ := h
  refine u_putI (pc' := 47) dX1_begin_44 rfl fl_TuneDoor_Forms_31 rfl rfl (by decide) (by decide) kd_136 c14 ?_
  refine u_iconst (pc' := 48) dX1_begin_47 rfl ?_
  refine s_istore_n (i := 3) (ls' := [some (vR 136), some (vI a0), some (vI a1), some (vI 0)]) (pc' := 49) dX1_begin_48 rfl rfl (Nat.le_of_ble_eq_true rfl) rfl rfl ?_
  exact u_less (ls' := [some (vR 136), none, none, some (vI 0)]) ⟨rfl, ⟨rfl, trivial⟩⟩ h
theorem mX1_begin {E : mm_Env} {d : Nat} {τ : mm_Mem} {Q : mm_Q0} {a0 : Int} {a1 : Int} (h : M0 E d qJ9_min_7cf53 [vI a0, vI 5] τ (fun v τ1 => ∃ r2 : Int, v = some (vI r2) ∧ M0 E d qJ9_max_7cf53 [vI 2, vI r2] τ1 (fun v τ3 => ∃ r4 : Int, v = some (vI r4) ∧ inR r4 ∧ M0 E d qJ9_min_7cf53 [vI a1, vI 6] (wr τ3 136 1 r4) (fun v τ6 => ∃ r7 : Int, v = some (vI r7) ∧ M0 E d qJ9_max_7cf53 [vI 2, vI r7] τ6 (fun v τ8 => ∃ r9 : Int, v = some (vI r9) ∧ inR r9 ∧ inR (((τ8 136 1) * (τ8 136 1)) * (r9 - 1)) ∧ V0 E (d + 1) qX1_begin 49 [some (vR 136), none, none, some (vI 0)] [] (wr (wr τ8 136 2 r9) 136 3 (((τ8 136 1) * (τ8 136 1)) * (r9 - 1))) Q))))) : M0 E (d + 1) qX1_begin [vR 136, vI a0, vI a1] τ Q := M0_of rfl (Nat.le_of_ble_eq_true rfl) [some (vR 136), some (vI a0), some (vI a1), none] rfl (bX1_begin_0  h)
set_option maxRecDepth 20000 in
theorem bX1_begin_49 {E : mm_Env} {d : Nat} {τ : mm_Mem} {Q : mm_Q0} {x3 : Int} (h : inR x3 ∧ (((τ 136 3) ≤ x3 → Q none τ) ∧ (¬ (τ 136 3) ≤ x3 → 0 ≤ x3 ∧ x3 < 125 ∧ V0 E (d + 1) qX1_begin 49 [some (vR 136), none, none, some (vI (x3 + 1))] [] (wr τ 137 x3.toNat 1) Q))) : V0 E (d + 1) qX1_begin 49 [some (vR 136), none, none, some (vI x3)] [] τ Q := by
  refine u_iload_n (i := 3) (pc' := 50) dX1_begin_49 rfl rfl rfl ?_
  refine u_aload_n (i := 0) (pc' := 51) dX1_begin_50 rfl rfl rfl ?_
  refine u_getI (z := (τ 136 3)) (pc' := 54) dX1_begin_51 rfl fl_TuneDoor_Forms_31 rfl (by decide) (by decide) kd_136 rfl (fun r1 => ?_)
  obtain ⟨c2, h⟩ := h
  refine u_icmp_ge (tgt := 70) (pc' := 57) dX1_begin_54 rfl (by decide) c2 r1 (fun hb => ?_) (fun hb => ?_)
  · have h := h.1 hb
    exact u_ret dX1_begin_70 rfl h
  · have h := h.2 hb
    refine u_aload_n (i := 0) (pc' := 58) dX1_begin_57 rfl rfl rfl ?_
    refine u_getR (a := 137) (pc' := 61) dX1_begin_58 rfl fl_TuneDoor_Forms_9 rfl (by decide) kd_136 rfl ?_
    refine u_iload_n (i := 3) (pc' := 62) dX1_begin_61 rfl rfl rfl ?_
    refine u_iconst (pc' := 63) dX1_begin_62 rfl ?_
    obtain ⟨c3, c4, h⟩ := h
    refine u_bastore (k := x3.toNat) (b := true) (pc' := 64) dX1_begin_63 rfl (by decide) kd_137 c3 c4 (by decide) rfl rfl ?_
    refine s_iinc (i := 3) (ls' := [some (vR 136), none, none, some (vI (x3 + 1))]) (pc' := 67) dX1_begin_64 rfl rfl (Nat.le_of_ble_eq_true rfl) rfl rfl ?_
    refine u_goto (tgt := 49) dX1_begin_67 (by decide) ?_
    exact u_less (ls' := [some (vR 136), none, none, some (vI (x3 + 1))]) ⟨rfl, ⟨rfl, trivial⟩⟩ h
set_option maxRecDepth 20000 in
theorem bX1_narrow_0 {E : mm_Env} {d : Nat} {τ : mm_Mem} {Q : mm_Q0} {a0 : Int} {a1 : Int} (h : V0 E (d + 1) qX1_narrow 2 [some (vR 136), some (vI a0), some (vI a1), some (vI 0)] [] τ Q) : V0 E (d + 1) qX1_narrow 0 [some (vR 136), some (vI a0), some (vI a1), none] [] τ Q := by
  refine u_iconst (pc' := 1) dX1_narrow_0 rfl ?_
  refine s_istore_n (i := 3) (ls' := [some (vR 136), some (vI a0), some (vI a1), some (vI 0)]) (pc' := 2) dX1_narrow_1 rfl rfl (Nat.le_of_ble_eq_true rfl) rfl rfl ?_
  exact u_less (ls' := [some (vR 136), some (vI a0), some (vI a1), some (vI 0)]) ⟨rfl, ⟨rfl, ⟨rfl, ⟨rfl, trivial⟩⟩⟩⟩ h
theorem mX1_narrow {E : mm_Env} {d : Nat} {τ : mm_Mem} {Q : mm_Q0} {a0 : Int} {a1 : Int} (h : V0 E (d + 1) qX1_narrow 2 [some (vR 136), some (vI a0), some (vI a1), some (vI 0)] [] τ Q) : M0 E (d + 1) qX1_narrow [vR 136, vI a0, vI a1] τ Q := M0_of rfl (Nat.le_of_ble_eq_true rfl) [some (vR 136), some (vI a0), some (vI a1), none] rfl (bX1_narrow_0  h)
set_option maxRecDepth 20000 in
theorem bX1_narrow_2 {E : mm_Env} {d : Nat} {τ : mm_Mem} {Q : mm_Q0} {x1 : Int} {x2 : Int} {x3 : Int} (h : inR x3 ∧ (((τ 136 3) ≤ x3 → Q none τ) ∧ (¬ (τ 136 3) ≤ x3 → 0 ≤ x3 ∧ x3 < 125 ∧ (((τ 137 x3.toNat) = 0 → 0 ≤ x3 ∧ x3 < 125 ∧ V0 E (d + 1) qX1_narrow 2 [some (vR 136), some (vI x1), some (vI x2), some (vI (x3 + 1))] [] (wr τ 137 x3.toNat 0) Q) ∧ (¬ (τ 137 x3.toNat) = 0 → M0 E d qX1_nextBy [vR 136, vI x3, vI x1] τ (fun v τ8 => ∃ r9 : Int, v = some (vI r9) ∧ inR r9 ∧ inR x2 ∧ ((r9 ≠ x2 → 0 ≤ x3 ∧ x3 < 125 ∧ V0 E (d + 1) qX1_narrow 2 [some (vR 136), some (vI x1), some (vI x2), some (vI (x3 + 1))] [] (wr τ8 137 x3.toNat 0) Q) ∧ (r9 = x2 → 0 ≤ x3 ∧ x3 < 125 ∧ V0 E (d + 1) qX1_narrow 2 [some (vR 136), some (vI x1), some (vI x2), some (vI (x3 + 1))] [] (wr τ8 137 x3.toNat 1) Q)))))))) : V0 E (d + 1) qX1_narrow 2 [some (vR 136), some (vI x1), some (vI x2), some (vI x3)] [] τ Q := by
  refine u_iload_n (i := 3) (pc' := 3) dX1_narrow_2 rfl rfl rfl ?_
  refine u_aload_n (i := 0) (pc' := 4) dX1_narrow_3 rfl rfl rfl ?_
  refine u_getI (z := (τ 136 3)) (pc' := 7) dX1_narrow_4 rfl fl_TuneDoor_Forms_31 rfl (by decide) (by decide) kd_136 rfl (fun r1 => ?_)
  obtain ⟨c2, h⟩ := h
  refine u_icmp_ge (tgt := 46) (pc' := 10) dX1_narrow_7 rfl (by decide) c2 r1 (fun hb => ?_) (fun hb => ?_)
  · have h := h.1 hb
    exact u_ret dX1_narrow_46 rfl h
  · have h := h.2 hb
    refine u_aload_n (i := 0) (pc' := 11) dX1_narrow_10 rfl rfl rfl ?_
    refine u_getR (a := 137) (pc' := 14) dX1_narrow_11 rfl fl_TuneDoor_Forms_9 rfl (by decide) kd_136 rfl ?_
    refine u_iload_n (i := 3) (pc' := 15) dX1_narrow_14 rfl rfl rfl ?_
    refine u_aload_n (i := 0) (pc' := 16) dX1_narrow_15 rfl rfl rfl ?_
    refine u_getR (a := 137) (pc' := 19) dX1_narrow_16 rfl fl_TuneDoor_Forms_9 rfl (by decide) kd_136 rfl ?_
    refine u_iload_n (i := 3) (pc' := 20) dX1_narrow_19 rfl rfl rfl ?_
    obtain ⟨c3, c4, h⟩ := h
    refine u_baload (k := x3.toNat) (z := (τ 137 x3.toNat)) (pc' := 21) dX1_narrow_20 rfl (by decide) kd_137 c3 c4 (by decide) rfl rfl (fun r5 => ?_)
    refine u_if_eq (tgt := 38) (pc' := 24) dX1_narrow_21 rfl (by decide) r5 (fun hb => ?_) (fun hb => ?_)
    · have h := h.1 hb
      refine u_iconst (pc' := 39) dX1_narrow_38 rfl ?_
      obtain ⟨c6, c7, h⟩ := h
      refine u_bastore (k := x3.toNat) (b := false) (pc' := 40) dX1_narrow_39 rfl (by decide) kd_137 c6 c7 (by decide) rfl rfl ?_
      refine s_iinc (i := 3) (ls' := [some (vR 136), some (vI x1), some (vI x2), some (vI (x3 + 1))]) (pc' := 43) dX1_narrow_40 rfl rfl (Nat.le_of_ble_eq_true rfl) rfl rfl ?_
      refine u_goto (tgt := 2) dX1_narrow_43 (by decide) ?_
      exact u_less (ls' := [some (vR 136), some (vI x1), some (vI x2), some (vI (x3 + 1))]) ⟨rfl, ⟨rfl, ⟨rfl, ⟨rfl, trivial⟩⟩⟩⟩ h
    · have h := h.2 hb
      refine u_aload_n (i := 0) (pc' := 25) dX1_narrow_24 rfl rfl rfl ?_
      refine u_iload_n (i := 3) (pc' := 26) dX1_narrow_25 rfl rfl rfl ?_
      refine u_iload_n (i := 1) (pc' := 27) dX1_narrow_26 rfl rfl rfl ?_
      refine u_invV (q' := qX1_nextBy) (As := [vI x3, vI x1]) (st := [vI x3, vR 137]) (pc' := 30) dX1_narrow_27 rfl gX1_nextBy wm_1096 rfl rfl (by decide) kd_136 wm_1097 wm_1098 rfl (Nat.le_of_ble_eq_true rfl) (M0.mono h (fun v τ8 h => ?_))
      obtain ⟨r9, rfl, h⟩ := h
      show V0 E (d + 1) qX1_narrow 30 [some (vR 136), some (vI x1), some (vI x2), some (vI x3)] [vI r9, vI x3, vR 137] τ8 Q
      refine u_iload_n (i := 2) (pc' := 31) dX1_narrow_30 rfl rfl rfl ?_
      obtain ⟨c10, c11, h⟩ := h
      refine u_icmp_ne (tgt := 38) (pc' := 34) dX1_narrow_31 rfl (by decide) c10 c11 (fun hb => ?_) (fun hb => ?_)
      · have h := h.1 hb
        refine u_iconst (pc' := 39) dX1_narrow_38 rfl ?_
        obtain ⟨c12, c13, h⟩ := h
        refine u_bastore (k := x3.toNat) (b := false) (pc' := 40) dX1_narrow_39 rfl (by decide) kd_137 c12 c13 (by decide) rfl rfl ?_
        refine s_iinc (i := 3) (ls' := [some (vR 136), some (vI x1), some (vI x2), some (vI (x3 + 1))]) (pc' := 43) dX1_narrow_40 rfl rfl (Nat.le_of_ble_eq_true rfl) rfl rfl ?_
        refine u_goto (tgt := 2) dX1_narrow_43 (by decide) ?_
        exact u_less (ls' := [some (vR 136), some (vI x1), some (vI x2), some (vI (x3 + 1))]) ⟨rfl, ⟨rfl, ⟨rfl, ⟨rfl, trivial⟩⟩⟩⟩ h
      · have h := h.2 hb
        refine u_iconst (pc' := 35) dX1_narrow_34 rfl ?_
        refine u_goto (tgt := 39) dX1_narrow_35 (by decide) ?_
        obtain ⟨c14, c15, h⟩ := h
        refine u_bastore (k := x3.toNat) (b := true) (pc' := 40) dX1_narrow_39 rfl (by decide) kd_137 c14 c15 (by decide) rfl rfl ?_
        refine s_iinc (i := 3) (ls' := [some (vR 136), some (vI x1), some (vI x2), some (vI (x3 + 1))]) (pc' := 43) dX1_narrow_40 rfl rfl (Nat.le_of_ble_eq_true rfl) rfl rfl ?_
        refine u_goto (tgt := 2) dX1_narrow_43 (by decide) ?_
        exact u_less (ls' := [some (vR 136), some (vI x1), some (vI x2), some (vI (x3 + 1))]) ⟨rfl, ⟨rfl, ⟨rfl, ⟨rfl, trivial⟩⟩⟩⟩ h
set_option maxRecDepth 20000 in
theorem bX1_nextBy_0 {E : mm_Env} {d : Nat} {τ : mm_Mem} {Q : mm_Q0} {a0 : Int} {a1 : Int} (h : inR a0 ∧ inR ((τ 136 2) - 1) ∧ ((τ 136 2) - 1) ≠ 0 ∧ inR (Int.tdiv a0 ((τ 136 2) - 1)) ∧ (τ 136 1) ≠ 0 ∧ ((τ 136 2) - 1) ≠ 0 ∧ (τ 136 1) ≠ 0 ∧ ((τ 136 2) - 1) ≠ 0 ∧ M0 E d qX9_sumOf [vI a1, vI (τ 136 1)] τ (fun v τ13 => ∃ r14 : Int, v = some (vI r14) ∧ inR (((Int.tdiv (Int.tdiv a0 ((τ 136 2) - 1)) (τ 136 1)) * r14) + (Int.tmod (Int.tdiv a0 ((τ 136 2) - 1)) (τ 136 1))) ∧ (τ13 136 1) ≠ 0 ∧ M0 E d qX9_noteIn [vI a1, vI (Int.tmod (((Int.tdiv (Int.tdiv a0 ((τ 136 2) - 1)) (τ 136 1)) * r14) + (Int.tmod (Int.tdiv a0 ((τ 136 2) - 1)) (τ 136 1))) (τ13 136 1))] τ13 (fun v τ18 => ∃ r19 : Int, v = some (vI r19) ∧ inR (r19 + ((Int.tmod a0 ((τ 136 2) - 1)) + 1)) ∧ (τ18 136 2) ≠ 0 ∧ M0 E d qX9_withNote [vI a1, vI (Int.tmod (((Int.tdiv (Int.tdiv a0 ((τ 136 2) - 1)) (τ 136 1)) * r14) + (Int.tmod (Int.tdiv a0 ((τ 136 2) - 1)) (τ 136 1))) (τ13 136 1)), vI (Int.tmod (r19 + ((Int.tmod a0 ((τ 136 2) - 1)) + 1)) (τ18 136 2))] τ18 (fun v τ23 => ∃ r24 : Int, v = some (vI r24) ∧ Q (some (vI r24)) τ23)))) : V0 E (d + 1) qX1_nextBy 0 [some (vR 136), some (vI a0), some (vI a1), none, none, none, none, none] [] τ Q := by
  refine u_aload_n (i := 0) (pc' := 1) dX1_nextBy_0 rfl rfl rfl ?_
  refine u_getI (z := (τ 136 2)) (pc' := 4) dX1_nextBy_1 rfl fl_TuneDoor_Forms_19 rfl (by decide) (by decide) kd_136 rfl (fun r1 => ?_)
  refine u_iconst (pc' := 5) dX1_nextBy_4 rfl ?_
  refine u_isub (pc' := 6) dX1_nextBy_5 rfl ?_
  refine s_istore_n (i := 3) (ls' := [some (vR 136), some (vI a0), some (vI a1), some (vI ((τ 136 2) - 1)), none, none, none, none]) (pc' := 7) dX1_nextBy_6 rfl rfl (Nat.le_of_ble_eq_true rfl) rfl rfl ?_
  refine u_iload_n (i := 1) (pc' := 8) dX1_nextBy_7 rfl rfl rfl ?_
  refine u_iload_n (i := 3) (pc' := 9) dX1_nextBy_8 rfl rfl rfl ?_
  obtain ⟨c2, c3, c4, h⟩ := h
  refine u_idiv (pc' := 10) dX1_nextBy_9 rfl c2 c3 c4 ?_
  refine u_aload_n (i := 0) (pc' := 11) dX1_nextBy_10 rfl rfl rfl ?_
  refine u_getI (z := (τ 136 1)) (pc' := 14) dX1_nextBy_11 rfl fl_TuneDoor_Forms_15 rfl (by decide) (by decide) kd_136 rfl (fun r5 => ?_)
  obtain ⟨c6, c7, h⟩ := h
  refine u_idiv (pc' := 15) dX1_nextBy_14 rfl c6 r5 c7 ?_
  refine s_istore (i := 4) (ls' := [some (vR 136), some (vI a0), some (vI a1), some (vI ((τ 136 2) - 1)), some (vI (Int.tdiv (Int.tdiv a0 ((τ 136 2) - 1)) (τ 136 1))), none, none, none]) (pc' := 17) dX1_nextBy_15 rfl (Nat.le_of_ble_eq_true rfl) rfl rfl ?_
  refine u_iload_n (i := 1) (pc' := 18) dX1_nextBy_17 rfl rfl rfl ?_
  refine u_iload_n (i := 3) (pc' := 19) dX1_nextBy_18 rfl rfl rfl ?_
  obtain ⟨c8, h⟩ := h
  refine u_idiv (pc' := 20) dX1_nextBy_19 rfl c2 c3 c8 ?_
  refine u_aload_n (i := 0) (pc' := 21) dX1_nextBy_20 rfl rfl rfl ?_
  refine u_getI (z := (τ 136 1)) (pc' := 24) dX1_nextBy_21 rfl fl_TuneDoor_Forms_15 rfl (by decide) (by decide) kd_136 rfl (fun r9 => ?_)
  obtain ⟨c10, h⟩ := h
  refine u_irem (pc' := 25) dX1_nextBy_24 rfl c6 r9 c10 ?_
  refine s_istore (i := 5) (ls' := [some (vR 136), some (vI a0), some (vI a1), some (vI ((τ 136 2) - 1)), some (vI (Int.tdiv (Int.tdiv a0 ((τ 136 2) - 1)) (τ 136 1))), some (vI (Int.tmod (Int.tdiv a0 ((τ 136 2) - 1)) (τ 136 1))), none, none]) (pc' := 27) dX1_nextBy_25 rfl (Nat.le_of_ble_eq_true rfl) rfl rfl ?_
  refine u_iload_n (i := 1) (pc' := 28) dX1_nextBy_27 rfl rfl rfl ?_
  refine u_iload_n (i := 3) (pc' := 29) dX1_nextBy_28 rfl rfl rfl ?_
  obtain ⟨c11, h⟩ := h
  refine u_irem (pc' := 30) dX1_nextBy_29 rfl c2 c3 c11 ?_
  refine u_iconst (pc' := 31) dX1_nextBy_30 rfl ?_
  refine u_iadd (pc' := 32) dX1_nextBy_31 rfl ?_
  refine s_istore (i := 6) (ls' := [some (vR 136), some (vI a0), some (vI a1), some (vI ((τ 136 2) - 1)), some (vI (Int.tdiv (Int.tdiv a0 ((τ 136 2) - 1)) (τ 136 1))), some (vI (Int.tmod (Int.tdiv a0 ((τ 136 2) - 1)) (τ 136 1))), some (vI ((Int.tmod a0 ((τ 136 2) - 1)) + 1)), none]) (pc' := 34) dX1_nextBy_32 rfl (Nat.le_of_ble_eq_true rfl) rfl rfl ?_
  refine u_iload (i := 4) (pc' := 36) dX1_nextBy_34 rfl rfl ?_
  refine u_iload_n (i := 2) (pc' := 37) dX1_nextBy_36 rfl rfl rfl ?_
  refine u_aload_n (i := 0) (pc' := 38) dX1_nextBy_37 rfl rfl rfl ?_
  refine u_getI (z := (τ 136 1)) (pc' := 41) dX1_nextBy_38 rfl fl_TuneDoor_Forms_15 rfl (by decide) (by decide) kd_136 rfl (fun r12 => ?_)
  refine u_invS (q' := qX9_sumOf) (As := [vI a1, vI (τ 136 1)]) (st := [vI (Int.tdiv (Int.tdiv a0 ((τ 136 2) - 1)) (τ 136 1))]) (pc' := 44) dX1_nextBy_41 rfl gX9_sumOf wm_1100 wm_755 rfl (Nat.le_of_ble_eq_true rfl) (M0.mono h (fun v τ13 h => ?_))
  obtain ⟨r14, rfl, h⟩ := h
  show V0 E (d + 1) qX1_nextBy 44 [some (vR 136), some (vI a0), some (vI a1), some (vI ((τ 136 2) - 1)), some (vI (Int.tdiv (Int.tdiv a0 ((τ 136 2) - 1)) (τ 136 1))), some (vI (Int.tmod (Int.tdiv a0 ((τ 136 2) - 1)) (τ 136 1))), some (vI ((Int.tmod a0 ((τ 136 2) - 1)) + 1)), none] [vI r14, vI (Int.tdiv (Int.tdiv a0 ((τ 136 2) - 1)) (τ 136 1))] τ13 Q
  refine u_imul (pc' := 45) dX1_nextBy_44 rfl ?_
  refine u_iload (i := 5) (pc' := 47) dX1_nextBy_45 rfl rfl ?_
  refine u_iadd (pc' := 48) dX1_nextBy_47 rfl ?_
  refine u_aload_n (i := 0) (pc' := 49) dX1_nextBy_48 rfl rfl rfl ?_
  refine u_getI (z := (τ13 136 1)) (pc' := 52) dX1_nextBy_49 rfl fl_TuneDoor_Forms_15 rfl (by decide) (by decide) kd_136 rfl (fun r15 => ?_)
  obtain ⟨c16, c17, h⟩ := h
  refine u_irem (pc' := 53) dX1_nextBy_52 rfl c16 r15 c17 ?_
  refine s_istore (i := 7) (ls' := [some (vR 136), some (vI a0), some (vI a1), some (vI ((τ 136 2) - 1)), some (vI (Int.tdiv (Int.tdiv a0 ((τ 136 2) - 1)) (τ 136 1))), some (vI (Int.tmod (Int.tdiv a0 ((τ 136 2) - 1)) (τ 136 1))), some (vI ((Int.tmod a0 ((τ 136 2) - 1)) + 1)), some (vI (Int.tmod (((Int.tdiv (Int.tdiv a0 ((τ 136 2) - 1)) (τ 136 1)) * r14) + (Int.tmod (Int.tdiv a0 ((τ 136 2) - 1)) (τ 136 1))) (τ13 136 1)))]) (pc' := 55) dX1_nextBy_53 rfl (Nat.le_of_ble_eq_true rfl) rfl rfl ?_
  refine u_iload_n (i := 2) (pc' := 56) dX1_nextBy_55 rfl rfl rfl ?_
  refine u_iload (i := 7) (pc' := 58) dX1_nextBy_56 rfl rfl ?_
  refine u_iload_n (i := 2) (pc' := 59) dX1_nextBy_58 rfl rfl rfl ?_
  refine u_iload (i := 7) (pc' := 61) dX1_nextBy_59 rfl rfl ?_
  refine u_invS (q' := qX9_noteIn) (As := [vI a1, vI (Int.tmod (((Int.tdiv (Int.tdiv a0 ((τ 136 2) - 1)) (τ 136 1)) * r14) + (Int.tmod (Int.tdiv a0 ((τ 136 2) - 1)) (τ 136 1))) (τ13 136 1))]) (st := [vI (Int.tmod (((Int.tdiv (Int.tdiv a0 ((τ 136 2) - 1)) (τ 136 1)) * r14) + (Int.tmod (Int.tdiv a0 ((τ 136 2) - 1)) (τ 136 1))) (τ13 136 1)), vI a1]) (pc' := 64) dX1_nextBy_61 rfl gX9_noteIn wm_1101 wm_744 rfl (Nat.le_of_ble_eq_true rfl) (M0.mono h (fun v τ18 h => ?_))
  obtain ⟨r19, rfl, h⟩ := h
  show V0 E (d + 1) qX1_nextBy 64 [some (vR 136), some (vI a0), some (vI a1), some (vI ((τ 136 2) - 1)), some (vI (Int.tdiv (Int.tdiv a0 ((τ 136 2) - 1)) (τ 136 1))), some (vI (Int.tmod (Int.tdiv a0 ((τ 136 2) - 1)) (τ 136 1))), some (vI ((Int.tmod a0 ((τ 136 2) - 1)) + 1)), some (vI (Int.tmod (((Int.tdiv (Int.tdiv a0 ((τ 136 2) - 1)) (τ 136 1)) * r14) + (Int.tmod (Int.tdiv a0 ((τ 136 2) - 1)) (τ 136 1))) (τ13 136 1)))] [vI r19, vI (Int.tmod (((Int.tdiv (Int.tdiv a0 ((τ 136 2) - 1)) (τ 136 1)) * r14) + (Int.tmod (Int.tdiv a0 ((τ 136 2) - 1)) (τ 136 1))) (τ13 136 1)), vI a1] τ18 Q
  refine u_iload (i := 6) (pc' := 66) dX1_nextBy_64 rfl rfl ?_
  refine u_iadd (pc' := 67) dX1_nextBy_66 rfl ?_
  refine u_aload_n (i := 0) (pc' := 68) dX1_nextBy_67 rfl rfl rfl ?_
  refine u_getI (z := (τ18 136 2)) (pc' := 71) dX1_nextBy_68 rfl fl_TuneDoor_Forms_19 rfl (by decide) (by decide) kd_136 rfl (fun r20 => ?_)
  obtain ⟨c21, c22, h⟩ := h
  refine u_irem (pc' := 72) dX1_nextBy_71 rfl c21 r20 c22 ?_
  refine u_invS (q' := qX9_withNote) (As := [vI a1, vI (Int.tmod (((Int.tdiv (Int.tdiv a0 ((τ 136 2) - 1)) (τ 136 1)) * r14) + (Int.tmod (Int.tdiv a0 ((τ 136 2) - 1)) (τ 136 1))) (τ13 136 1)), vI (Int.tmod (r19 + ((Int.tmod a0 ((τ 136 2) - 1)) + 1)) (τ18 136 2))]) (st := []) (pc' := 75) dX1_nextBy_72 rfl gX9_withNote wm_1102 wm_630 rfl (Nat.le_of_ble_eq_true rfl) (M0.mono h (fun v τ23 h => ?_))
  obtain ⟨r24, rfl, h⟩ := h
  show V0 E (d + 1) qX1_nextBy 75 [some (vR 136), some (vI a0), some (vI a1), some (vI ((τ 136 2) - 1)), some (vI (Int.tdiv (Int.tdiv a0 ((τ 136 2) - 1)) (τ 136 1))), some (vI (Int.tmod (Int.tdiv a0 ((τ 136 2) - 1)) (τ 136 1))), some (vI ((Int.tmod a0 ((τ 136 2) - 1)) + 1)), some (vI (Int.tmod (((Int.tdiv (Int.tdiv a0 ((τ 136 2) - 1)) (τ 136 1)) * r14) + (Int.tmod (Int.tdiv a0 ((τ 136 2) - 1)) (τ 136 1))) (τ13 136 1)))] [vI r24] τ23 Q
  exact u_iret dX1_nextBy_75 rfl h
theorem mX1_nextBy {E : mm_Env} {d : Nat} {τ : mm_Mem} {Q : mm_Q0} {a0 : Int} {a1 : Int} (h : inR a0 ∧ inR ((τ 136 2) - 1) ∧ ((τ 136 2) - 1) ≠ 0 ∧ inR (Int.tdiv a0 ((τ 136 2) - 1)) ∧ (τ 136 1) ≠ 0 ∧ ((τ 136 2) - 1) ≠ 0 ∧ (τ 136 1) ≠ 0 ∧ ((τ 136 2) - 1) ≠ 0 ∧ M0 E d qX9_sumOf [vI a1, vI (τ 136 1)] τ (fun v τ13 => ∃ r14 : Int, v = some (vI r14) ∧ inR (((Int.tdiv (Int.tdiv a0 ((τ 136 2) - 1)) (τ 136 1)) * r14) + (Int.tmod (Int.tdiv a0 ((τ 136 2) - 1)) (τ 136 1))) ∧ (τ13 136 1) ≠ 0 ∧ M0 E d qX9_noteIn [vI a1, vI (Int.tmod (((Int.tdiv (Int.tdiv a0 ((τ 136 2) - 1)) (τ 136 1)) * r14) + (Int.tmod (Int.tdiv a0 ((τ 136 2) - 1)) (τ 136 1))) (τ13 136 1))] τ13 (fun v τ18 => ∃ r19 : Int, v = some (vI r19) ∧ inR (r19 + ((Int.tmod a0 ((τ 136 2) - 1)) + 1)) ∧ (τ18 136 2) ≠ 0 ∧ M0 E d qX9_withNote [vI a1, vI (Int.tmod (((Int.tdiv (Int.tdiv a0 ((τ 136 2) - 1)) (τ 136 1)) * r14) + (Int.tmod (Int.tdiv a0 ((τ 136 2) - 1)) (τ 136 1))) (τ13 136 1)), vI (Int.tmod (r19 + ((Int.tmod a0 ((τ 136 2) - 1)) + 1)) (τ18 136 2))] τ18 (fun v τ23 => ∃ r24 : Int, v = some (vI r24) ∧ Q (some (vI r24)) τ23)))) : M0 E (d + 1) qX1_nextBy [vR 136, vI a0, vI a1] τ Q := M0_of rfl (Nat.le_of_ble_eq_true rfl) [some (vR 136), some (vI a0), some (vI a1), none, none, none, none, none] rfl (bX1_nextBy_0  h)
set_option maxRecDepth 20000 in
theorem bX1_howMany_0 {E : mm_Env} {d : Nat} {τ : mm_Mem} {Q : mm_Q0}  (h : V0 E d qX1_howMany 4 [some (vR 136), some (vI 0), some (vI 0)] [] τ Q) : V0 E d qX1_howMany 0 [some (vR 136), none, none] [] τ Q := by
  refine u_iconst (pc' := 1) dX1_howMany_0 rfl ?_
  refine s_istore_n (i := 1) (ls' := [some (vR 136), some (vI 0), none]) (pc' := 2) dX1_howMany_1 rfl rfl (Nat.le_of_ble_eq_true rfl) rfl rfl ?_
  refine u_iconst (pc' := 3) dX1_howMany_2 rfl ?_
  refine s_istore_n (i := 2) (ls' := [some (vR 136), some (vI 0), some (vI 0)]) (pc' := 4) dX1_howMany_3 rfl rfl (Nat.le_of_ble_eq_true rfl) rfl rfl ?_
  exact u_less (ls' := [some (vR 136), some (vI 0), some (vI 0)]) ⟨rfl, ⟨rfl, ⟨rfl, trivial⟩⟩⟩ h
theorem mX1_howMany {E : mm_Env} {d : Nat} {τ : mm_Mem} {Q : mm_Q0}  (h : V0 E d qX1_howMany 4 [some (vR 136), some (vI 0), some (vI 0)] [] τ Q) : M0 E d qX1_howMany [vR 136] τ Q := M0_of rfl (Nat.le_of_ble_eq_true rfl) [some (vR 136), none, none] rfl (bX1_howMany_0  h)
set_option maxRecDepth 20000 in
theorem bX1_howMany_4 {E : mm_Env} {d : Nat} {τ : mm_Mem} {Q : mm_Q0} {x1 : Int} {x2 : Int} (h : inR x2 ∧ (((τ 136 3) ≤ x2 → Q (some (vI x1)) τ) ∧ (¬ (τ 136 3) ≤ x2 → 0 ≤ x2 ∧ x2 < 125 ∧ (((τ 137 x2.toNat) = 0 → V0 E d qX1_howMany 4 [some (vR 136), some (vI (x1 + 0)), some (vI (x2 + 1))] [] τ Q) ∧ (¬ (τ 137 x2.toNat) = 0 → V0 E d qX1_howMany 4 [some (vR 136), some (vI (x1 + 1)), some (vI (x2 + 1))] [] τ Q))))) : V0 E d qX1_howMany 4 [some (vR 136), some (vI x1), some (vI x2)] [] τ Q := by
  refine u_iload_n (i := 2) (pc' := 5) dX1_howMany_4 rfl rfl rfl ?_
  refine u_aload_n (i := 0) (pc' := 6) dX1_howMany_5 rfl rfl rfl ?_
  refine u_getI (z := (τ 136 3)) (pc' := 9) dX1_howMany_6 rfl fl_TuneDoor_Forms_31 rfl (by decide) (by decide) kd_136 rfl (fun r1 => ?_)
  obtain ⟨c2, h⟩ := h
  refine u_icmp_ge (tgt := 35) (pc' := 12) dX1_howMany_9 rfl (by decide) c2 r1 (fun hb => ?_) (fun hb => ?_)
  · have h := h.1 hb
    refine u_iload_n (i := 1) (pc' := 36) dX1_howMany_35 rfl rfl rfl ?_
    exact u_iret dX1_howMany_36 rfl h
  · have h := h.2 hb
    refine u_iload_n (i := 1) (pc' := 13) dX1_howMany_12 rfl rfl rfl ?_
    refine u_aload_n (i := 0) (pc' := 14) dX1_howMany_13 rfl rfl rfl ?_
    refine u_getR (a := 137) (pc' := 17) dX1_howMany_14 rfl fl_TuneDoor_Forms_9 rfl (by decide) kd_136 rfl ?_
    refine u_iload_n (i := 2) (pc' := 18) dX1_howMany_17 rfl rfl rfl ?_
    obtain ⟨c3, c4, h⟩ := h
    refine u_baload (k := x2.toNat) (z := (τ 137 x2.toNat)) (pc' := 19) dX1_howMany_18 rfl (by decide) kd_137 c3 c4 (by decide) rfl rfl (fun r5 => ?_)
    refine u_if_eq (tgt := 26) (pc' := 22) dX1_howMany_19 rfl (by decide) r5 (fun hb => ?_) (fun hb => ?_)
    · have h := h.1 hb
      refine u_iconst (pc' := 27) dX1_howMany_26 rfl ?_
      refine u_iadd (pc' := 28) dX1_howMany_27 rfl ?_
      refine s_istore_n (i := 1) (ls' := [some (vR 136), some (vI (x1 + 0)), some (vI x2)]) (pc' := 29) dX1_howMany_28 rfl rfl (Nat.le_of_ble_eq_true rfl) rfl rfl ?_
      refine s_iinc (i := 2) (ls' := [some (vR 136), some (vI (x1 + 0)), some (vI (x2 + 1))]) (pc' := 32) dX1_howMany_29 rfl rfl (Nat.le_of_ble_eq_true rfl) rfl rfl ?_
      refine u_goto (tgt := 4) dX1_howMany_32 (by decide) ?_
      exact u_less (ls' := [some (vR 136), some (vI (x1 + 0)), some (vI (x2 + 1))]) ⟨rfl, ⟨rfl, ⟨rfl, trivial⟩⟩⟩ h
    · have h := h.2 hb
      refine u_iconst (pc' := 23) dX1_howMany_22 rfl ?_
      refine u_goto (tgt := 27) dX1_howMany_23 (by decide) ?_
      refine u_iadd (pc' := 28) dX1_howMany_27 rfl ?_
      refine s_istore_n (i := 1) (ls' := [some (vR 136), some (vI (x1 + 1)), some (vI x2)]) (pc' := 29) dX1_howMany_28 rfl rfl (Nat.le_of_ble_eq_true rfl) rfl rfl ?_
      refine s_iinc (i := 2) (ls' := [some (vR 136), some (vI (x1 + 1)), some (vI (x2 + 1))]) (pc' := 32) dX1_howMany_29 rfl rfl (Nat.le_of_ble_eq_true rfl) rfl rfl ?_
      refine u_goto (tgt := 4) dX1_howMany_32 (by decide) ?_
      exact u_less (ls' := [some (vR 136), some (vI (x1 + 1)), some (vI (x2 + 1))]) ⟨rfl, ⟨rfl, ⟨rfl, trivial⟩⟩⟩ h
set_option maxRecDepth 20000 in
theorem bX1_agree_0 {E : mm_Env} {d : Nat} {τ : mm_Mem} {Q : mm_Q0} {a0 : Int} (h : M0 E d qX1_firstFrom [vR 136, vI 0] τ (fun v τ1 => ∃ r2 : Int, v = some (vI r2) ∧ inR r2 ∧ ((r2 ≠ (-1) → M0 E d qX1_nextBy [vR 136, vI r2, vI a0] τ1 (fun v τ4 => ∃ r5 : Int, v = some (vI r5) ∧ V0 E (d + 1) qX1_agree 25 [some (vR 136), some (vI a0), none, some (vI r5), some (vI (r2 + 1))] [] τ4 Q)) ∧ (r2 = (-1) → Q (some (vB false)) τ1)))) : V0 E (d + 1) qX1_agree 0 [some (vR 136), some (vI a0), none, none, none] [] τ Q := by
  refine u_aload_n (i := 0) (pc' := 1) dX1_agree_0 rfl rfl rfl ?_
  refine u_iconst (pc' := 2) dX1_agree_1 rfl ?_
  refine u_invV (q' := qX1_firstFrom) (As := [vI 0]) (st := []) (pc' := 5) dX1_agree_2 rfl gX1_firstFrom wm_1115 rfl rfl (by decide) kd_136 wm_1116 wm_1117 rfl (Nat.le_of_ble_eq_true rfl) (M0.mono h (fun v τ1 h => ?_))
  obtain ⟨r2, rfl, h⟩ := h
  show V0 E (d + 1) qX1_agree 5 [some (vR 136), some (vI a0), none, none, none] [vI r2] τ1 Q
  refine s_istore_n (i := 2) (ls' := [some (vR 136), some (vI a0), some (vI r2), none, none]) (pc' := 6) dX1_agree_5 rfl rfl (Nat.le_of_ble_eq_true rfl) rfl rfl ?_
  refine u_iload_n (i := 2) (pc' := 7) dX1_agree_6 rfl rfl rfl ?_
  refine u_iconst (pc' := 8) dX1_agree_7 rfl ?_
  obtain ⟨c3, h⟩ := h
  refine u_icmp_ne (tgt := 13) (pc' := 11) dX1_agree_8 rfl (by decide) c3 ⟨by decide, by decide⟩ (fun hb => ?_) (fun hb => ?_)
  · have h := h.1 hb
    refine u_aload_n (i := 0) (pc' := 14) dX1_agree_13 rfl rfl rfl ?_
    refine u_iload_n (i := 2) (pc' := 15) dX1_agree_14 rfl rfl rfl ?_
    refine u_iload_n (i := 1) (pc' := 16) dX1_agree_15 rfl rfl rfl ?_
    refine u_invV (q' := qX1_nextBy) (As := [vI r2, vI a0]) (st := []) (pc' := 19) dX1_agree_16 rfl gX1_nextBy wm_1096 rfl rfl (by decide) kd_136 wm_1097 wm_1098 rfl (Nat.le_of_ble_eq_true rfl) (M0.mono h (fun v τ4 h => ?_))
    obtain ⟨r5, rfl, h⟩ := h
    show V0 E (d + 1) qX1_agree 19 [some (vR 136), some (vI a0), some (vI r2), none, none] [vI r5] τ4 Q
    refine s_istore_n (i := 3) (ls' := [some (vR 136), some (vI a0), some (vI r2), some (vI r5), none]) (pc' := 20) dX1_agree_19 rfl rfl (Nat.le_of_ble_eq_true rfl) rfl rfl ?_
    refine u_iload_n (i := 2) (pc' := 21) dX1_agree_20 rfl rfl rfl ?_
    refine u_iconst (pc' := 22) dX1_agree_21 rfl ?_
    refine u_iadd (pc' := 23) dX1_agree_22 rfl ?_
    refine s_istore (i := 4) (ls' := [some (vR 136), some (vI a0), some (vI r2), some (vI r5), some (vI (r2 + 1))]) (pc' := 25) dX1_agree_23 rfl (Nat.le_of_ble_eq_true rfl) rfl rfl ?_
    exact u_less (ls' := [some (vR 136), some (vI a0), none, some (vI r5), some (vI (r2 + 1))]) ⟨rfl, ⟨rfl, ⟨rfl, ⟨rfl, trivial⟩⟩⟩⟩ h
  · have h := h.2 hb
    refine u_iconst (pc' := 12) dX1_agree_11 rfl ?_
    exact u_zret (b := false) dX1_agree_12 rfl rfl h
theorem mX1_agree {E : mm_Env} {d : Nat} {τ : mm_Mem} {Q : mm_Q0} {a0 : Int} (h : M0 E d qX1_firstFrom [vR 136, vI 0] τ (fun v τ1 => ∃ r2 : Int, v = some (vI r2) ∧ inR r2 ∧ ((r2 ≠ (-1) → M0 E d qX1_nextBy [vR 136, vI r2, vI a0] τ1 (fun v τ4 => ∃ r5 : Int, v = some (vI r5) ∧ V0 E (d + 1) qX1_agree 25 [some (vR 136), some (vI a0), none, some (vI r5), some (vI (r2 + 1))] [] τ4 Q)) ∧ (r2 = (-1) → Q (some (vB false)) τ1)))) : M0 E (d + 1) qX1_agree [vR 136, vI a0] τ Q := M0_of rfl (Nat.le_of_ble_eq_true rfl) [some (vR 136), some (vI a0), none, none, none] rfl (bX1_agree_0  h)
set_option maxRecDepth 20000 in
theorem bX1_agree_25 {E : mm_Env} {d : Nat} {τ : mm_Mem} {Q : mm_Q0} {x1 : Int} {x3 : Int} {x4 : Int} (h : inR x4 ∧ (((τ 136 3) ≤ x4 → Q (some (vB true)) τ) ∧ (¬ (τ 136 3) ≤ x4 → 0 ≤ x4 ∧ x4 < 125 ∧ (((τ 137 x4.toNat) = 0 → V0 E (d + 1) qX1_agree 25 [some (vR 136), some (vI x1), none, some (vI x3), some (vI (x4 + 1))] [] τ Q) ∧ (¬ (τ 137 x4.toNat) = 0 → M0 E d qX1_nextBy [vR 136, vI x4, vI x1] τ (fun v τ6 => ∃ r7 : Int, v = some (vI r7) ∧ inR r7 ∧ inR x3 ∧ ((r7 = x3 → V0 E (d + 1) qX1_agree 25 [some (vR 136), some (vI x1), none, some (vI x3), some (vI (x4 + 1))] [] τ6 Q) ∧ (¬ r7 = x3 → Q (some (vB false)) τ6)))))))) : V0 E (d + 1) qX1_agree 25 [some (vR 136), some (vI x1), none, some (vI x3), some (vI x4)] [] τ Q := by
  refine u_iload (i := 4) (pc' := 27) dX1_agree_25 rfl rfl ?_
  refine u_aload_n (i := 0) (pc' := 28) dX1_agree_27 rfl rfl rfl ?_
  refine u_getI (z := (τ 136 3)) (pc' := 31) dX1_agree_28 rfl fl_TuneDoor_Forms_31 rfl (by decide) (by decide) kd_136 rfl (fun r1 => ?_)
  obtain ⟨c2, h⟩ := h
  refine u_icmp_ge (tgt := 63) (pc' := 34) dX1_agree_31 rfl (by decide) c2 r1 (fun hb => ?_) (fun hb => ?_)
  · have h := h.1 hb
    refine u_iconst (pc' := 64) dX1_agree_63 rfl ?_
    exact u_zret (b := true) dX1_agree_64 rfl rfl h
  · have h := h.2 hb
    refine u_aload_n (i := 0) (pc' := 35) dX1_agree_34 rfl rfl rfl ?_
    refine u_getR (a := 137) (pc' := 38) dX1_agree_35 rfl fl_TuneDoor_Forms_9 rfl (by decide) kd_136 rfl ?_
    refine u_iload (i := 4) (pc' := 40) dX1_agree_38 rfl rfl ?_
    obtain ⟨c3, c4, h⟩ := h
    refine u_baload (k := x4.toNat) (z := (τ 137 x4.toNat)) (pc' := 41) dX1_agree_40 rfl (by decide) kd_137 c3 c4 (by decide) rfl rfl (fun r5 => ?_)
    refine u_if_eq (tgt := 57) (pc' := 44) dX1_agree_41 rfl (by decide) r5 (fun hb => ?_) (fun hb => ?_)
    · have h := h.1 hb
      refine s_iinc (i := 4) (ls' := [some (vR 136), some (vI x1), none, some (vI x3), some (vI (x4 + 1))]) (pc' := 60) dX1_agree_57 rfl rfl (Nat.le_of_ble_eq_true rfl) rfl rfl ?_
      refine u_goto (tgt := 25) dX1_agree_60 (by decide) ?_
      exact u_less (ls' := [some (vR 136), some (vI x1), none, some (vI x3), some (vI (x4 + 1))]) ⟨rfl, ⟨rfl, ⟨rfl, ⟨rfl, trivial⟩⟩⟩⟩ h
    · have h := h.2 hb
      refine u_aload_n (i := 0) (pc' := 45) dX1_agree_44 rfl rfl rfl ?_
      refine u_iload (i := 4) (pc' := 47) dX1_agree_45 rfl rfl ?_
      refine u_iload_n (i := 1) (pc' := 48) dX1_agree_47 rfl rfl rfl ?_
      refine u_invV (q' := qX1_nextBy) (As := [vI x4, vI x1]) (st := []) (pc' := 51) dX1_agree_48 rfl gX1_nextBy wm_1096 rfl rfl (by decide) kd_136 wm_1097 wm_1098 rfl (Nat.le_of_ble_eq_true rfl) (M0.mono h (fun v τ6 h => ?_))
      obtain ⟨r7, rfl, h⟩ := h
      show V0 E (d + 1) qX1_agree 51 [some (vR 136), some (vI x1), none, some (vI x3), some (vI x4)] [vI r7] τ6 Q
      refine u_iload_n (i := 3) (pc' := 52) dX1_agree_51 rfl rfl rfl ?_
      obtain ⟨c8, c9, h⟩ := h
      refine u_icmp_eq (tgt := 57) (pc' := 55) dX1_agree_52 rfl (by decide) c8 c9 (fun hb => ?_) (fun hb => ?_)
      · have h := h.1 hb
        refine s_iinc (i := 4) (ls' := [some (vR 136), some (vI x1), none, some (vI x3), some (vI (x4 + 1))]) (pc' := 60) dX1_agree_57 rfl rfl (Nat.le_of_ble_eq_true rfl) rfl rfl ?_
        refine u_goto (tgt := 25) dX1_agree_60 (by decide) ?_
        exact u_less (ls' := [some (vR 136), some (vI x1), none, some (vI x3), some (vI (x4 + 1))]) ⟨rfl, ⟨rfl, ⟨rfl, ⟨rfl, trivial⟩⟩⟩⟩ h
      · have h := h.2 hb
        refine u_iconst (pc' := 56) dX1_agree_55 rfl ?_
        exact u_zret (b := false) dX1_agree_56 rfl rfl h
set_option maxRecDepth 20000 in
theorem bX1_firstFrom_0 {E : mm_Env} {d : Nat} {τ : mm_Mem} {Q : mm_Q0} {a0 : Int} (h : V0 E d qX1_firstFrom 2 [some (vR 136), none, some (vI a0)] [] τ Q) : V0 E d qX1_firstFrom 0 [some (vR 136), some (vI a0), none] [] τ Q := by
  refine u_iload_n (i := 1) (pc' := 1) dX1_firstFrom_0 rfl rfl rfl ?_
  refine s_istore_n (i := 2) (ls' := [some (vR 136), some (vI a0), some (vI a0)]) (pc' := 2) dX1_firstFrom_1 rfl rfl (Nat.le_of_ble_eq_true rfl) rfl rfl ?_
  exact u_less (ls' := [some (vR 136), none, some (vI a0)]) ⟨rfl, ⟨rfl, trivial⟩⟩ h
theorem mX1_firstFrom {E : mm_Env} {d : Nat} {τ : mm_Mem} {Q : mm_Q0} {a0 : Int} (h : V0 E d qX1_firstFrom 2 [some (vR 136), none, some (vI a0)] [] τ Q) : M0 E d qX1_firstFrom [vR 136, vI a0] τ Q := M0_of rfl (Nat.le_of_ble_eq_true rfl) [some (vR 136), some (vI a0), none] rfl (bX1_firstFrom_0  h)
set_option maxRecDepth 20000 in
theorem bX1_firstFrom_2 {E : mm_Env} {d : Nat} {τ : mm_Mem} {Q : mm_Q0} {x2 : Int} (h : inR x2 ∧ (((τ 136 3) ≤ x2 → Q (some (vI (-1))) τ) ∧ (¬ (τ 136 3) ≤ x2 → 0 ≤ x2 ∧ x2 < 125 ∧ (((τ 137 x2.toNat) = 0 → V0 E d qX1_firstFrom 2 [some (vR 136), none, some (vI (x2 + 1))] [] τ Q) ∧ (¬ (τ 137 x2.toNat) = 0 → Q (some (vI x2)) τ))))) : V0 E d qX1_firstFrom 2 [some (vR 136), none, some (vI x2)] [] τ Q := by
  refine u_iload_n (i := 2) (pc' := 3) dX1_firstFrom_2 rfl rfl rfl ?_
  refine u_aload_n (i := 0) (pc' := 4) dX1_firstFrom_3 rfl rfl rfl ?_
  refine u_getI (z := (τ 136 3)) (pc' := 7) dX1_firstFrom_4 rfl fl_TuneDoor_Forms_31 rfl (by decide) (by decide) kd_136 rfl (fun r1 => ?_)
  obtain ⟨c2, h⟩ := h
  refine u_icmp_ge (tgt := 27) (pc' := 10) dX1_firstFrom_7 rfl (by decide) c2 r1 (fun hb => ?_) (fun hb => ?_)
  · have h := h.1 hb
    refine u_iconst (pc' := 28) dX1_firstFrom_27 rfl ?_
    exact u_iret dX1_firstFrom_28 rfl h
  · have h := h.2 hb
    refine u_aload_n (i := 0) (pc' := 11) dX1_firstFrom_10 rfl rfl rfl ?_
    refine u_getR (a := 137) (pc' := 14) dX1_firstFrom_11 rfl fl_TuneDoor_Forms_9 rfl (by decide) kd_136 rfl ?_
    refine u_iload_n (i := 2) (pc' := 15) dX1_firstFrom_14 rfl rfl rfl ?_
    obtain ⟨c3, c4, h⟩ := h
    refine u_baload (k := x2.toNat) (z := (τ 137 x2.toNat)) (pc' := 16) dX1_firstFrom_15 rfl (by decide) kd_137 c3 c4 (by decide) rfl rfl (fun r5 => ?_)
    refine u_if_eq (tgt := 21) (pc' := 19) dX1_firstFrom_16 rfl (by decide) r5 (fun hb => ?_) (fun hb => ?_)
    · have h := h.1 hb
      refine s_iinc (i := 2) (ls' := [some (vR 136), none, some (vI (x2 + 1))]) (pc' := 24) dX1_firstFrom_21 rfl rfl (Nat.le_of_ble_eq_true rfl) rfl rfl ?_
      refine u_goto (tgt := 2) dX1_firstFrom_24 (by decide) ?_
      exact u_less (ls' := [some (vR 136), none, some (vI (x2 + 1))]) ⟨rfl, ⟨rfl, trivial⟩⟩ h
    · have h := h.2 hb
      refine u_iload_n (i := 2) (pc' := 20) dX1_firstFrom_19 rfl rfl rfl ?_
      exact u_iret dX1_firstFrom_20 rfl h
