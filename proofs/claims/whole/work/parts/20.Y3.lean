set_option maxRecDepth 20000 in
theorem bX11_come_0 {E : mm_Env} {d : Nat} {τ : mm_Mem} {Q : mm_Q0} {a0 : Int} (h : M0 E d qX11_isPerson [vR 140, vI a0] τ (fun v τ1 => ∃ b2 : Bool, v = some (vB b2) ∧ ((b2 = false → M0 E d qX11_refused2 [vR 140] τ1 (fun v τ3 => ∃ r4 : Int, v = some (vI r4) ∧ Q (some (vI r4)) τ3)) ∧ (b2 = true → M0 E d qX11_canCome [vR 140, vI a0] τ1 (fun v τ5 => ∃ b6 : Bool, v = some (vB b6) ∧ ((b6 = true → M0 E d qX11_person4 [vR 140, vI a0] τ5 (fun v τ7 => ∃ r8 : Int, v = some (vI r8) ∧ 0 ≤ r8 ∧ r8 < 8 ∧ 0 ≤ a0 ∧ a0 < 4 ∧ M0 E d qX11_whistles [vR 140, vI (τ7 160 r8.toNat), vI (τ7 179 a0.toNat)] τ7 (fun v τ15 => v = none ∧ M0 E d qX11_comes [vR 140, vI a0] τ15 (fun v τ16 => ∃ r17 : Int, v = some (vI r17) ∧ Q (some (vI r17)) τ16)))) ∧ (b6 = false → M0 E d qX11_refused2 [vR 140] τ5 (fun v τ18 => ∃ r19 : Int, v = some (vI r19) ∧ Q (some (vI r19)) τ18)))))))) : V0 E (d + 1) qX11_come 0 [some (vR 140), some (vI a0)] [] τ Q := by
  refine u_aload_n (i := 0) (pc' := 1) dX11_come_0 rfl rfl rfl ?_
  refine u_iload_n (i := 1) (pc' := 2) dX11_come_1 rfl rfl rfl ?_
  refine u_invV (q' := qX11_isPerson) (As := [vI a0]) (st := []) (pc' := 5) dX11_come_2 rfl gX11_isPerson wm_1704 rfl rfl (by decide) kd_140 wm_1706 wp_113 rfl (Nat.le_of_ble_eq_true rfl) (M0.mono h (fun v τ1 h => ?_))
  obtain ⟨b2, rfl, h⟩ := h
  show V0 E (d + 1) qX11_come 5 [some (vR 140), some (vI a0)] [vB b2] τ1 Q
  refine u_if_eq (tgt := 16) (pc' := 8) dX11_come_5 rfl (by decide) (bI_R _) (fun hb => ?_) (fun hb => ?_)
  · have h := h.1 (bI_0.mp hb)
    refine u_aload_n (i := 0) (pc' := 17) dX11_come_16 rfl rfl rfl ?_
    refine u_invV (q' := qX11_refused2) (As := []) (st := []) (pc' := 20) dX11_come_17 rfl gX11_refused2 wm_1743 rfl rfl (by decide) kd_140 wm_1745 wp_116 rfl (Nat.le_of_ble_eq_true rfl) (M0.mono h (fun v τ3 h => ?_))
    obtain ⟨r4, rfl, h⟩ := h
    show V0 E (d + 1) qX11_come 20 [some (vR 140), some (vI a0)] [vI r4] τ3 Q
    exact u_iret dX11_come_20 rfl h
  · have h := h.2 (bI_n0.mp hb)
    refine u_aload_n (i := 0) (pc' := 9) dX11_come_8 rfl rfl rfl ?_
    refine u_iload_n (i := 1) (pc' := 10) dX11_come_9 rfl rfl rfl ?_
    refine u_invV (q' := qX11_canCome) (As := [vI a0]) (st := []) (pc' := 13) dX11_come_10 rfl gX11_canCome wm_1739 rfl rfl (by decide) kd_140 wm_1741 wp_115 rfl (Nat.le_of_ble_eq_true rfl) (M0.mono h (fun v τ5 h => ?_))
    obtain ⟨b6, rfl, h⟩ := h
    show V0 E (d + 1) qX11_come 13 [some (vR 140), some (vI a0)] [vB b6] τ5 Q
    refine u_if_ne (tgt := 21) (pc' := 16) dX11_come_13 rfl (by decide) (bI_R _) (fun hb => ?_) (fun hb => ?_)
    · have h := h.1 (bI_n0.mp hb)
      refine u_aload_n (i := 0) (pc' := 22) dX11_come_21 rfl rfl rfl ?_
      refine u_aload_n (i := 0) (pc' := 23) dX11_come_22 rfl rfl rfl ?_
      refine u_getR (a := 160) (pc' := 26) dX11_come_23 rfl fl_TuneDoorModel_106 rfl (by decide) kd_140 rfl ?_
      refine u_aload_n (i := 0) (pc' := 27) dX11_come_26 rfl rfl rfl ?_
      refine u_iload_n (i := 1) (pc' := 28) dX11_come_27 rfl rfl rfl ?_
      refine u_invV (q' := qX11_person4) (As := [vI a0]) (st := [vR 160, vR 140]) (pc' := 31) dX11_come_28 rfl gX11_person4 wm_1692 rfl rfl (by decide) kd_140 wm_1694 wp_111 rfl (Nat.le_of_ble_eq_true rfl) (M0.mono h (fun v τ7 h => ?_))
      obtain ⟨r8, rfl, h⟩ := h
      show V0 E (d + 1) qX11_come 31 [some (vR 140), some (vI a0)] [vI r8, vR 160, vR 140] τ7 Q
      obtain ⟨c9, c10, h⟩ := h
      refine u_iaload (k := r8.toNat) (z := (τ7 160 r8.toNat)) (pc' := 32) dX11_come_31 rfl (by decide) kd_160 c9 c10 (by decide) rfl rfl (fun r11 => ?_)
      refine u_aload_n (i := 0) (pc' := 33) dX11_come_32 rfl rfl rfl ?_
      refine u_getR (a := 179) (pc' := 36) dX11_come_33 rfl fl_TuneDoorModel_183 rfl (by decide) kd_140 rfl ?_
      refine u_iload_n (i := 1) (pc' := 37) dX11_come_36 rfl rfl rfl ?_
      obtain ⟨c12, c13, h⟩ := h
      refine u_iaload (k := a0.toNat) (z := (τ7 179 a0.toNat)) (pc' := 38) dX11_come_37 rfl (by decide) kd_179 c12 c13 (by decide) rfl rfl (fun r14 => ?_)
      refine u_invV (q' := qX11_whistles) (As := [vI (τ7 160 r8.toNat), vI (τ7 179 a0.toNat)]) (st := []) (pc' := 41) dX11_come_38 rfl gX11_whistles wm_1747 rfl rfl (by decide) kd_140 wm_1749 wp_117 rfl (Nat.le_of_ble_eq_true rfl) (M0.mono h (fun v τ15 h => ?_))
      obtain ⟨rfl, h⟩ := h
      show V0 E (d + 1) qX11_come 41 [some (vR 140), some (vI a0)] [] τ15 Q
      refine u_aload_n (i := 0) (pc' := 42) dX11_come_41 rfl rfl rfl ?_
      refine u_iload_n (i := 1) (pc' := 43) dX11_come_42 rfl rfl rfl ?_
      refine u_invV (q' := qX11_comes) (As := [vI a0]) (st := []) (pc' := 46) dX11_come_43 rfl gX11_comes wm_1751 rfl rfl (by decide) kd_140 wm_1753 wp_118 rfl (Nat.le_of_ble_eq_true rfl) (M0.mono h (fun v τ16 h => ?_))
      obtain ⟨r17, rfl, h⟩ := h
      show V0 E (d + 1) qX11_come 46 [some (vR 140), some (vI a0)] [vI r17] τ16 Q
      exact u_iret dX11_come_46 rfl h
    · have h := h.2 (bI_0.mp hb)
      refine u_aload_n (i := 0) (pc' := 17) dX11_come_16 rfl rfl rfl ?_
      refine u_invV (q' := qX11_refused2) (As := []) (st := []) (pc' := 20) dX11_come_17 rfl gX11_refused2 wm_1743 rfl rfl (by decide) kd_140 wm_1745 wp_116 rfl (Nat.le_of_ble_eq_true rfl) (M0.mono h (fun v τ18 h => ?_))
      obtain ⟨r19, rfl, h⟩ := h
      show V0 E (d + 1) qX11_come 20 [some (vR 140), some (vI a0)] [vI r19] τ18 Q
      exact u_iret dX11_come_20 rfl h
theorem mX11_come {E : mm_Env} {d : Nat} {τ : mm_Mem} {Q : mm_Q0} {a0 : Int} (h : M0 E d qX11_isPerson [vR 140, vI a0] τ (fun v τ1 => ∃ b2 : Bool, v = some (vB b2) ∧ ((b2 = false → M0 E d qX11_refused2 [vR 140] τ1 (fun v τ3 => ∃ r4 : Int, v = some (vI r4) ∧ Q (some (vI r4)) τ3)) ∧ (b2 = true → M0 E d qX11_canCome [vR 140, vI a0] τ1 (fun v τ5 => ∃ b6 : Bool, v = some (vB b6) ∧ ((b6 = true → M0 E d qX11_person4 [vR 140, vI a0] τ5 (fun v τ7 => ∃ r8 : Int, v = some (vI r8) ∧ 0 ≤ r8 ∧ r8 < 8 ∧ 0 ≤ a0 ∧ a0 < 4 ∧ M0 E d qX11_whistles [vR 140, vI (τ7 160 r8.toNat), vI (τ7 179 a0.toNat)] τ7 (fun v τ15 => v = none ∧ M0 E d qX11_comes [vR 140, vI a0] τ15 (fun v τ16 => ∃ r17 : Int, v = some (vI r17) ∧ Q (some (vI r17)) τ16)))) ∧ (b6 = false → M0 E d qX11_refused2 [vR 140] τ5 (fun v τ18 => ∃ r19 : Int, v = some (vI r19) ∧ Q (some (vI r19)) τ18)))))))) : M0 E (d + 1) qX11_come [vR 140, vI a0] τ Q := M0_of rfl (Nat.le_of_ble_eq_true rfl) [some (vR 140), some (vI a0)] rfl (bX11_come_0  h)
set_option maxRecDepth 20000 in
theorem bX11_canCome_0 {E : mm_Env} {d : Nat} {τ : mm_Mem} {Q : mm_Q0} {a0 : Int} (h : 0 ≤ a0 ∧ a0 < 4 ∧ ((1000 ≤ (τ 179 a0.toNat) → Q (some (vB false)) τ) ∧ (¬ 1000 ≤ (τ 179 a0.toNat) → Q (some (vB true)) τ))) : V0 E d qX11_canCome 0 [some (vR 140), some (vI a0)] [] τ Q := by
  refine u_aload_n (i := 0) (pc' := 1) dX11_canCome_0 rfl rfl rfl ?_
  refine u_getR (a := 179) (pc' := 4) dX11_canCome_1 rfl fl_TuneDoorModel_183 rfl (by decide) kd_140 rfl ?_
  refine u_iload_n (i := 1) (pc' := 5) dX11_canCome_4 rfl rfl rfl ?_
  obtain ⟨c1, c2, h⟩ := h
  refine u_iaload (k := a0.toNat) (z := (τ 179 a0.toNat)) (pc' := 6) dX11_canCome_5 rfl (by decide) kd_179 c1 c2 (by decide) rfl rfl (fun r3 => ?_)
  refine u_sipush (pc' := 9) dX11_canCome_6 rfl (by decide) ?_
  refine u_icmp_ge (tgt := 16) (pc' := 12) dX11_canCome_9 rfl (by decide) r3 ⟨by decide, by decide⟩ (fun hb => ?_) (fun hb => ?_)
  · have h := h.1 hb
    refine u_iconst (pc' := 17) dX11_canCome_16 rfl ?_
    exact u_zret (b := false) dX11_canCome_17 rfl rfl h
  · have h := h.2 hb
    refine u_iconst (pc' := 13) dX11_canCome_12 rfl ?_
    refine u_goto (tgt := 17) dX11_canCome_13 (by decide) ?_
    exact u_zret (b := true) dX11_canCome_17 rfl rfl h
theorem mX11_canCome {E : mm_Env} {d : Nat} {τ : mm_Mem} {Q : mm_Q0} {a0 : Int} (h : 0 ≤ a0 ∧ a0 < 4 ∧ ((1000 ≤ (τ 179 a0.toNat) → Q (some (vB false)) τ) ∧ (¬ 1000 ≤ (τ 179 a0.toNat) → Q (some (vB true)) τ))) : M0 E d qX11_canCome [vR 140, vI a0] τ Q := M0_of rfl (Nat.le_of_ble_eq_true rfl) [some (vR 140), some (vI a0)] rfl (bX11_canCome_0  h)
set_option maxRecDepth 20000 in
theorem bX11_refused2_0 {E : mm_Env} {d : Nat} {τ : mm_Mem} {Q : mm_Q0}  (h : inR ((τ 173 2) + 1) ∧ Q (some (vI (-2))) (wr τ 173 2 ((τ 173 2) + 1))) : V0 E d qX11_refused2 0 [some (vR 140)] [] τ Q := by
  refine u_aload_n (i := 0) (pc' := 1) dX11_refused2_0 rfl rfl rfl ?_
  refine u_getR (a := 173) (pc' := 4) dX11_refused2_1 rfl fl_TuneDoorModel_165 rfl (by decide) kd_140 rfl ?_
  refine u_iconst (pc' := 5) dX11_refused2_4 rfl ?_
  refine u_dup2 (pc' := 6) dX11_refused2_5 rfl (fun _ hh => by cases hh) (fun _ hh => by cases hh) ?_
  refine u_iaload (k := 2) (z := (τ 173 2)) (pc' := 7) dX11_refused2_6 rfl (by decide) kd_173 (by decide) (by decide) (by decide) rfl rfl (fun r1 => ?_)
  refine u_iconst (pc' := 8) dX11_refused2_7 rfl ?_
  refine u_iadd (pc' := 9) dX11_refused2_8 rfl ?_
  obtain ⟨c2, h⟩ := h
  refine u_iastore (k := 2) (pc' := 10) dX11_refused2_9 rfl (by decide) kd_173 (by decide) (by decide) (by decide) rfl c2 ?_
  refine u_bipush (pc' := 12) dX11_refused2_10 rfl (by decide) ?_
  exact u_iret dX11_refused2_12 rfl h
theorem mX11_refused2 {E : mm_Env} {d : Nat} {τ : mm_Mem} {Q : mm_Q0}  (h : inR ((τ 173 2) + 1) ∧ Q (some (vI (-2))) (wr τ 173 2 ((τ 173 2) + 1))) : M0 E d qX11_refused2 [vR 140] τ Q := M0_of rfl (Nat.le_of_ble_eq_true rfl) [some (vR 140)] rfl (bX11_refused2_0  h)
set_option maxRecDepth 20000 in
theorem bX11_whistles_0 {E : mm_Env} {d : Nat} {τ : mm_Mem} {Q : mm_Q0} {a0 : Int} {a1 : Int} (h : V0 E d qX11_whistles 2 [some (vR 140), some (vI a0), some (vI a1), some (vI 0)] [] τ Q) : V0 E d qX11_whistles 0 [some (vR 140), some (vI a0), some (vI a1), none] [] τ Q := by
  refine u_iconst (pc' := 1) dX11_whistles_0 rfl ?_
  refine s_istore_n (i := 3) (ls' := [some (vR 140), some (vI a0), some (vI a1), some (vI 0)]) (pc' := 2) dX11_whistles_1 rfl rfl (Nat.le_of_ble_eq_true rfl) rfl rfl ?_
  exact u_less (ls' := [some (vR 140), some (vI a0), some (vI a1), some (vI 0)]) ⟨rfl, ⟨rfl, ⟨rfl, ⟨rfl, trivial⟩⟩⟩⟩ h
theorem mX11_whistles {E : mm_Env} {d : Nat} {τ : mm_Mem} {Q : mm_Q0} {a0 : Int} {a1 : Int} (h : V0 E d qX11_whistles 2 [some (vR 140), some (vI a0), some (vI a1), some (vI 0)] [] τ Q) : M0 E d qX11_whistles [vR 140, vI a0, vI a1] τ Q := M0_of rfl (Nat.le_of_ble_eq_true rfl) [some (vR 140), some (vI a0), some (vI a1), none] rfl (bX11_whistles_0  h)
set_option maxRecDepth 20000 in
theorem bX11_whistles_2 {E : mm_Env} {d : Nat} {τ : mm_Mem} {Q : mm_Q0} {x1 : Int} {x2 : Int} {x3 : Int} (h : 0 ≤ (τ 140 12) ∧ (τ 140 12) < 2 ∧ inR x3 ∧ (((τ 143 (τ 140 12).toNat) ≤ x3 → 0 ≤ ((1000 * x1) + x2) ∧ ((1000 * x1) + x2) < 3000 ∧ Q none (wr τ 140 66 (τ 178 ((1000 * x1) + x2).toNat))) ∧ (¬ (τ 143 (τ 140 12).toNat) ≤ x3 → 0 ≤ ((5 * ((1000 * x1) + x2)) + x3) ∧ ((5 * ((1000 * x1) + x2)) + x3) < 15000 ∧ 0 ≤ x3 ∧ x3 < 5 ∧ V0 E d qX11_whistles 2 [some (vR 140), some (vI x1), some (vI x2), some (vI (x3 + 1))] [] (wr τ 188 x3.toNat (τ 176 ((5 * ((1000 * x1) + x2)) + x3).toNat)) Q))) : V0 E d qX11_whistles 2 [some (vR 140), some (vI x1), some (vI x2), some (vI x3)] [] τ Q := by
  refine u_iload_n (i := 3) (pc' := 3) dX11_whistles_2 rfl rfl rfl ?_
  refine u_aload_n (i := 0) (pc' := 4) dX11_whistles_3 rfl rfl rfl ?_
  refine u_getR (a := 143) (pc' := 7) dX11_whistles_4 rfl fl_TuneDoorModel_54 rfl (by decide) kd_140 rfl ?_
  refine u_aload_n (i := 0) (pc' := 8) dX11_whistles_7 rfl rfl rfl ?_
  refine u_getI (z := (τ 140 12)) (pc' := 11) dX11_whistles_8 rfl fl_TuneDoorModel_48 rfl (by decide) (by decide) kd_140 rfl (fun r1 => ?_)
  obtain ⟨c2, c3, h⟩ := h
  refine u_iaload (k := (τ 140 12).toNat) (z := (τ 143 (τ 140 12).toNat)) (pc' := 12) dX11_whistles_11 rfl (by decide) kd_143 c2 c3 (by decide) rfl rfl (fun r4 => ?_)
  obtain ⟨c5, h⟩ := h
  refine u_icmp_ge (tgt := 43) (pc' := 15) dX11_whistles_12 rfl (by decide) c5 r4 (fun hb => ?_) (fun hb => ?_)
  · have h := h.1 hb
    refine u_aload_n (i := 0) (pc' := 44) dX11_whistles_43 rfl rfl rfl ?_
    refine u_aload_n (i := 0) (pc' := 45) dX11_whistles_44 rfl rfl rfl ?_
    refine u_getR (a := 178) (pc' := 48) dX11_whistles_45 rfl fl_TuneDoorModel_180 rfl (by decide) kd_140 rfl ?_
    refine u_sipush (pc' := 51) dX11_whistles_48 rfl (by decide) ?_
    refine u_iload_n (i := 1) (pc' := 52) dX11_whistles_51 rfl rfl rfl ?_
    refine u_imul (pc' := 53) dX11_whistles_52 rfl ?_
    refine u_iload_n (i := 2) (pc' := 54) dX11_whistles_53 rfl rfl rfl ?_
    refine u_iadd (pc' := 55) dX11_whistles_54 rfl ?_
    obtain ⟨c6, c7, h⟩ := h
    refine u_iaload (k := ((1000 * x1) + x2).toNat) (z := (τ 178 ((1000 * x1) + x2).toNat)) (pc' := 56) dX11_whistles_55 rfl (by decide) kd_178 c6 c7 (by decide) rfl rfl (fun r8 => ?_)
    refine u_putI (pc' := 59) dX11_whistles_56 rfl fl_TuneDoorModel_213 rfl rfl (by decide) (by decide) kd_140 r8 ?_
    exact u_ret dX11_whistles_59 rfl h
  · have h := h.2 hb
    refine u_aload_n (i := 0) (pc' := 16) dX11_whistles_15 rfl rfl rfl ?_
    refine u_getR (a := 188) (pc' := 19) dX11_whistles_16 rfl fl_TuneDoorModel_210 rfl (by decide) kd_140 rfl ?_
    refine u_iload_n (i := 3) (pc' := 20) dX11_whistles_19 rfl rfl rfl ?_
    refine u_aload_n (i := 0) (pc' := 21) dX11_whistles_20 rfl rfl rfl ?_
    refine u_getR (a := 176) (pc' := 24) dX11_whistles_21 rfl fl_TuneDoorModel_174 rfl (by decide) kd_140 rfl ?_
    refine u_iconst (pc' := 25) dX11_whistles_24 rfl ?_
    refine u_sipush (pc' := 28) dX11_whistles_25 rfl (by decide) ?_
    refine u_iload_n (i := 1) (pc' := 29) dX11_whistles_28 rfl rfl rfl ?_
    refine u_imul (pc' := 30) dX11_whistles_29 rfl ?_
    refine u_iload_n (i := 2) (pc' := 31) dX11_whistles_30 rfl rfl rfl ?_
    refine u_iadd (pc' := 32) dX11_whistles_31 rfl ?_
    refine u_imul (pc' := 33) dX11_whistles_32 rfl ?_
    refine u_iload_n (i := 3) (pc' := 34) dX11_whistles_33 rfl rfl rfl ?_
    refine u_iadd (pc' := 35) dX11_whistles_34 rfl ?_
    obtain ⟨c9, c10, h⟩ := h
    refine u_iaload (k := ((5 * ((1000 * x1) + x2)) + x3).toNat) (z := (τ 176 ((5 * ((1000 * x1) + x2)) + x3).toNat)) (pc' := 36) dX11_whistles_35 rfl (by decide) kd_176 c9 c10 (by decide) rfl rfl (fun r11 => ?_)
    obtain ⟨c12, c13, h⟩ := h
    refine u_iastore (k := x3.toNat) (pc' := 37) dX11_whistles_36 rfl (by decide) kd_188 c12 c13 (by decide) rfl r11 ?_
    refine s_iinc (i := 3) (ls' := [some (vR 140), some (vI x1), some (vI x2), some (vI (x3 + 1))]) (pc' := 40) dX11_whistles_37 rfl rfl (Nat.le_of_ble_eq_true rfl) rfl rfl ?_
    refine u_goto (tgt := 2) dX11_whistles_40 (by decide) ?_
    exact u_less (ls' := [some (vR 140), some (vI x1), some (vI x2), some (vI (x3 + 1))]) ⟨rfl, ⟨rfl, ⟨rfl, ⟨rfl, trivial⟩⟩⟩⟩ h
set_option maxRecDepth 20000 in
theorem bX11_comes_0 {E : mm_Env} {d : Nat} {τ : mm_Mem} {Q : mm_Q0} {a0 : Int} (h : 0 ≤ a0 ∧ a0 < 4 ∧ 0 ≤ a0 ∧ a0 < 4 ∧ inR ((τ 179 a0.toNat) + 1) ∧ M0 E d qX11_person4 [vR 140, vI a0] (wr τ 179 a0.toNat ((τ 179 a0.toNat) + 1)) (fun v τ7 => ∃ r8 : Int, v = some (vI r8) ∧ 0 ≤ r8 ∧ r8 < 8 ∧ M0 E d qX11_hearsNow [vR 140, vI (τ7 159 r8.toNat)] τ7 (fun v τ12 => ∃ r13 : Int, v = some (vI r13) ∧ inR r13 ∧ ((r13 ≠ (-1) → 0 ≤ a0 ∧ a0 < 4 ∧ 0 ≤ a0 ∧ a0 < 4 ∧ inR ((τ12 180 a0.toNat) + 1) ∧ Q (some (vI r13)) (wr τ12 180 a0.toNat ((τ12 180 a0.toNat) + 1))) ∧ (r13 = (-1) → 0 ≤ a0 ∧ a0 < 4 ∧ 0 ≤ a0 ∧ a0 < 4 ∧ inR ((τ12 181 a0.toNat) + 1) ∧ Q (some (vI r13)) (wr τ12 181 a0.toNat ((τ12 181 a0.toNat) + 1))))))) : V0 E (d + 1) qX11_comes 0 [some (vR 140), some (vI a0), none] [] τ Q := by
  refine u_aload_n (i := 0) (pc' := 1) dX11_comes_0 rfl rfl rfl ?_
  refine u_getR (a := 179) (pc' := 4) dX11_comes_1 rfl fl_TuneDoorModel_183 rfl (by decide) kd_140 rfl ?_
  refine u_iload_n (i := 1) (pc' := 5) dX11_comes_4 rfl rfl rfl ?_
  refine u_dup2 (pc' := 6) dX11_comes_5 rfl (fun _ hh => by cases hh) (fun _ hh => by cases hh) ?_
  obtain ⟨c1, c2, h⟩ := h
  refine u_iaload (k := a0.toNat) (z := (τ 179 a0.toNat)) (pc' := 7) dX11_comes_6 rfl (by decide) kd_179 c1 c2 (by decide) rfl rfl (fun r3 => ?_)
  refine u_iconst (pc' := 8) dX11_comes_7 rfl ?_
  refine u_iadd (pc' := 9) dX11_comes_8 rfl ?_
  obtain ⟨c4, c5, c6, h⟩ := h
  refine u_iastore (k := a0.toNat) (pc' := 10) dX11_comes_9 rfl (by decide) kd_179 c4 c5 (by decide) rfl c6 ?_
  refine u_aload_n (i := 0) (pc' := 11) dX11_comes_10 rfl rfl rfl ?_
  refine u_aload_n (i := 0) (pc' := 12) dX11_comes_11 rfl rfl rfl ?_
  refine u_getR (a := 159) (pc' := 15) dX11_comes_12 rfl fl_TuneDoorModel_103 rfl (by decide) kd_140 rfl ?_
  refine u_aload_n (i := 0) (pc' := 16) dX11_comes_15 rfl rfl rfl ?_
  refine u_iload_n (i := 1) (pc' := 17) dX11_comes_16 rfl rfl rfl ?_
  refine u_invV (q' := qX11_person4) (As := [vI a0]) (st := [vR 159, vR 140]) (pc' := 20) dX11_comes_17 rfl gX11_person4 wm_1692 rfl rfl (by decide) kd_140 wm_1694 wp_111 rfl (Nat.le_of_ble_eq_true rfl) (M0.mono h (fun v τ7 h => ?_))
  obtain ⟨r8, rfl, h⟩ := h
  show V0 E (d + 1) qX11_comes 20 [some (vR 140), some (vI a0), none] [vI r8, vR 159, vR 140] τ7 Q
  obtain ⟨c9, c10, h⟩ := h
  refine u_iaload (k := r8.toNat) (z := (τ7 159 r8.toNat)) (pc' := 21) dX11_comes_20 rfl (by decide) kd_159 c9 c10 (by decide) rfl rfl (fun r11 => ?_)
  refine u_invV (q' := qX11_hearsNow) (As := [vI (τ7 159 r8.toNat)]) (st := []) (pc' := 24) dX11_comes_21 rfl gX11_hearsNow wm_1755 rfl rfl (by decide) kd_140 wm_1757 wp_119 rfl (Nat.le_of_ble_eq_true rfl) (M0.mono h (fun v τ12 h => ?_))
  obtain ⟨r13, rfl, h⟩ := h
  show V0 E (d + 1) qX11_comes 24 [some (vR 140), some (vI a0), none] [vI r13] τ12 Q
  refine s_istore_n (i := 2) (ls' := [some (vR 140), some (vI a0), some (vI r13)]) (pc' := 25) dX11_comes_24 rfl rfl (Nat.le_of_ble_eq_true rfl) rfl rfl ?_
  refine u_iload_n (i := 2) (pc' := 26) dX11_comes_25 rfl rfl rfl ?_
  refine u_iconst (pc' := 27) dX11_comes_26 rfl ?_
  obtain ⟨c14, h⟩ := h
  refine u_icmp_ne (tgt := 43) (pc' := 30) dX11_comes_27 rfl (by decide) c14 ⟨by decide, by decide⟩ (fun hb => ?_) (fun hb => ?_)
  · have h := h.1 hb
    refine u_aload_n (i := 0) (pc' := 44) dX11_comes_43 rfl rfl rfl ?_
    refine u_getR (a := 180) (pc' := 47) dX11_comes_44 rfl fl_TuneDoorModel_186 rfl (by decide) kd_140 rfl ?_
    refine u_iload_n (i := 1) (pc' := 48) dX11_comes_47 rfl rfl rfl ?_
    refine u_dup2 (pc' := 49) dX11_comes_48 rfl (fun _ hh => by cases hh) (fun _ hh => by cases hh) ?_
    obtain ⟨c15, c16, h⟩ := h
    refine u_iaload (k := a0.toNat) (z := (τ12 180 a0.toNat)) (pc' := 50) dX11_comes_49 rfl (by decide) kd_180 c15 c16 (by decide) rfl rfl (fun r17 => ?_)
    refine u_iconst (pc' := 51) dX11_comes_50 rfl ?_
    refine u_iadd (pc' := 52) dX11_comes_51 rfl ?_
    obtain ⟨c18, c19, c20, h⟩ := h
    refine u_iastore (k := a0.toNat) (pc' := 53) dX11_comes_52 rfl (by decide) kd_180 c18 c19 (by decide) rfl c20 ?_
    refine u_iload_n (i := 2) (pc' := 54) dX11_comes_53 rfl rfl rfl ?_
    exact u_iret dX11_comes_54 rfl h
  · have h := h.2 hb
    refine u_aload_n (i := 0) (pc' := 31) dX11_comes_30 rfl rfl rfl ?_
    refine u_getR (a := 181) (pc' := 34) dX11_comes_31 rfl fl_TuneDoorModel_189 rfl (by decide) kd_140 rfl ?_
    refine u_iload_n (i := 1) (pc' := 35) dX11_comes_34 rfl rfl rfl ?_
    refine u_dup2 (pc' := 36) dX11_comes_35 rfl (fun _ hh => by cases hh) (fun _ hh => by cases hh) ?_
    obtain ⟨c21, c22, h⟩ := h
    refine u_iaload (k := a0.toNat) (z := (τ12 181 a0.toNat)) (pc' := 37) dX11_comes_36 rfl (by decide) kd_181 c21 c22 (by decide) rfl rfl (fun r23 => ?_)
    refine u_iconst (pc' := 38) dX11_comes_37 rfl ?_
    refine u_iadd (pc' := 39) dX11_comes_38 rfl ?_
    obtain ⟨c24, c25, c26, h⟩ := h
    refine u_iastore (k := a0.toNat) (pc' := 40) dX11_comes_39 rfl (by decide) kd_181 c24 c25 (by decide) rfl c26 ?_
    refine u_goto (tgt := 53) dX11_comes_40 (by decide) ?_
    refine u_iload_n (i := 2) (pc' := 54) dX11_comes_53 rfl rfl rfl ?_
    exact u_iret dX11_comes_54 rfl h
theorem mX11_comes {E : mm_Env} {d : Nat} {τ : mm_Mem} {Q : mm_Q0} {a0 : Int} (h : 0 ≤ a0 ∧ a0 < 4 ∧ 0 ≤ a0 ∧ a0 < 4 ∧ inR ((τ 179 a0.toNat) + 1) ∧ M0 E d qX11_person4 [vR 140, vI a0] (wr τ 179 a0.toNat ((τ 179 a0.toNat) + 1)) (fun v τ7 => ∃ r8 : Int, v = some (vI r8) ∧ 0 ≤ r8 ∧ r8 < 8 ∧ M0 E d qX11_hearsNow [vR 140, vI (τ7 159 r8.toNat)] τ7 (fun v τ12 => ∃ r13 : Int, v = some (vI r13) ∧ inR r13 ∧ ((r13 ≠ (-1) → 0 ≤ a0 ∧ a0 < 4 ∧ 0 ≤ a0 ∧ a0 < 4 ∧ inR ((τ12 180 a0.toNat) + 1) ∧ Q (some (vI r13)) (wr τ12 180 a0.toNat ((τ12 180 a0.toNat) + 1))) ∧ (r13 = (-1) → 0 ≤ a0 ∧ a0 < 4 ∧ 0 ≤ a0 ∧ a0 < 4 ∧ inR ((τ12 181 a0.toNat) + 1) ∧ Q (some (vI r13)) (wr τ12 181 a0.toNat ((τ12 181 a0.toNat) + 1))))))) : M0 E (d + 1) qX11_comes [vR 140, vI a0] τ Q := M0_of rfl (Nat.le_of_ble_eq_true rfl) [some (vR 140), some (vI a0), none] rfl (bX11_comes_0  h)
set_option maxRecDepth 20000 in
theorem bX11_hearsNow_0 {E : mm_Env} {d : Nat} {τ : mm_Mem} {Q : mm_Q0} {a0 : Int} (h : M0 E d qX11_hears [vR 140, vI a0] τ (fun v τ1 => ∃ r2 : Int, v = some (vI r2) ∧ inR r2 ∧ ((r2 ≠ (-1) → 0 ≤ a0 ∧ a0 < 4 ∧ 0 ≤ a0 ∧ a0 < 4 ∧ 0 ≤ a0 ∧ a0 < 4 ∧ inR ((τ1 186 a0.toNat) + 1) ∧ Q (some (vI r2)) (wr (wr τ1 185 a0.toNat r2) 186 a0.toNat ((τ1 186 a0.toNat) + 1))) ∧ (r2 = (-1) → 0 ≤ a0 ∧ a0 < 4 ∧ 0 ≤ a0 ∧ a0 < 4 ∧ inR ((τ1 187 a0.toNat) + 1) ∧ Q (some (vI r2)) (wr τ1 187 a0.toNat ((τ1 187 a0.toNat) + 1)))))) : V0 E (d + 1) qX11_hearsNow 0 [some (vR 140), some (vI a0), none] [] τ Q := by
  refine u_aload_n (i := 0) (pc' := 1) dX11_hearsNow_0 rfl rfl rfl ?_
  refine u_iload_n (i := 1) (pc' := 2) dX11_hearsNow_1 rfl rfl rfl ?_
  refine u_invV (q' := qX11_hears) (As := [vI a0]) (st := []) (pc' := 5) dX11_hearsNow_2 rfl gX11_hears wm_1759 rfl rfl (by decide) kd_140 wm_1761 wp_120 rfl (Nat.le_of_ble_eq_true rfl) (M0.mono h (fun v τ1 h => ?_))
  obtain ⟨r2, rfl, h⟩ := h
  show V0 E (d + 1) qX11_hearsNow 5 [some (vR 140), some (vI a0), none] [vI r2] τ1 Q
  refine s_istore_n (i := 2) (ls' := [some (vR 140), some (vI a0), some (vI r2)]) (pc' := 6) dX11_hearsNow_5 rfl rfl (Nat.le_of_ble_eq_true rfl) rfl rfl ?_
  refine u_iload_n (i := 2) (pc' := 7) dX11_hearsNow_6 rfl rfl rfl ?_
  refine u_iconst (pc' := 8) dX11_hearsNow_7 rfl ?_
  obtain ⟨c3, h⟩ := h
  refine u_icmp_ne (tgt := 24) (pc' := 11) dX11_hearsNow_8 rfl (by decide) c3 ⟨by decide, by decide⟩ (fun hb => ?_) (fun hb => ?_)
  · have h := h.1 hb
    refine u_aload_n (i := 0) (pc' := 25) dX11_hearsNow_24 rfl rfl rfl ?_
    refine u_getR (a := 185) (pc' := 28) dX11_hearsNow_25 rfl fl_TuneDoorModel_201 rfl (by decide) kd_140 rfl ?_
    refine u_iload_n (i := 1) (pc' := 29) dX11_hearsNow_28 rfl rfl rfl ?_
    refine u_iload_n (i := 2) (pc' := 30) dX11_hearsNow_29 rfl rfl rfl ?_
    obtain ⟨c4, c5, h⟩ := h
    refine u_iastore (k := a0.toNat) (pc' := 31) dX11_hearsNow_30 rfl (by decide) kd_185 c4 c5 (by decide) rfl c3 ?_
    refine u_aload_n (i := 0) (pc' := 32) dX11_hearsNow_31 rfl rfl rfl ?_
    refine u_getR (a := 186) (pc' := 35) dX11_hearsNow_32 rfl fl_TuneDoorModel_204 rfl (by decide) kd_140 rfl ?_
    refine u_iload_n (i := 1) (pc' := 36) dX11_hearsNow_35 rfl rfl rfl ?_
    refine u_dup2 (pc' := 37) dX11_hearsNow_36 rfl (fun _ hh => by cases hh) (fun _ hh => by cases hh) ?_
    obtain ⟨c6, c7, h⟩ := h
    refine u_iaload (k := a0.toNat) (z := (τ1 186 a0.toNat)) (pc' := 38) dX11_hearsNow_37 rfl (by decide) kd_186 c6 c7 (by decide) rfl rfl (fun r8 => ?_)
    refine u_iconst (pc' := 39) dX11_hearsNow_38 rfl ?_
    refine u_iadd (pc' := 40) dX11_hearsNow_39 rfl ?_
    obtain ⟨c9, c10, c11, h⟩ := h
    refine u_iastore (k := a0.toNat) (pc' := 41) dX11_hearsNow_40 rfl (by decide) kd_186 c9 c10 (by decide) rfl c11 ?_
    refine u_iload_n (i := 2) (pc' := 42) dX11_hearsNow_41 rfl rfl rfl ?_
    exact u_iret dX11_hearsNow_42 rfl h
  · have h := h.2 hb
    refine u_aload_n (i := 0) (pc' := 12) dX11_hearsNow_11 rfl rfl rfl ?_
    refine u_getR (a := 187) (pc' := 15) dX11_hearsNow_12 rfl fl_TuneDoorModel_207 rfl (by decide) kd_140 rfl ?_
    refine u_iload_n (i := 1) (pc' := 16) dX11_hearsNow_15 rfl rfl rfl ?_
    refine u_dup2 (pc' := 17) dX11_hearsNow_16 rfl (fun _ hh => by cases hh) (fun _ hh => by cases hh) ?_
    obtain ⟨c12, c13, h⟩ := h
    refine u_iaload (k := a0.toNat) (z := (τ1 187 a0.toNat)) (pc' := 18) dX11_hearsNow_17 rfl (by decide) kd_187 c12 c13 (by decide) rfl rfl (fun r14 => ?_)
    refine u_iconst (pc' := 19) dX11_hearsNow_18 rfl ?_
    refine u_iadd (pc' := 20) dX11_hearsNow_19 rfl ?_
    obtain ⟨c15, c16, c17, h⟩ := h
    refine u_iastore (k := a0.toNat) (pc' := 21) dX11_hearsNow_20 rfl (by decide) kd_187 c15 c16 (by decide) rfl c17 ?_
    refine u_goto (tgt := 41) dX11_hearsNow_21 (by decide) ?_
    refine u_iload_n (i := 2) (pc' := 42) dX11_hearsNow_41 rfl rfl rfl ?_
    exact u_iret dX11_hearsNow_42 rfl h
theorem mX11_hearsNow {E : mm_Env} {d : Nat} {τ : mm_Mem} {Q : mm_Q0} {a0 : Int} (h : M0 E d qX11_hears [vR 140, vI a0] τ (fun v τ1 => ∃ r2 : Int, v = some (vI r2) ∧ inR r2 ∧ ((r2 ≠ (-1) → 0 ≤ a0 ∧ a0 < 4 ∧ 0 ≤ a0 ∧ a0 < 4 ∧ 0 ≤ a0 ∧ a0 < 4 ∧ inR ((τ1 186 a0.toNat) + 1) ∧ Q (some (vI r2)) (wr (wr τ1 185 a0.toNat r2) 186 a0.toNat ((τ1 186 a0.toNat) + 1))) ∧ (r2 = (-1) → 0 ≤ a0 ∧ a0 < 4 ∧ 0 ≤ a0 ∧ a0 < 4 ∧ inR ((τ1 187 a0.toNat) + 1) ∧ Q (some (vI r2)) (wr τ1 187 a0.toNat ((τ1 187 a0.toNat) + 1)))))) : M0 E (d + 1) qX11_hearsNow [vR 140, vI a0] τ Q := M0_of rfl (Nat.le_of_ble_eq_true rfl) [some (vR 140), some (vI a0), none] rfl (bX11_hearsNow_0  h)
set_option maxRecDepth 20000 in
theorem bX11_hears_0 {E : mm_Env} {d : Nat} {τ : mm_Mem} {Q : mm_Q0} {a0 : Int} (h : V0 E (d + 1) qX11_hears 2 [some (vR 140), some (vI a0), some (vI 0), none, none] [] τ Q) : V0 E (d + 1) qX11_hears 0 [some (vR 140), some (vI a0), none, none, none] [] τ Q := by
  refine u_iconst (pc' := 1) dX11_hears_0 rfl ?_
  refine s_istore_n (i := 2) (ls' := [some (vR 140), some (vI a0), some (vI 0), none, none]) (pc' := 2) dX11_hears_1 rfl rfl (Nat.le_of_ble_eq_true rfl) rfl rfl ?_
  exact u_less (ls' := [some (vR 140), some (vI a0), some (vI 0), none, none]) ⟨rfl, ⟨rfl, ⟨rfl, trivial⟩⟩⟩ h
theorem mX11_hears {E : mm_Env} {d : Nat} {τ : mm_Mem} {Q : mm_Q0} {a0 : Int} (h : V0 E (d + 1) qX11_hears 2 [some (vR 140), some (vI a0), some (vI 0), none, none] [] τ Q) : M0 E (d + 1) qX11_hears [vR 140, vI a0] τ Q := M0_of rfl (Nat.le_of_ble_eq_true rfl) [some (vR 140), some (vI a0), none, none, none] rfl (bX11_hears_0  h)
set_option maxRecDepth 20000 in
theorem bX11_hears_2 {E : mm_Env} {d : Nat} {τ : mm_Mem} {Q : mm_Q0} {x1 : Int} {x2 : Int} (h : 0 ≤ (τ 140 12) ∧ (τ 140 12) < 2 ∧ inR x2 ∧ (((τ 144 (τ 140 12).toNat) ≤ x2 → V0 E (d + 1) qX11_hears 84 [some (vR 140), some (vI x1), some (vI 0), none, none] [] τ Q) ∧ (¬ (τ 144 (τ 140 12).toNat) ≤ x2 → M0 E d qX11_isEar [vR 140, vI x1, vI x2] τ (fun v τ6 => ∃ b7 : Bool, v = some (vB b7) ∧ ((b7 = false → V0 E (d + 1) qX11_hears 34 [some (vR 140), some (vI x1), some (vI x2), none, none] [vI (-1)] τ6 Q) ∧ (b7 = true → M0 E d qX11_opensTo [vR 140, vI x1, vI x2] τ6 (fun v τ8 => ∃ r9 : Int, v = some (vI r9) ∧ V0 E (d + 1) qX11_hears 34 [some (vR 140), some (vI x1), some (vI x2), none, none] [vI r9] τ8 Q))))))) : V0 E (d + 1) qX11_hears 2 [some (vR 140), some (vI x1), some (vI x2), none, none] [] τ Q := by
  refine u_iload_n (i := 2) (pc' := 3) dX11_hears_2 rfl rfl rfl ?_
  refine u_aload_n (i := 0) (pc' := 4) dX11_hears_3 rfl rfl rfl ?_
  refine u_getR (a := 144) (pc' := 7) dX11_hears_4 rfl fl_TuneDoorModel_57 rfl (by decide) kd_140 rfl ?_
  refine u_aload_n (i := 0) (pc' := 8) dX11_hears_7 rfl rfl rfl ?_
  refine u_getI (z := (τ 140 12)) (pc' := 11) dX11_hears_8 rfl fl_TuneDoorModel_48 rfl (by decide) (by decide) kd_140 rfl (fun r1 => ?_)
  obtain ⟨c2, c3, h⟩ := h
  refine u_iaload (k := (τ 140 12).toNat) (z := (τ 144 (τ 140 12).toNat)) (pc' := 12) dX11_hears_11 rfl (by decide) kd_144 c2 c3 (by decide) rfl rfl (fun r4 => ?_)
  obtain ⟨c5, h⟩ := h
  refine u_icmp_ge (tgt := 82) (pc' := 15) dX11_hears_12 rfl (by decide) c5 r4 (fun hb => ?_) (fun hb => ?_)
  · have h := h.1 hb
    refine u_iconst (pc' := 83) dX11_hears_82 rfl ?_
    refine s_istore_n (i := 2) (ls' := [some (vR 140), some (vI x1), some (vI 0), none, none]) (pc' := 84) dX11_hears_83 rfl rfl (Nat.le_of_ble_eq_true rfl) rfl rfl ?_
    exact u_less (ls' := [some (vR 140), some (vI x1), some (vI 0), none, none]) ⟨rfl, ⟨rfl, ⟨rfl, trivial⟩⟩⟩ h
  · have h := h.2 hb
    refine u_aload_n (i := 0) (pc' := 16) dX11_hears_15 rfl rfl rfl ?_
    refine u_iload_n (i := 1) (pc' := 17) dX11_hears_16 rfl rfl rfl ?_
    refine u_iload_n (i := 2) (pc' := 18) dX11_hears_17 rfl rfl rfl ?_
    refine u_invV (q' := qX11_isEar) (As := [vI x1, vI x2]) (st := []) (pc' := 21) dX11_hears_18 rfl gX11_isEar wm_1688 rfl rfl (by decide) kd_140 wm_1690 wp_110 rfl (Nat.le_of_ble_eq_true rfl) (M0.mono h (fun v τ6 h => ?_))
    obtain ⟨b7, rfl, h⟩ := h
    show V0 E (d + 1) qX11_hears 21 [some (vR 140), some (vI x1), some (vI x2), none, none] [vB b7] τ6 Q
    refine u_if_eq (tgt := 33) (pc' := 24) dX11_hears_21 rfl (by decide) (bI_R _) (fun hb => ?_) (fun hb => ?_)
    · have h := h.1 (bI_0.mp hb)
      refine u_iconst (pc' := 34) dX11_hears_33 rfl ?_
      exact u_less (ls' := [some (vR 140), some (vI x1), some (vI x2), none, none]) ⟨rfl, ⟨rfl, ⟨rfl, trivial⟩⟩⟩ h
    · have h := h.2 (bI_n0.mp hb)
      refine u_aload_n (i := 0) (pc' := 25) dX11_hears_24 rfl rfl rfl ?_
      refine u_iload_n (i := 1) (pc' := 26) dX11_hears_25 rfl rfl rfl ?_
      refine u_iload_n (i := 2) (pc' := 27) dX11_hears_26 rfl rfl rfl ?_
      refine u_invV (q' := qX11_opensTo) (As := [vI x1, vI x2]) (st := []) (pc' := 30) dX11_hears_27 rfl gX11_opensTo wm_1763 rfl rfl (by decide) kd_140 wm_1765 wp_121 rfl (Nat.le_of_ble_eq_true rfl) (M0.mono h (fun v τ8 h => ?_))
      obtain ⟨r9, rfl, h⟩ := h
      show V0 E (d + 1) qX11_hears 30 [some (vR 140), some (vI x1), some (vI x2), none, none] [vI r9] τ8 Q
      refine u_goto (tgt := 34) dX11_hears_30 (by decide) ?_
      exact u_less (ls' := [some (vR 140), some (vI x1), some (vI x2), none, none]) ⟨rfl, ⟨rfl, ⟨rfl, trivial⟩⟩⟩ h
set_option maxRecDepth 20000 in
theorem bX11_hears_34 {E : mm_Env} {d : Nat} {τ : mm_Mem} {Q : mm_Q0} {x1 : Int} {x2 : Int} {y0 : Int} (h : inR y0 ∧ ((y0 ≠ (-1) → 0 ≤ ((3 * x1) + x2) ∧ ((3 * x1) + x2) < 12 ∧ 0 ≤ ((3 * x1) + x2) ∧ ((3 * x1) + x2) < 12 ∧ 0 ≤ ((3 * x1) + x2) ∧ ((3 * x1) + x2) < 12 ∧ Q (some (vI x2)) (wr (wr (wr τ 182 ((3 * x1) + x2).toNat y0) 183 ((3 * x1) + x2).toNat (-1)) 184 ((3 * x1) + x2).toNat 0)) ∧ (y0 = (-1) → V0 E (d + 1) qX11_hears 2 [some (vR 140), some (vI x1), some (vI (x2 + 1)), none, none] [] τ Q))) : V0 E (d + 1) qX11_hears 34 [some (vR 140), some (vI x1), some (vI x2), none, none] [vI y0] τ Q := by
  refine s_istore_n (i := 3) (ls' := [some (vR 140), some (vI x1), some (vI x2), some (vI y0), none]) (pc' := 35) dX11_hears_34 rfl rfl (Nat.le_of_ble_eq_true rfl) rfl rfl ?_
  refine u_iload_n (i := 3) (pc' := 36) dX11_hears_35 rfl rfl rfl ?_
  refine u_iconst (pc' := 37) dX11_hears_36 rfl ?_
  obtain ⟨c1, h⟩ := h
  refine u_icmp_ne (tgt := 43) (pc' := 40) dX11_hears_37 rfl (by decide) c1 ⟨by decide, by decide⟩ (fun hb => ?_) (fun hb => ?_)
  · have h := h.1 hb
    refine u_iconst (pc' := 44) dX11_hears_43 rfl ?_
    refine u_iload_n (i := 1) (pc' := 45) dX11_hears_44 rfl rfl rfl ?_
    refine u_imul (pc' := 46) dX11_hears_45 rfl ?_
    refine u_iload_n (i := 2) (pc' := 47) dX11_hears_46 rfl rfl rfl ?_
    refine u_iadd (pc' := 48) dX11_hears_47 rfl ?_
    refine s_istore (i := 4) (ls' := [some (vR 140), some (vI x1), some (vI x2), some (vI y0), some (vI ((3 * x1) + x2))]) (pc' := 50) dX11_hears_48 rfl (Nat.le_of_ble_eq_true rfl) rfl rfl ?_
    refine u_aload_n (i := 0) (pc' := 51) dX11_hears_50 rfl rfl rfl ?_
    refine u_getR (a := 182) (pc' := 54) dX11_hears_51 rfl fl_TuneDoorModel_192 rfl (by decide) kd_140 rfl ?_
    refine u_iload (i := 4) (pc' := 56) dX11_hears_54 rfl rfl ?_
    refine u_iload_n (i := 3) (pc' := 57) dX11_hears_56 rfl rfl rfl ?_
    obtain ⟨c2, c3, h⟩ := h
    refine u_iastore (k := ((3 * x1) + x2).toNat) (pc' := 58) dX11_hears_57 rfl (by decide) kd_182 c2 c3 (by decide) rfl c1 ?_
    refine u_aload_n (i := 0) (pc' := 59) dX11_hears_58 rfl rfl rfl ?_
    refine u_getR (a := 183) (pc' := 62) dX11_hears_59 rfl fl_TuneDoorModel_195 rfl (by decide) kd_140 rfl ?_
    refine u_iload (i := 4) (pc' := 64) dX11_hears_62 rfl rfl ?_
    refine u_iconst (pc' := 65) dX11_hears_64 rfl ?_
    obtain ⟨c4, c5, h⟩ := h
    refine u_iastore (k := ((3 * x1) + x2).toNat) (pc' := 66) dX11_hears_65 rfl (by decide) kd_183 c4 c5 (by decide) rfl ⟨by decide, by decide⟩ ?_
    refine u_aload_n (i := 0) (pc' := 67) dX11_hears_66 rfl rfl rfl ?_
    refine u_getR (a := 184) (pc' := 70) dX11_hears_67 rfl fl_TuneDoorModel_198 rfl (by decide) kd_140 rfl ?_
    refine u_iload (i := 4) (pc' := 72) dX11_hears_70 rfl rfl ?_
    refine u_iconst (pc' := 73) dX11_hears_72 rfl ?_
    obtain ⟨c6, c7, h⟩ := h
    refine u_iastore (k := ((3 * x1) + x2).toNat) (pc' := 74) dX11_hears_73 rfl (by decide) kd_184 c6 c7 (by decide) rfl ⟨by decide, by decide⟩ ?_
    refine u_iload_n (i := 2) (pc' := 75) dX11_hears_74 rfl rfl rfl ?_
    exact u_iret dX11_hears_75 rfl h
  · have h := h.2 hb
    refine u_goto (tgt := 76) dX11_hears_40 (by decide) ?_
    refine s_iinc (i := 2) (ls' := [some (vR 140), some (vI x1), some (vI (x2 + 1)), some (vI y0), none]) (pc' := 79) dX11_hears_76 rfl rfl (Nat.le_of_ble_eq_true rfl) rfl rfl ?_
    refine u_goto (tgt := 2) dX11_hears_79 (by decide) ?_
    exact u_less (ls' := [some (vR 140), some (vI x1), some (vI (x2 + 1)), none, none]) ⟨rfl, ⟨rfl, ⟨rfl, trivial⟩⟩⟩ h
set_option maxRecDepth 20000 in
theorem bX11_hears_84 {E : mm_Env} {d : Nat} {τ : mm_Mem} {Q : mm_Q0} {x1 : Int} {x2 : Int} (h : 0 ≤ (τ 140 12) ∧ (τ 140 12) < 2 ∧ inR x2 ∧ (((τ 144 (τ 140 12).toNat) ≤ x2 → Q (some (vI (-1))) τ) ∧ (¬ (τ 144 (τ 140 12).toNat) ≤ x2 → M0 E d qX11_isEar [vR 140, vI x1, vI x2] τ (fun v τ6 => ∃ b7 : Bool, v = some (vB b7) ∧ ((b7 = false → V0 E (d + 1) qX11_hears 84 [some (vR 140), some (vI x1), some (vI (x2 + 1)), none, none] [] τ6 Q) ∧ (b7 = true → M0 E d qX11_misses [vR 140, vI x1, vI x2] τ6 (fun v τ8 => v = none ∧ V0 E (d + 1) qX11_hears 84 [some (vR 140), some (vI x1), some (vI (x2 + 1)), none, none] [] τ8 Q))))))) : V0 E (d + 1) qX11_hears 84 [some (vR 140), some (vI x1), some (vI x2), none, none] [] τ Q := by
  refine u_iload_n (i := 2) (pc' := 85) dX11_hears_84 rfl rfl rfl ?_
  refine u_aload_n (i := 0) (pc' := 86) dX11_hears_85 rfl rfl rfl ?_
  refine u_getR (a := 144) (pc' := 89) dX11_hears_86 rfl fl_TuneDoorModel_57 rfl (by decide) kd_140 rfl ?_
  refine u_aload_n (i := 0) (pc' := 90) dX11_hears_89 rfl rfl rfl ?_
  refine u_getI (z := (τ 140 12)) (pc' := 93) dX11_hears_90 rfl fl_TuneDoorModel_48 rfl (by decide) (by decide) kd_140 rfl (fun r1 => ?_)
  obtain ⟨c2, c3, h⟩ := h
  refine u_iaload (k := (τ 140 12).toNat) (z := (τ 144 (τ 140 12).toNat)) (pc' := 94) dX11_hears_93 rfl (by decide) kd_144 c2 c3 (by decide) rfl rfl (fun r4 => ?_)
  obtain ⟨c5, h⟩ := h
  refine u_icmp_ge (tgt := 118) (pc' := 97) dX11_hears_94 rfl (by decide) c5 r4 (fun hb => ?_) (fun hb => ?_)
  · have h := h.1 hb
    refine u_iconst (pc' := 119) dX11_hears_118 rfl ?_
    exact u_iret dX11_hears_119 rfl h
  · have h := h.2 hb
    refine u_aload_n (i := 0) (pc' := 98) dX11_hears_97 rfl rfl rfl ?_
    refine u_iload_n (i := 1) (pc' := 99) dX11_hears_98 rfl rfl rfl ?_
    refine u_iload_n (i := 2) (pc' := 100) dX11_hears_99 rfl rfl rfl ?_
    refine u_invV (q' := qX11_isEar) (As := [vI x1, vI x2]) (st := []) (pc' := 103) dX11_hears_100 rfl gX11_isEar wm_1688 rfl rfl (by decide) kd_140 wm_1690 wp_110 rfl (Nat.le_of_ble_eq_true rfl) (M0.mono h (fun v τ6 h => ?_))
    obtain ⟨b7, rfl, h⟩ := h
    show V0 E (d + 1) qX11_hears 103 [some (vR 140), some (vI x1), some (vI x2), none, none] [vB b7] τ6 Q
    refine u_if_eq (tgt := 112) (pc' := 106) dX11_hears_103 rfl (by decide) (bI_R _) (fun hb => ?_) (fun hb => ?_)
    · have h := h.1 (bI_0.mp hb)
      refine s_iinc (i := 2) (ls' := [some (vR 140), some (vI x1), some (vI (x2 + 1)), none, none]) (pc' := 115) dX11_hears_112 rfl rfl (Nat.le_of_ble_eq_true rfl) rfl rfl ?_
      refine u_goto (tgt := 84) dX11_hears_115 (by decide) ?_
      exact u_less (ls' := [some (vR 140), some (vI x1), some (vI (x2 + 1)), none, none]) ⟨rfl, ⟨rfl, ⟨rfl, trivial⟩⟩⟩ h
    · have h := h.2 (bI_n0.mp hb)
      refine u_aload_n (i := 0) (pc' := 107) dX11_hears_106 rfl rfl rfl ?_
      refine u_iload_n (i := 1) (pc' := 108) dX11_hears_107 rfl rfl rfl ?_
      refine u_iload_n (i := 2) (pc' := 109) dX11_hears_108 rfl rfl rfl ?_
      refine u_invV (q' := qX11_misses) (As := [vI x1, vI x2]) (st := []) (pc' := 112) dX11_hears_109 rfl gX11_misses wm_1775 rfl rfl (by decide) kd_140 wm_1777 wp_124 rfl (Nat.le_of_ble_eq_true rfl) (M0.mono h (fun v τ8 h => ?_))
      obtain ⟨rfl, h⟩ := h
      show V0 E (d + 1) qX11_hears 112 [some (vR 140), some (vI x1), some (vI x2), none, none] [] τ8 Q
      refine s_iinc (i := 2) (ls' := [some (vR 140), some (vI x1), some (vI (x2 + 1)), none, none]) (pc' := 115) dX11_hears_112 rfl rfl (Nat.le_of_ble_eq_true rfl) rfl rfl ?_
      refine u_goto (tgt := 84) dX11_hears_115 (by decide) ?_
      exact u_less (ls' := [some (vR 140), some (vI x1), some (vI (x2 + 1)), none, none]) ⟨rfl, ⟨rfl, ⟨rfl, trivial⟩⟩⟩ h
set_option maxRecDepth 20000 in
theorem bX11_opensTo_0 {E : mm_Env} {d : Nat} {τ : mm_Mem} {Q : mm_Q0} {a0 : Int} {a1 : Int} (h : M0 E d qX11_door4 [vR 140, vI a0] τ (fun v τ1 => ∃ r2 : Int, v = some (vI r2) ∧ 0 ≤ r2 ∧ r2 < 8 ∧ M0 E d qX11_door4 [vR 140, vI a0] τ1 (fun v τ6 => ∃ r7 : Int, v = some (vI r7) ∧ 0 ≤ r7 ∧ r7 < 8 ∧ M0 E d qX11_door4 [vR 140, vI a0] τ6 (fun v τ11 => ∃ r12 : Int, v = some (vI r12) ∧ 0 ≤ r12 ∧ r12 < 8 ∧ 0 ≤ ((3 * a0) + a1) ∧ ((3 * a0) + a1) < 12 ∧ (((τ1 154 r2.toNat) = 0 → V0 E (d + 1) qX11_opensTo 95 [some (vR 140), none, some (vI a1), some (vI ((3 * a0) + a1)), some (vI (τ1 154 r2.toNat)), none, some (vI (τ11 156 r12.toNat)), some (vI (τ11 182 ((3 * a0) + a1).toNat)), some (vI 0), some (vI (τ11 182 ((3 * a0) + a1).toNat))] [] τ11 Q) ∧ (¬ (τ1 154 r2.toNat) = 0 → (((τ1 154 r2.toNat) ≠ 2 → (((τ1 154 r2.toNat) ≠ 4 → V0 E (d + 1) qX11_opensTo 95 [some (vR 140), none, some (vI a1), some (vI ((3 * a0) + a1)), some (vI (τ1 154 r2.toNat)), none, some (vI (τ11 156 r12.toNat)), some (vI (τ11 182 ((3 * a0) + a1).toNat)), some (vI (τ6 155 r7.toNat)), some (vI (τ11 182 ((3 * a0) + a1).toNat))] [] τ11 Q) ∧ ((τ1 154 r2.toNat) = 4 → 0 ≤ ((3 * a0) + a1) ∧ ((3 * a0) + a1) < 12 ∧ (((τ11 184 ((3 * a0) + a1).toNat) < (τ11 156 r12.toNat) → V0 E (d + 1) qX11_opensTo 95 [some (vR 140), none, some (vI a1), some (vI ((3 * a0) + a1)), some (vI (τ1 154 r2.toNat)), none, some (vI (τ11 156 r12.toNat)), some (vI (τ11 182 ((3 * a0) + a1).toNat)), some (vI (τ6 155 r7.toNat)), some (vI (τ11 182 ((3 * a0) + a1).toNat))] [] τ11 Q) ∧ (¬ (τ11 184 ((3 * a0) + a1).toNat) < (τ11 156 r12.toNat) → V0 E (d + 1) qX11_opensTo 95 [some (vR 140), none, some (vI a1), some (vI ((3 * a0) + a1)), some (vI (τ1 154 r2.toNat)), none, some (vI (τ11 156 r12.toNat)), some (vI (τ11 182 ((3 * a0) + a1).toNat)), some (vI 40), some (vI (τ11 182 ((3 * a0) + a1).toNat))] [] τ11 Q))))) ∧ ((τ1 154 r2.toNat) = 2 → V0 E (d + 1) qX11_opensTo 95 [some (vR 140), none, some (vI a1), some (vI ((3 * a0) + a1)), some (vI (τ1 154 r2.toNat)), none, some (vI (τ11 156 r12.toNat)), some (vI (τ11 182 ((3 * a0) + a1).toNat)), some (vI 0), some (vI (τ11 182 ((3 * a0) + a1).toNat))] [] τ11 Q)))))))) : V0 E (d + 1) qX11_opensTo 0 [some (vR 140), some (vI a0), some (vI a1), none, none, none, none, none, none, none] [] τ Q := by
  refine u_iconst (pc' := 1) dX11_opensTo_0 rfl ?_
  refine u_iload_n (i := 1) (pc' := 2) dX11_opensTo_1 rfl rfl rfl ?_
  refine u_imul (pc' := 3) dX11_opensTo_2 rfl ?_
  refine u_iload_n (i := 2) (pc' := 4) dX11_opensTo_3 rfl rfl rfl ?_
  refine u_iadd (pc' := 5) dX11_opensTo_4 rfl ?_
  refine s_istore_n (i := 3) (ls' := [some (vR 140), some (vI a0), some (vI a1), some (vI ((3 * a0) + a1)), none, none, none, none, none, none]) (pc' := 6) dX11_opensTo_5 rfl rfl (Nat.le_of_ble_eq_true rfl) rfl rfl ?_
  refine u_aload_n (i := 0) (pc' := 7) dX11_opensTo_6 rfl rfl rfl ?_
  refine u_getR (a := 154) (pc' := 10) dX11_opensTo_7 rfl fl_TuneDoorModel_88 rfl (by decide) kd_140 rfl ?_
  refine u_aload_n (i := 0) (pc' := 11) dX11_opensTo_10 rfl rfl rfl ?_
  refine u_iload_n (i := 1) (pc' := 12) dX11_opensTo_11 rfl rfl rfl ?_
  refine u_invV (q' := qX11_door4) (As := [vI a0]) (st := [vR 154]) (pc' := 15) dX11_opensTo_12 rfl gX11_door4 wm_1696 rfl rfl (by decide) kd_140 wm_1698 wp_112 rfl (Nat.le_of_ble_eq_true rfl) (M0.mono h (fun v τ1 h => ?_))
  obtain ⟨r2, rfl, h⟩ := h
  show V0 E (d + 1) qX11_opensTo 15 [some (vR 140), some (vI a0), some (vI a1), some (vI ((3 * a0) + a1)), none, none, none, none, none, none] [vI r2, vR 154] τ1 Q
  obtain ⟨c3, c4, h⟩ := h
  refine u_iaload (k := r2.toNat) (z := (τ1 154 r2.toNat)) (pc' := 16) dX11_opensTo_15 rfl (by decide) kd_154 c3 c4 (by decide) rfl rfl (fun r5 => ?_)
  refine s_istore (i := 4) (ls' := [some (vR 140), some (vI a0), some (vI a1), some (vI ((3 * a0) + a1)), some (vI (τ1 154 r2.toNat)), none, none, none, none, none]) (pc' := 18) dX11_opensTo_16 rfl (Nat.le_of_ble_eq_true rfl) rfl rfl ?_
  refine u_aload_n (i := 0) (pc' := 19) dX11_opensTo_18 rfl rfl rfl ?_
  refine u_getR (a := 155) (pc' := 22) dX11_opensTo_19 rfl fl_TuneDoorModel_91 rfl (by decide) kd_140 rfl ?_
  refine u_aload_n (i := 0) (pc' := 23) dX11_opensTo_22 rfl rfl rfl ?_
  refine u_iload_n (i := 1) (pc' := 24) dX11_opensTo_23 rfl rfl rfl ?_
  refine u_invV (q' := qX11_door4) (As := [vI a0]) (st := [vR 155]) (pc' := 27) dX11_opensTo_24 rfl gX11_door4 wm_1696 rfl rfl (by decide) kd_140 wm_1698 wp_112 rfl (Nat.le_of_ble_eq_true rfl) (M0.mono h (fun v τ6 h => ?_))
  obtain ⟨r7, rfl, h⟩ := h
  show V0 E (d + 1) qX11_opensTo 27 [some (vR 140), some (vI a0), some (vI a1), some (vI ((3 * a0) + a1)), some (vI (τ1 154 r2.toNat)), none, none, none, none, none] [vI r7, vR 155] τ6 Q
  obtain ⟨c8, c9, h⟩ := h
  refine u_iaload (k := r7.toNat) (z := (τ6 155 r7.toNat)) (pc' := 28) dX11_opensTo_27 rfl (by decide) kd_155 c8 c9 (by decide) rfl rfl (fun r10 => ?_)
  refine s_istore (i := 5) (ls' := [some (vR 140), some (vI a0), some (vI a1), some (vI ((3 * a0) + a1)), some (vI (τ1 154 r2.toNat)), some (vI (τ6 155 r7.toNat)), none, none, none, none]) (pc' := 30) dX11_opensTo_28 rfl (Nat.le_of_ble_eq_true rfl) rfl rfl ?_
  refine u_aload_n (i := 0) (pc' := 31) dX11_opensTo_30 rfl rfl rfl ?_
  refine u_getR (a := 156) (pc' := 34) dX11_opensTo_31 rfl fl_TuneDoorModel_94 rfl (by decide) kd_140 rfl ?_
  refine u_aload_n (i := 0) (pc' := 35) dX11_opensTo_34 rfl rfl rfl ?_
  refine u_iload_n (i := 1) (pc' := 36) dX11_opensTo_35 rfl rfl rfl ?_
  refine u_invV (q' := qX11_door4) (As := [vI a0]) (st := [vR 156]) (pc' := 39) dX11_opensTo_36 rfl gX11_door4 wm_1696 rfl rfl (by decide) kd_140 wm_1698 wp_112 rfl (Nat.le_of_ble_eq_true rfl) (M0.mono h (fun v τ11 h => ?_))
  obtain ⟨r12, rfl, h⟩ := h
  show V0 E (d + 1) qX11_opensTo 39 [some (vR 140), some (vI a0), some (vI a1), some (vI ((3 * a0) + a1)), some (vI (τ1 154 r2.toNat)), some (vI (τ6 155 r7.toNat)), none, none, none, none] [vI r12, vR 156] τ11 Q
  obtain ⟨c13, c14, h⟩ := h
  refine u_iaload (k := r12.toNat) (z := (τ11 156 r12.toNat)) (pc' := 40) dX11_opensTo_39 rfl (by decide) kd_156 c13 c14 (by decide) rfl rfl (fun r15 => ?_)
  refine s_istore (i := 6) (ls' := [some (vR 140), some (vI a0), some (vI a1), some (vI ((3 * a0) + a1)), some (vI (τ1 154 r2.toNat)), some (vI (τ6 155 r7.toNat)), some (vI (τ11 156 r12.toNat)), none, none, none]) (pc' := 42) dX11_opensTo_40 rfl (Nat.le_of_ble_eq_true rfl) rfl rfl ?_
  refine u_aload_n (i := 0) (pc' := 43) dX11_opensTo_42 rfl rfl rfl ?_
  refine u_getR (a := 182) (pc' := 46) dX11_opensTo_43 rfl fl_TuneDoorModel_192 rfl (by decide) kd_140 rfl ?_
  refine u_iload_n (i := 3) (pc' := 47) dX11_opensTo_46 rfl rfl rfl ?_
  obtain ⟨c16, c17, h⟩ := h
  refine u_iaload (k := ((3 * a0) + a1).toNat) (z := (τ11 182 ((3 * a0) + a1).toNat)) (pc' := 48) dX11_opensTo_47 rfl (by decide) kd_182 c16 c17 (by decide) rfl rfl (fun r18 => ?_)
  refine s_istore (i := 7) (ls' := [some (vR 140), some (vI a0), some (vI a1), some (vI ((3 * a0) + a1)), some (vI (τ1 154 r2.toNat)), some (vI (τ6 155 r7.toNat)), some (vI (τ11 156 r12.toNat)), some (vI (τ11 182 ((3 * a0) + a1).toNat)), none, none]) (pc' := 50) dX11_opensTo_48 rfl (Nat.le_of_ble_eq_true rfl) rfl rfl ?_
  refine u_iload (i := 4) (pc' := 52) dX11_opensTo_50 rfl rfl ?_
  refine u_if_eq (tgt := 61) (pc' := 55) dX11_opensTo_52 rfl (by decide) r5 (fun hb => ?_) (fun hb => ?_)
  · have h := h.1 hb
    refine u_iconst (pc' := 62) dX11_opensTo_61 rfl ?_
    refine u_goto (tgt := 89) dX11_opensTo_62 (by decide) ?_
    refine s_istore (i := 8) (ls' := [some (vR 140), some (vI a0), some (vI a1), some (vI ((3 * a0) + a1)), some (vI (τ1 154 r2.toNat)), some (vI (τ6 155 r7.toNat)), some (vI (τ11 156 r12.toNat)), some (vI (τ11 182 ((3 * a0) + a1).toNat)), some (vI 0), none]) (pc' := 91) dX11_opensTo_89 rfl (Nat.le_of_ble_eq_true rfl) rfl rfl ?_
    refine u_iload (i := 7) (pc' := 93) dX11_opensTo_91 rfl rfl ?_
    refine s_istore (i := 9) (ls' := [some (vR 140), some (vI a0), some (vI a1), some (vI ((3 * a0) + a1)), some (vI (τ1 154 r2.toNat)), some (vI (τ6 155 r7.toNat)), some (vI (τ11 156 r12.toNat)), some (vI (τ11 182 ((3 * a0) + a1).toNat)), some (vI 0), some (vI (τ11 182 ((3 * a0) + a1).toNat))]) (pc' := 95) dX11_opensTo_93 rfl (Nat.le_of_ble_eq_true rfl) rfl rfl ?_
    exact u_less (ls' := [some (vR 140), none, some (vI a1), some (vI ((3 * a0) + a1)), some (vI (τ1 154 r2.toNat)), none, some (vI (τ11 156 r12.toNat)), some (vI (τ11 182 ((3 * a0) + a1).toNat)), some (vI 0), some (vI (τ11 182 ((3 * a0) + a1).toNat))]) ⟨rfl, ⟨rfl, ⟨rfl, ⟨rfl, ⟨rfl, ⟨rfl, ⟨rfl, ⟨rfl, trivial⟩⟩⟩⟩⟩⟩⟩⟩ h
  · have h := h.2 hb
    refine u_iload (i := 4) (pc' := 57) dX11_opensTo_55 rfl rfl ?_
    refine u_iconst (pc' := 58) dX11_opensTo_57 rfl ?_
    refine u_icmp_ne (tgt := 65) (pc' := 61) dX11_opensTo_58 rfl (by decide) r5 ⟨by decide, by decide⟩ (fun hb => ?_) (fun hb => ?_)
    · have h := h.1 hb
      refine u_iload (i := 4) (pc' := 67) dX11_opensTo_65 rfl rfl ?_
      refine u_iconst (pc' := 68) dX11_opensTo_67 rfl ?_
      refine u_icmp_ne (tgt := 87) (pc' := 71) dX11_opensTo_68 rfl (by decide) r5 ⟨by decide, by decide⟩ (fun hb => ?_) (fun hb => ?_)
      · have h := h.1 hb
        refine u_iload (i := 5) (pc' := 89) dX11_opensTo_87 rfl rfl ?_
        refine s_istore (i := 8) (ls' := [some (vR 140), some (vI a0), some (vI a1), some (vI ((3 * a0) + a1)), some (vI (τ1 154 r2.toNat)), some (vI (τ6 155 r7.toNat)), some (vI (τ11 156 r12.toNat)), some (vI (τ11 182 ((3 * a0) + a1).toNat)), some (vI (τ6 155 r7.toNat)), none]) (pc' := 91) dX11_opensTo_89 rfl (Nat.le_of_ble_eq_true rfl) rfl rfl ?_
        refine u_iload (i := 7) (pc' := 93) dX11_opensTo_91 rfl rfl ?_
        refine s_istore (i := 9) (ls' := [some (vR 140), some (vI a0), some (vI a1), some (vI ((3 * a0) + a1)), some (vI (τ1 154 r2.toNat)), some (vI (τ6 155 r7.toNat)), some (vI (τ11 156 r12.toNat)), some (vI (τ11 182 ((3 * a0) + a1).toNat)), some (vI (τ6 155 r7.toNat)), some (vI (τ11 182 ((3 * a0) + a1).toNat))]) (pc' := 95) dX11_opensTo_93 rfl (Nat.le_of_ble_eq_true rfl) rfl rfl ?_
        exact u_less (ls' := [some (vR 140), none, some (vI a1), some (vI ((3 * a0) + a1)), some (vI (τ1 154 r2.toNat)), none, some (vI (τ11 156 r12.toNat)), some (vI (τ11 182 ((3 * a0) + a1).toNat)), some (vI (τ6 155 r7.toNat)), some (vI (τ11 182 ((3 * a0) + a1).toNat))]) ⟨rfl, ⟨rfl, ⟨rfl, ⟨rfl, ⟨rfl, ⟨rfl, ⟨rfl, ⟨rfl, trivial⟩⟩⟩⟩⟩⟩⟩⟩ h
      · have h := h.2 hb
        refine u_aload_n (i := 0) (pc' := 72) dX11_opensTo_71 rfl rfl rfl ?_
        refine u_getR (a := 184) (pc' := 75) dX11_opensTo_72 rfl fl_TuneDoorModel_198 rfl (by decide) kd_140 rfl ?_
        refine u_iload_n (i := 3) (pc' := 76) dX11_opensTo_75 rfl rfl rfl ?_
        obtain ⟨c19, c20, h⟩ := h
        refine u_iaload (k := ((3 * a0) + a1).toNat) (z := (τ11 184 ((3 * a0) + a1).toNat)) (pc' := 77) dX11_opensTo_76 rfl (by decide) kd_184 c19 c20 (by decide) rfl rfl (fun r21 => ?_)
        refine u_iload (i := 6) (pc' := 79) dX11_opensTo_77 rfl rfl ?_
        refine u_icmp_lt (tgt := 87) (pc' := 82) dX11_opensTo_79 rfl (by decide) r21 r15 (fun hb => ?_) (fun hb => ?_)
        · have h := h.1 hb
          refine u_iload (i := 5) (pc' := 89) dX11_opensTo_87 rfl rfl ?_
          refine s_istore (i := 8) (ls' := [some (vR 140), some (vI a0), some (vI a1), some (vI ((3 * a0) + a1)), some (vI (τ1 154 r2.toNat)), some (vI (τ6 155 r7.toNat)), some (vI (τ11 156 r12.toNat)), some (vI (τ11 182 ((3 * a0) + a1).toNat)), some (vI (τ6 155 r7.toNat)), none]) (pc' := 91) dX11_opensTo_89 rfl (Nat.le_of_ble_eq_true rfl) rfl rfl ?_
          refine u_iload (i := 7) (pc' := 93) dX11_opensTo_91 rfl rfl ?_
          refine s_istore (i := 9) (ls' := [some (vR 140), some (vI a0), some (vI a1), some (vI ((3 * a0) + a1)), some (vI (τ1 154 r2.toNat)), some (vI (τ6 155 r7.toNat)), some (vI (τ11 156 r12.toNat)), some (vI (τ11 182 ((3 * a0) + a1).toNat)), some (vI (τ6 155 r7.toNat)), some (vI (τ11 182 ((3 * a0) + a1).toNat))]) (pc' := 95) dX11_opensTo_93 rfl (Nat.le_of_ble_eq_true rfl) rfl rfl ?_
          exact u_less (ls' := [some (vR 140), none, some (vI a1), some (vI ((3 * a0) + a1)), some (vI (τ1 154 r2.toNat)), none, some (vI (τ11 156 r12.toNat)), some (vI (τ11 182 ((3 * a0) + a1).toNat)), some (vI (τ6 155 r7.toNat)), some (vI (τ11 182 ((3 * a0) + a1).toNat))]) ⟨rfl, ⟨rfl, ⟨rfl, ⟨rfl, ⟨rfl, ⟨rfl, ⟨rfl, ⟨rfl, trivial⟩⟩⟩⟩⟩⟩⟩⟩ h
        · have h := h.2 hb
          refine u_bipush (pc' := 84) dX11_opensTo_82 rfl (by decide) ?_
          refine u_goto (tgt := 89) dX11_opensTo_84 (by decide) ?_
          refine s_istore (i := 8) (ls' := [some (vR 140), some (vI a0), some (vI a1), some (vI ((3 * a0) + a1)), some (vI (τ1 154 r2.toNat)), some (vI (τ6 155 r7.toNat)), some (vI (τ11 156 r12.toNat)), some (vI (τ11 182 ((3 * a0) + a1).toNat)), some (vI 40), none]) (pc' := 91) dX11_opensTo_89 rfl (Nat.le_of_ble_eq_true rfl) rfl rfl ?_
          refine u_iload (i := 7) (pc' := 93) dX11_opensTo_91 rfl rfl ?_
          refine s_istore (i := 9) (ls' := [some (vR 140), some (vI a0), some (vI a1), some (vI ((3 * a0) + a1)), some (vI (τ1 154 r2.toNat)), some (vI (τ6 155 r7.toNat)), some (vI (τ11 156 r12.toNat)), some (vI (τ11 182 ((3 * a0) + a1).toNat)), some (vI 40), some (vI (τ11 182 ((3 * a0) + a1).toNat))]) (pc' := 95) dX11_opensTo_93 rfl (Nat.le_of_ble_eq_true rfl) rfl rfl ?_
          exact u_less (ls' := [some (vR 140), none, some (vI a1), some (vI ((3 * a0) + a1)), some (vI (τ1 154 r2.toNat)), none, some (vI (τ11 156 r12.toNat)), some (vI (τ11 182 ((3 * a0) + a1).toNat)), some (vI 40), some (vI (τ11 182 ((3 * a0) + a1).toNat))]) ⟨rfl, ⟨rfl, ⟨rfl, ⟨rfl, ⟨rfl, ⟨rfl, ⟨rfl, ⟨rfl, trivial⟩⟩⟩⟩⟩⟩⟩⟩ h
    · have h := h.2 hb
      refine u_iconst (pc' := 62) dX11_opensTo_61 rfl ?_
      refine u_goto (tgt := 89) dX11_opensTo_62 (by decide) ?_
      refine s_istore (i := 8) (ls' := [some (vR 140), some (vI a0), some (vI a1), some (vI ((3 * a0) + a1)), some (vI (τ1 154 r2.toNat)), some (vI (τ6 155 r7.toNat)), some (vI (τ11 156 r12.toNat)), some (vI (τ11 182 ((3 * a0) + a1).toNat)), some (vI 0), none]) (pc' := 91) dX11_opensTo_89 rfl (Nat.le_of_ble_eq_true rfl) rfl rfl ?_
      refine u_iload (i := 7) (pc' := 93) dX11_opensTo_91 rfl rfl ?_
      refine s_istore (i := 9) (ls' := [some (vR 140), some (vI a0), some (vI a1), some (vI ((3 * a0) + a1)), some (vI (τ1 154 r2.toNat)), some (vI (τ6 155 r7.toNat)), some (vI (τ11 156 r12.toNat)), some (vI (τ11 182 ((3 * a0) + a1).toNat)), some (vI 0), some (vI (τ11 182 ((3 * a0) + a1).toNat))]) (pc' := 95) dX11_opensTo_93 rfl (Nat.le_of_ble_eq_true rfl) rfl rfl ?_
      exact u_less (ls' := [some (vR 140), none, some (vI a1), some (vI ((3 * a0) + a1)), some (vI (τ1 154 r2.toNat)), none, some (vI (τ11 156 r12.toNat)), some (vI (τ11 182 ((3 * a0) + a1).toNat)), some (vI 0), some (vI (τ11 182 ((3 * a0) + a1).toNat))]) ⟨rfl, ⟨rfl, ⟨rfl, ⟨rfl, ⟨rfl, ⟨rfl, ⟨rfl, ⟨rfl, trivial⟩⟩⟩⟩⟩⟩⟩⟩ h
theorem mX11_opensTo {E : mm_Env} {d : Nat} {τ : mm_Mem} {Q : mm_Q0} {a0 : Int} {a1 : Int} (h : M0 E d qX11_door4 [vR 140, vI a0] τ (fun v τ1 => ∃ r2 : Int, v = some (vI r2) ∧ 0 ≤ r2 ∧ r2 < 8 ∧ M0 E d qX11_door4 [vR 140, vI a0] τ1 (fun v τ6 => ∃ r7 : Int, v = some (vI r7) ∧ 0 ≤ r7 ∧ r7 < 8 ∧ M0 E d qX11_door4 [vR 140, vI a0] τ6 (fun v τ11 => ∃ r12 : Int, v = some (vI r12) ∧ 0 ≤ r12 ∧ r12 < 8 ∧ 0 ≤ ((3 * a0) + a1) ∧ ((3 * a0) + a1) < 12 ∧ (((τ1 154 r2.toNat) = 0 → V0 E (d + 1) qX11_opensTo 95 [some (vR 140), none, some (vI a1), some (vI ((3 * a0) + a1)), some (vI (τ1 154 r2.toNat)), none, some (vI (τ11 156 r12.toNat)), some (vI (τ11 182 ((3 * a0) + a1).toNat)), some (vI 0), some (vI (τ11 182 ((3 * a0) + a1).toNat))] [] τ11 Q) ∧ (¬ (τ1 154 r2.toNat) = 0 → (((τ1 154 r2.toNat) ≠ 2 → (((τ1 154 r2.toNat) ≠ 4 → V0 E (d + 1) qX11_opensTo 95 [some (vR 140), none, some (vI a1), some (vI ((3 * a0) + a1)), some (vI (τ1 154 r2.toNat)), none, some (vI (τ11 156 r12.toNat)), some (vI (τ11 182 ((3 * a0) + a1).toNat)), some (vI (τ6 155 r7.toNat)), some (vI (τ11 182 ((3 * a0) + a1).toNat))] [] τ11 Q) ∧ ((τ1 154 r2.toNat) = 4 → 0 ≤ ((3 * a0) + a1) ∧ ((3 * a0) + a1) < 12 ∧ (((τ11 184 ((3 * a0) + a1).toNat) < (τ11 156 r12.toNat) → V0 E (d + 1) qX11_opensTo 95 [some (vR 140), none, some (vI a1), some (vI ((3 * a0) + a1)), some (vI (τ1 154 r2.toNat)), none, some (vI (τ11 156 r12.toNat)), some (vI (τ11 182 ((3 * a0) + a1).toNat)), some (vI (τ6 155 r7.toNat)), some (vI (τ11 182 ((3 * a0) + a1).toNat))] [] τ11 Q) ∧ (¬ (τ11 184 ((3 * a0) + a1).toNat) < (τ11 156 r12.toNat) → V0 E (d + 1) qX11_opensTo 95 [some (vR 140), none, some (vI a1), some (vI ((3 * a0) + a1)), some (vI (τ1 154 r2.toNat)), none, some (vI (τ11 156 r12.toNat)), some (vI (τ11 182 ((3 * a0) + a1).toNat)), some (vI 40), some (vI (τ11 182 ((3 * a0) + a1).toNat))] [] τ11 Q))))) ∧ ((τ1 154 r2.toNat) = 2 → V0 E (d + 1) qX11_opensTo 95 [some (vR 140), none, some (vI a1), some (vI ((3 * a0) + a1)), some (vI (τ1 154 r2.toNat)), none, some (vI (τ11 156 r12.toNat)), some (vI (τ11 182 ((3 * a0) + a1).toNat)), some (vI 0), some (vI (τ11 182 ((3 * a0) + a1).toNat))] [] τ11 Q)))))))) : M0 E (d + 1) qX11_opensTo [vR 140, vI a0, vI a1] τ Q := M0_of rfl (Nat.le_of_ble_eq_true rfl) [some (vR 140), some (vI a0), some (vI a1), none, none, none, none, none, none, none] rfl (bX11_opensTo_0  h)
set_option maxRecDepth 20000 in
theorem bX11_opensTo_95 {E : mm_Env} {d : Nat} {τ : mm_Mem} {Q : mm_Q0} {x2 : Int} {x3 : Int} {x4 : Int} {x6 : Int} {x7 : Int} {x8 : Int} {x9 : Int} (h : inR x9 ∧ inR (x7 + x8) ∧ (((x7 + x8) < x9 → inR x4 ∧ ((x4 ≠ 1 → V0 E (d + 1) qX11_opensTo 196 [some (vR 140), none, some (vI x2), some (vI x3), some (vI x4), none, none, none, none, none] [] τ Q) ∧ (x4 = 1 → V0 E (d + 1) qX11_opensTo 167 [some (vR 140), none, some (vI x2), some (vI x3), some (vI x4), none, some (vI x6), some (vI x7), none, some (vI (x7 - 1))] [] τ Q))) ∧ (¬ (x7 + x8) < x9 → ((1000 ≤ x9 → inR x4 ∧ ((x4 ≠ 1 → V0 E (d + 1) qX11_opensTo 196 [some (vR 140), none, some (vI x2), some (vI x3), some (vI x4), none, none, none, none, none] [] τ Q) ∧ (x4 = 1 → V0 E (d + 1) qX11_opensTo 167 [some (vR 140), none, some (vI x2), some (vI x3), some (vI x4), none, some (vI x6), some (vI x7), none, some (vI (x7 - 1))] [] τ Q))) ∧ (¬ 1000 ≤ x9 → inR x4 ∧ ((x4 ≠ 3 → M0 E d qX11_isHeard [vR 140, vI x2, vI x9] τ (fun v τ6 => ∃ b7 : Bool, v = some (vB b7) ∧ ((b7 = false → V0 E (d + 1) qX11_opensTo 95 [some (vR 140), none, some (vI x2), some (vI x3), some (vI x4), none, some (vI x6), some (vI x7), some (vI x8), some (vI (x9 + 1))] [] τ6 Q) ∧ (b7 = true → Q (some (vI (x9 + 1))) τ6)))) ∧ (x4 = 3 → M0 E d qX11_unlike [vR 140, vI x2, vI x9] τ (fun v τ8 => ∃ r9 : Int, v = some (vI r9) ∧ inR r9 ∧ inR x6 ∧ ((x6 < r9 → V0 E (d + 1) qX11_opensTo 95 [some (vR 140), none, some (vI x2), some (vI x3), some (vI x4), none, some (vI x6), some (vI x7), some (vI x8), some (vI (x9 + 1))] [] τ8 Q) ∧ (¬ x6 < r9 → Q (some (vI (x9 + 1))) τ8)))))))))) : V0 E (d + 1) qX11_opensTo 95 [some (vR 140), none, some (vI x2), some (vI x3), some (vI x4), none, some (vI x6), some (vI x7), some (vI x8), some (vI x9)] [] τ Q := by
  refine u_iload (i := 9) (pc' := 97) dX11_opensTo_95 rfl rfl ?_
  refine u_iload (i := 7) (pc' := 99) dX11_opensTo_97 rfl rfl ?_
  refine u_iload (i := 8) (pc' := 101) dX11_opensTo_99 rfl rfl ?_
  refine u_iadd (pc' := 102) dX11_opensTo_101 rfl ?_
  obtain ⟨c1, c2, h⟩ := h
  refine u_icmp_gt (tgt := 155) (pc' := 105) dX11_opensTo_102 rfl (by decide) c1 c2 (fun hb => ?_) (fun hb => ?_)
  · have h := h.1 hb
    refine u_iload (i := 4) (pc' := 157) dX11_opensTo_155 rfl rfl ?_
    refine u_iconst (pc' := 158) dX11_opensTo_157 rfl ?_
    obtain ⟨c3, h⟩ := h
    refine u_icmp_ne (tgt := 196) (pc' := 161) dX11_opensTo_158 rfl (by decide) c3 ⟨by decide, by decide⟩ (fun hb => ?_) (fun hb => ?_)
    · have h := h.1 hb
      exact u_less (ls' := [some (vR 140), none, some (vI x2), some (vI x3), some (vI x4), none, none, none, none, none]) ⟨rfl, ⟨rfl, ⟨rfl, ⟨rfl, trivial⟩⟩⟩⟩ h
    · have h := h.2 hb
      refine u_iload (i := 7) (pc' := 163) dX11_opensTo_161 rfl rfl ?_
      refine u_iconst (pc' := 164) dX11_opensTo_163 rfl ?_
      refine u_isub (pc' := 165) dX11_opensTo_164 rfl ?_
      refine s_istore (i := 9) (ls' := [some (vR 140), none, some (vI x2), some (vI x3), some (vI x4), none, some (vI x6), some (vI x7), some (vI x8), some (vI (x7 - 1))]) (pc' := 167) dX11_opensTo_165 rfl (Nat.le_of_ble_eq_true rfl) rfl rfl ?_
      exact u_less (ls' := [some (vR 140), none, some (vI x2), some (vI x3), some (vI x4), none, some (vI x6), some (vI x7), none, some (vI (x7 - 1))]) ⟨rfl, ⟨rfl, ⟨rfl, ⟨rfl, ⟨rfl, ⟨rfl, ⟨rfl, trivial⟩⟩⟩⟩⟩⟩⟩ h
  · have h := h.2 hb
    refine u_iload (i := 9) (pc' := 107) dX11_opensTo_105 rfl rfl ?_
    refine u_sipush (pc' := 110) dX11_opensTo_107 rfl (by decide) ?_
    refine u_icmp_ge (tgt := 155) (pc' := 113) dX11_opensTo_110 rfl (by decide) c1 ⟨by decide, by decide⟩ (fun hb => ?_) (fun hb => ?_)
    · have h := h.1 hb
      refine u_iload (i := 4) (pc' := 157) dX11_opensTo_155 rfl rfl ?_
      refine u_iconst (pc' := 158) dX11_opensTo_157 rfl ?_
      obtain ⟨c4, h⟩ := h
      refine u_icmp_ne (tgt := 196) (pc' := 161) dX11_opensTo_158 rfl (by decide) c4 ⟨by decide, by decide⟩ (fun hb => ?_) (fun hb => ?_)
      · have h := h.1 hb
        exact u_less (ls' := [some (vR 140), none, some (vI x2), some (vI x3), some (vI x4), none, none, none, none, none]) ⟨rfl, ⟨rfl, ⟨rfl, ⟨rfl, trivial⟩⟩⟩⟩ h
      · have h := h.2 hb
        refine u_iload (i := 7) (pc' := 163) dX11_opensTo_161 rfl rfl ?_
        refine u_iconst (pc' := 164) dX11_opensTo_163 rfl ?_
        refine u_isub (pc' := 165) dX11_opensTo_164 rfl ?_
        refine s_istore (i := 9) (ls' := [some (vR 140), none, some (vI x2), some (vI x3), some (vI x4), none, some (vI x6), some (vI x7), some (vI x8), some (vI (x7 - 1))]) (pc' := 167) dX11_opensTo_165 rfl (Nat.le_of_ble_eq_true rfl) rfl rfl ?_
        exact u_less (ls' := [some (vR 140), none, some (vI x2), some (vI x3), some (vI x4), none, some (vI x6), some (vI x7), none, some (vI (x7 - 1))]) ⟨rfl, ⟨rfl, ⟨rfl, ⟨rfl, ⟨rfl, ⟨rfl, ⟨rfl, trivial⟩⟩⟩⟩⟩⟩⟩ h
    · have h := h.2 hb
      refine u_iload (i := 4) (pc' := 115) dX11_opensTo_113 rfl rfl ?_
      refine u_iconst (pc' := 116) dX11_opensTo_115 rfl ?_
      obtain ⟨c5, h⟩ := h
      refine u_icmp_ne (tgt := 134) (pc' := 119) dX11_opensTo_116 rfl (by decide) c5 ⟨by decide, by decide⟩ (fun hb => ?_) (fun hb => ?_)
      · have h := h.1 hb
        refine u_aload_n (i := 0) (pc' := 135) dX11_opensTo_134 rfl rfl rfl ?_
        refine u_iload_n (i := 2) (pc' := 136) dX11_opensTo_135 rfl rfl rfl ?_
        refine u_iload (i := 9) (pc' := 138) dX11_opensTo_136 rfl rfl ?_
        refine u_invV (q' := qX11_isHeard) (As := [vI x2, vI x9]) (st := []) (pc' := 141) dX11_opensTo_138 rfl gX11_isHeard wm_1771 rfl rfl (by decide) kd_140 wm_1773 wp_123 rfl (Nat.le_of_ble_eq_true rfl) (M0.mono h (fun v τ6 h => ?_))
        obtain ⟨b7, rfl, h⟩ := h
        show V0 E (d + 1) qX11_opensTo 141 [some (vR 140), none, some (vI x2), some (vI x3), some (vI x4), none, some (vI x6), some (vI x7), some (vI x8), some (vI x9)] [vB b7] τ6 Q
        refine u_if_eq (tgt := 149) (pc' := 144) dX11_opensTo_141 rfl (by decide) (bI_R _) (fun hb => ?_) (fun hb => ?_)
        · have h := h.1 (bI_0.mp hb)
          refine s_iinc (i := 9) (ls' := [some (vR 140), none, some (vI x2), some (vI x3), some (vI x4), none, some (vI x6), some (vI x7), some (vI x8), some (vI (x9 + 1))]) (pc' := 152) dX11_opensTo_149 rfl rfl (Nat.le_of_ble_eq_true rfl) rfl rfl ?_
          refine u_goto (tgt := 95) dX11_opensTo_152 (by decide) ?_
          exact u_less (ls' := [some (vR 140), none, some (vI x2), some (vI x3), some (vI x4), none, some (vI x6), some (vI x7), some (vI x8), some (vI (x9 + 1))]) ⟨rfl, ⟨rfl, ⟨rfl, ⟨rfl, ⟨rfl, ⟨rfl, ⟨rfl, ⟨rfl, trivial⟩⟩⟩⟩⟩⟩⟩⟩ h
        · have h := h.2 (bI_n0.mp hb)
          refine u_iload (i := 9) (pc' := 146) dX11_opensTo_144 rfl rfl ?_
          refine u_iconst (pc' := 147) dX11_opensTo_146 rfl ?_
          refine u_iadd (pc' := 148) dX11_opensTo_147 rfl ?_
          exact u_iret dX11_opensTo_148 rfl h
      · have h := h.2 hb
        refine u_aload_n (i := 0) (pc' := 120) dX11_opensTo_119 rfl rfl rfl ?_
        refine u_iload_n (i := 2) (pc' := 121) dX11_opensTo_120 rfl rfl rfl ?_
        refine u_iload (i := 9) (pc' := 123) dX11_opensTo_121 rfl rfl ?_
        refine u_invV (q' := qX11_unlike) (As := [vI x2, vI x9]) (st := []) (pc' := 126) dX11_opensTo_123 rfl gX11_unlike wm_1767 rfl rfl (by decide) kd_140 wm_1769 wp_122 rfl (Nat.le_of_ble_eq_true rfl) (M0.mono h (fun v τ8 h => ?_))
        obtain ⟨r9, rfl, h⟩ := h
        show V0 E (d + 1) qX11_opensTo 126 [some (vR 140), none, some (vI x2), some (vI x3), some (vI x4), none, some (vI x6), some (vI x7), some (vI x8), some (vI x9)] [vI r9] τ8 Q
        refine u_iload (i := 6) (pc' := 128) dX11_opensTo_126 rfl rfl ?_
        obtain ⟨c10, c11, h⟩ := h
        refine u_icmp_gt (tgt := 149) (pc' := 131) dX11_opensTo_128 rfl (by decide) c10 c11 (fun hb => ?_) (fun hb => ?_)
        · have h := h.1 hb
          refine s_iinc (i := 9) (ls' := [some (vR 140), none, some (vI x2), some (vI x3), some (vI x4), none, some (vI x6), some (vI x7), some (vI x8), some (vI (x9 + 1))]) (pc' := 152) dX11_opensTo_149 rfl rfl (Nat.le_of_ble_eq_true rfl) rfl rfl ?_
          refine u_goto (tgt := 95) dX11_opensTo_152 (by decide) ?_
          exact u_less (ls' := [some (vR 140), none, some (vI x2), some (vI x3), some (vI x4), none, some (vI x6), some (vI x7), some (vI x8), some (vI (x9 + 1))]) ⟨rfl, ⟨rfl, ⟨rfl, ⟨rfl, ⟨rfl, ⟨rfl, ⟨rfl, ⟨rfl, trivial⟩⟩⟩⟩⟩⟩⟩⟩ h
        · have h := h.2 hb
          refine u_goto (tgt := 144) dX11_opensTo_131 (by decide) ?_
          refine u_iload (i := 9) (pc' := 146) dX11_opensTo_144 rfl rfl ?_
          refine u_iconst (pc' := 147) dX11_opensTo_146 rfl ?_
          refine u_iadd (pc' := 148) dX11_opensTo_147 rfl ?_
          exact u_iret dX11_opensTo_148 rfl h
set_option maxRecDepth 20000 in
theorem bX11_opensTo_167 {E : mm_Env} {d : Nat} {τ : mm_Mem} {Q : mm_Q0} {x2 : Int} {x3 : Int} {x4 : Int} {x6 : Int} {x7 : Int} {x9 : Int} (h : inR x9 ∧ inR (x7 - x6) ∧ ((x9 < (x7 - x6) → V0 E (d + 1) qX11_opensTo 196 [some (vR 140), none, some (vI x2), some (vI x3), some (vI x4), none, none, none, none, none] [] τ Q) ∧ (¬ x9 < (x7 - x6) → M0 E d qX11_isHeard [vR 140, vI x2, vI x9] τ (fun v τ3 => ∃ b4 : Bool, v = some (vB b4) ∧ ((b4 = false → V0 E (d + 1) qX11_opensTo 167 [some (vR 140), none, some (vI x2), some (vI x3), some (vI x4), none, some (vI x6), some (vI x7), none, some (vI (x9 + (-1)))] [] τ3 Q) ∧ (b4 = true → Q (some (vI x7)) τ3)))))) : V0 E (d + 1) qX11_opensTo 167 [some (vR 140), none, some (vI x2), some (vI x3), some (vI x4), none, some (vI x6), some (vI x7), none, some (vI x9)] [] τ Q := by
  refine u_iload (i := 9) (pc' := 169) dX11_opensTo_167 rfl rfl ?_
  refine u_iload (i := 7) (pc' := 171) dX11_opensTo_169 rfl rfl ?_
  refine u_iload (i := 6) (pc' := 173) dX11_opensTo_171 rfl rfl ?_
  refine u_isub (pc' := 174) dX11_opensTo_173 rfl ?_
  obtain ⟨c1, c2, h⟩ := h
  refine u_icmp_lt (tgt := 196) (pc' := 177) dX11_opensTo_174 rfl (by decide) c1 c2 (fun hb => ?_) (fun hb => ?_)
  · have h := h.1 hb
    exact u_less (ls' := [some (vR 140), none, some (vI x2), some (vI x3), some (vI x4), none, none, none, none, none]) ⟨rfl, ⟨rfl, ⟨rfl, ⟨rfl, trivial⟩⟩⟩⟩ h
  · have h := h.2 hb
    refine u_aload_n (i := 0) (pc' := 178) dX11_opensTo_177 rfl rfl rfl ?_
    refine u_iload_n (i := 2) (pc' := 179) dX11_opensTo_178 rfl rfl rfl ?_
    refine u_iload (i := 9) (pc' := 181) dX11_opensTo_179 rfl rfl ?_
    refine u_invV (q' := qX11_isHeard) (As := [vI x2, vI x9]) (st := []) (pc' := 184) dX11_opensTo_181 rfl gX11_isHeard wm_1771 rfl rfl (by decide) kd_140 wm_1773 wp_123 rfl (Nat.le_of_ble_eq_true rfl) (M0.mono h (fun v τ3 h => ?_))
    obtain ⟨b4, rfl, h⟩ := h
    show V0 E (d + 1) qX11_opensTo 184 [some (vR 140), none, some (vI x2), some (vI x3), some (vI x4), none, some (vI x6), some (vI x7), none, some (vI x9)] [vB b4] τ3 Q
    refine u_if_eq (tgt := 190) (pc' := 187) dX11_opensTo_184 rfl (by decide) (bI_R _) (fun hb => ?_) (fun hb => ?_)
    · have h := h.1 (bI_0.mp hb)
      refine s_iinc (i := 9) (ls' := [some (vR 140), none, some (vI x2), some (vI x3), some (vI x4), none, some (vI x6), some (vI x7), none, some (vI (x9 + (-1)))]) (pc' := 193) dX11_opensTo_190 rfl rfl (Nat.le_of_ble_eq_true rfl) rfl rfl ?_
      refine u_goto (tgt := 167) dX11_opensTo_193 (by decide) ?_
      exact u_less (ls' := [some (vR 140), none, some (vI x2), some (vI x3), some (vI x4), none, some (vI x6), some (vI x7), none, some (vI (x9 + (-1)))]) ⟨rfl, ⟨rfl, ⟨rfl, ⟨rfl, ⟨rfl, ⟨rfl, ⟨rfl, trivial⟩⟩⟩⟩⟩⟩⟩ h
    · have h := h.2 (bI_n0.mp hb)
      refine u_iload (i := 7) (pc' := 189) dX11_opensTo_187 rfl rfl ?_
      exact u_iret dX11_opensTo_189 rfl h
set_option maxRecDepth 20000 in
theorem bX11_opensTo_196 {E : mm_Env} {d : Nat} {τ : mm_Mem} {Q : mm_Q0} {x2 : Int} {x3 : Int} {x4 : Int} (h : inR x4 ∧ ((x4 ≠ 2 → Q (some (vI (-1))) τ) ∧ (x4 = 2 → 0 ≤ x3 ∧ x3 < 12 ∧ (((τ 183 x3.toNat) = (-1) → Q (some (vI (-1))) τ) ∧ (¬ (τ 183 x3.toNat) = (-1) → 0 ≤ x3 ∧ x3 < 12 ∧ M0 E d qX11_isHeard [vR 140, vI x2, vI ((τ 183 x3.toNat) + 1)] τ (fun v τ8 => ∃ b9 : Bool, v = some (vB b9) ∧ ((b9 = false → Q (some (vI (-1))) τ8) ∧ (b9 = true → 0 ≤ x3 ∧ x3 < 12 ∧ Q (some (vI ((τ8 183 x3.toNat) + 2))) τ8)))))))) : V0 E (d + 1) qX11_opensTo 196 [some (vR 140), none, some (vI x2), some (vI x3), some (vI x4), none, none, none, none, none] [] τ Q := by
  refine u_iload (i := 4) (pc' := 198) dX11_opensTo_196 rfl rfl ?_
  refine u_iconst (pc' := 199) dX11_opensTo_198 rfl ?_
  obtain ⟨c1, h⟩ := h
  refine u_icmp_ne (tgt := 239) (pc' := 202) dX11_opensTo_199 rfl (by decide) c1 ⟨by decide, by decide⟩ (fun hb => ?_) (fun hb => ?_)
  · have h := h.1 hb
    refine u_iconst (pc' := 240) dX11_opensTo_239 rfl ?_
    exact u_iret dX11_opensTo_240 rfl h
  · have h := h.2 hb
    refine u_aload_n (i := 0) (pc' := 203) dX11_opensTo_202 rfl rfl rfl ?_
    refine u_getR (a := 183) (pc' := 206) dX11_opensTo_203 rfl fl_TuneDoorModel_195 rfl (by decide) kd_140 rfl ?_
    refine u_iload_n (i := 3) (pc' := 207) dX11_opensTo_206 rfl rfl rfl ?_
    obtain ⟨c2, c3, h⟩ := h
    refine u_iaload (k := x3.toNat) (z := (τ 183 x3.toNat)) (pc' := 208) dX11_opensTo_207 rfl (by decide) kd_183 c2 c3 (by decide) rfl rfl (fun r4 => ?_)
    refine u_iconst (pc' := 209) dX11_opensTo_208 rfl ?_
    refine u_icmp_eq (tgt := 239) (pc' := 212) dX11_opensTo_209 rfl (by decide) r4 ⟨by decide, by decide⟩ (fun hb => ?_) (fun hb => ?_)
    · have h := h.1 hb
      refine u_iconst (pc' := 240) dX11_opensTo_239 rfl ?_
      exact u_iret dX11_opensTo_240 rfl h
    · have h := h.2 hb
      refine u_aload_n (i := 0) (pc' := 213) dX11_opensTo_212 rfl rfl rfl ?_
      refine u_iload_n (i := 2) (pc' := 214) dX11_opensTo_213 rfl rfl rfl ?_
      refine u_aload_n (i := 0) (pc' := 215) dX11_opensTo_214 rfl rfl rfl ?_
      refine u_getR (a := 183) (pc' := 218) dX11_opensTo_215 rfl fl_TuneDoorModel_195 rfl (by decide) kd_140 rfl ?_
      refine u_iload_n (i := 3) (pc' := 219) dX11_opensTo_218 rfl rfl rfl ?_
      obtain ⟨c5, c6, h⟩ := h
      refine u_iaload (k := x3.toNat) (z := (τ 183 x3.toNat)) (pc' := 220) dX11_opensTo_219 rfl (by decide) kd_183 c5 c6 (by decide) rfl rfl (fun r7 => ?_)
      refine u_iconst (pc' := 221) dX11_opensTo_220 rfl ?_
      refine u_iadd (pc' := 222) dX11_opensTo_221 rfl ?_
      refine u_invV (q' := qX11_isHeard) (As := [vI x2, vI ((τ 183 x3.toNat) + 1)]) (st := []) (pc' := 225) dX11_opensTo_222 rfl gX11_isHeard wm_1771 rfl rfl (by decide) kd_140 wm_1773 wp_123 rfl (Nat.le_of_ble_eq_true rfl) (M0.mono h (fun v τ8 h => ?_))
      obtain ⟨b9, rfl, h⟩ := h
      show V0 E (d + 1) qX11_opensTo 225 [some (vR 140), none, some (vI x2), some (vI x3), some (vI x4), none, none, none, none, none] [vB b9] τ8 Q
      refine u_if_eq (tgt := 239) (pc' := 228) dX11_opensTo_225 rfl (by decide) (bI_R _) (fun hb => ?_) (fun hb => ?_)
      · have h := h.1 (bI_0.mp hb)
        refine u_iconst (pc' := 240) dX11_opensTo_239 rfl ?_
        exact u_iret dX11_opensTo_240 rfl h
      · have h := h.2 (bI_n0.mp hb)
        refine u_aload_n (i := 0) (pc' := 229) dX11_opensTo_228 rfl rfl rfl ?_
        refine u_getR (a := 183) (pc' := 232) dX11_opensTo_229 rfl fl_TuneDoorModel_195 rfl (by decide) kd_140 rfl ?_
        refine u_iload_n (i := 3) (pc' := 233) dX11_opensTo_232 rfl rfl rfl ?_
        obtain ⟨c10, c11, h⟩ := h
        refine u_iaload (k := x3.toNat) (z := (τ8 183 x3.toNat)) (pc' := 234) dX11_opensTo_233 rfl (by decide) kd_183 c10 c11 (by decide) rfl rfl (fun r12 => ?_)
        refine u_iconst (pc' := 235) dX11_opensTo_234 rfl ?_
        refine u_iadd (pc' := 236) dX11_opensTo_235 rfl ?_
        refine u_goto (tgt := 240) dX11_opensTo_236 (by decide) ?_
        exact u_iret dX11_opensTo_240 rfl h
set_option maxRecDepth 20000 in
theorem bX11_unlike_0 {E : mm_Env} {d : Nat} {τ : mm_Mem} {Q : mm_Q0} {a0 : Int} {a1 : Int} (h : V0 E d qX11_unlike 5 [some (vR 140), some (vI a0), some (vI a1), some (vI 0), some (vI 0)] [] τ Q) : V0 E d qX11_unlike 0 [some (vR 140), some (vI a0), some (vI a1), none, none] [] τ Q := by
  refine u_iconst (pc' := 1) dX11_unlike_0 rfl ?_
  refine s_istore_n (i := 3) (ls' := [some (vR 140), some (vI a0), some (vI a1), some (vI 0), none]) (pc' := 2) dX11_unlike_1 rfl rfl (Nat.le_of_ble_eq_true rfl) rfl rfl ?_
  refine u_iconst (pc' := 3) dX11_unlike_2 rfl ?_
  refine s_istore (i := 4) (ls' := [some (vR 140), some (vI a0), some (vI a1), some (vI 0), some (vI 0)]) (pc' := 5) dX11_unlike_3 rfl (Nat.le_of_ble_eq_true rfl) rfl rfl ?_
  exact u_less (ls' := [some (vR 140), some (vI a0), some (vI a1), some (vI 0), some (vI 0)]) ⟨rfl, ⟨rfl, ⟨rfl, ⟨rfl, ⟨rfl, trivial⟩⟩⟩⟩⟩ h
theorem mX11_unlike {E : mm_Env} {d : Nat} {τ : mm_Mem} {Q : mm_Q0} {a0 : Int} {a1 : Int} (h : V0 E d qX11_unlike 5 [some (vR 140), some (vI a0), some (vI a1), some (vI 0), some (vI 0)] [] τ Q) : M0 E d qX11_unlike [vR 140, vI a0, vI a1] τ Q := M0_of rfl (Nat.le_of_ble_eq_true rfl) [some (vR 140), some (vI a0), some (vI a1), none, none] rfl (bX11_unlike_0  h)
set_option maxRecDepth 20000 in
theorem bX11_unlike_5 {E : mm_Env} {d : Nat} {τ : mm_Mem} {Q : mm_Q0} {x1 : Int} {x2 : Int} {x3 : Int} {x4 : Int} (h : 0 ≤ (τ 140 12) ∧ (τ 140 12) < 2 ∧ inR x4 ∧ (((τ 143 (τ 140 12).toNat) ≤ x4 → Q (some (vI x3)) τ) ∧ (¬ (τ 143 (τ 140 12).toNat) ≤ x4 → 0 ≤ x4 ∧ x4 < 5 ∧ 0 ≤ ((5 * ((1000 * x1) + x2)) + x4) ∧ ((5 * ((1000 * x1) + x2)) + x4) < 15000 ∧ (((τ 188 x4.toNat) = (τ 176 ((5 * ((1000 * x1) + x2)) + x4).toNat) → V0 E d qX11_unlike 5 [some (vR 140), some (vI x1), some (vI x2), some (vI (x3 + 0)), some (vI (x4 + 1))] [] τ Q) ∧ (¬ (τ 188 x4.toNat) = (τ 176 ((5 * ((1000 * x1) + x2)) + x4).toNat) → V0 E d qX11_unlike 5 [some (vR 140), some (vI x1), some (vI x2), some (vI (x3 + 1)), some (vI (x4 + 1))] [] τ Q))))) : V0 E d qX11_unlike 5 [some (vR 140), some (vI x1), some (vI x2), some (vI x3), some (vI x4)] [] τ Q := by
  refine u_iload (i := 4) (pc' := 7) dX11_unlike_5 rfl rfl ?_
  refine u_aload_n (i := 0) (pc' := 8) dX11_unlike_7 rfl rfl rfl ?_
  refine u_getR (a := 143) (pc' := 11) dX11_unlike_8 rfl fl_TuneDoorModel_54 rfl (by decide) kd_140 rfl ?_
  refine u_aload_n (i := 0) (pc' := 12) dX11_unlike_11 rfl rfl rfl ?_
  refine u_getI (z := (τ 140 12)) (pc' := 15) dX11_unlike_12 rfl fl_TuneDoorModel_48 rfl (by decide) (by decide) kd_140 rfl (fun r1 => ?_)
  obtain ⟨c2, c3, h⟩ := h
  refine u_iaload (k := (τ 140 12).toNat) (z := (τ 143 (τ 140 12).toNat)) (pc' := 16) dX11_unlike_15 rfl (by decide) kd_143 c2 c3 (by decide) rfl rfl (fun r4 => ?_)
  obtain ⟨c5, h⟩ := h
  refine u_icmp_ge (tgt := 60) (pc' := 19) dX11_unlike_16 rfl (by decide) c5 r4 (fun hb => ?_) (fun hb => ?_)
  · have h := h.1 hb
    refine u_iload_n (i := 3) (pc' := 61) dX11_unlike_60 rfl rfl rfl ?_
    exact u_iret dX11_unlike_61 rfl h
  · have h := h.2 hb
    refine u_iload_n (i := 3) (pc' := 20) dX11_unlike_19 rfl rfl rfl ?_
    refine u_aload_n (i := 0) (pc' := 21) dX11_unlike_20 rfl rfl rfl ?_
    refine u_getR (a := 188) (pc' := 24) dX11_unlike_21 rfl fl_TuneDoorModel_210 rfl (by decide) kd_140 rfl ?_
    refine u_iload (i := 4) (pc' := 26) dX11_unlike_24 rfl rfl ?_
    obtain ⟨c6, c7, h⟩ := h
    refine u_iaload (k := x4.toNat) (z := (τ 188 x4.toNat)) (pc' := 27) dX11_unlike_26 rfl (by decide) kd_188 c6 c7 (by decide) rfl rfl (fun r8 => ?_)
    refine u_aload_n (i := 0) (pc' := 28) dX11_unlike_27 rfl rfl rfl ?_
    refine u_getR (a := 176) (pc' := 31) dX11_unlike_28 rfl fl_TuneDoorModel_174 rfl (by decide) kd_140 rfl ?_
    refine u_iconst (pc' := 32) dX11_unlike_31 rfl ?_
    refine u_sipush (pc' := 35) dX11_unlike_32 rfl (by decide) ?_
    refine u_iload_n (i := 1) (pc' := 36) dX11_unlike_35 rfl rfl rfl ?_
    refine u_imul (pc' := 37) dX11_unlike_36 rfl ?_
    refine u_iload_n (i := 2) (pc' := 38) dX11_unlike_37 rfl rfl rfl ?_
    refine u_iadd (pc' := 39) dX11_unlike_38 rfl ?_
    refine u_imul (pc' := 40) dX11_unlike_39 rfl ?_
    refine u_iload (i := 4) (pc' := 42) dX11_unlike_40 rfl rfl ?_
    refine u_iadd (pc' := 43) dX11_unlike_42 rfl ?_
    obtain ⟨c9, c10, h⟩ := h
    refine u_iaload (k := ((5 * ((1000 * x1) + x2)) + x4).toNat) (z := (τ 176 ((5 * ((1000 * x1) + x2)) + x4).toNat)) (pc' := 44) dX11_unlike_43 rfl (by decide) kd_176 c9 c10 (by decide) rfl rfl (fun r11 => ?_)
    refine u_icmp_eq (tgt := 51) (pc' := 47) dX11_unlike_44 rfl (by decide) r8 r11 (fun hb => ?_) (fun hb => ?_)
    · have h := h.1 hb
      refine u_iconst (pc' := 52) dX11_unlike_51 rfl ?_
      refine u_iadd (pc' := 53) dX11_unlike_52 rfl ?_
      refine s_istore_n (i := 3) (ls' := [some (vR 140), some (vI x1), some (vI x2), some (vI (x3 + 0)), some (vI x4)]) (pc' := 54) dX11_unlike_53 rfl rfl (Nat.le_of_ble_eq_true rfl) rfl rfl ?_
      refine s_iinc (i := 4) (ls' := [some (vR 140), some (vI x1), some (vI x2), some (vI (x3 + 0)), some (vI (x4 + 1))]) (pc' := 57) dX11_unlike_54 rfl rfl (Nat.le_of_ble_eq_true rfl) rfl rfl ?_
      refine u_goto (tgt := 5) dX11_unlike_57 (by decide) ?_
      exact u_less (ls' := [some (vR 140), some (vI x1), some (vI x2), some (vI (x3 + 0)), some (vI (x4 + 1))]) ⟨rfl, ⟨rfl, ⟨rfl, ⟨rfl, ⟨rfl, trivial⟩⟩⟩⟩⟩ h
    · have h := h.2 hb
      refine u_iconst (pc' := 48) dX11_unlike_47 rfl ?_
      refine u_goto (tgt := 52) dX11_unlike_48 (by decide) ?_
      refine u_iadd (pc' := 53) dX11_unlike_52 rfl ?_
      refine s_istore_n (i := 3) (ls' := [some (vR 140), some (vI x1), some (vI x2), some (vI (x3 + 1)), some (vI x4)]) (pc' := 54) dX11_unlike_53 rfl rfl (Nat.le_of_ble_eq_true rfl) rfl rfl ?_
      refine s_iinc (i := 4) (ls' := [some (vR 140), some (vI x1), some (vI x2), some (vI (x3 + 1)), some (vI (x4 + 1))]) (pc' := 57) dX11_unlike_54 rfl rfl (Nat.le_of_ble_eq_true rfl) rfl rfl ?_
      refine u_goto (tgt := 5) dX11_unlike_57 (by decide) ?_
      exact u_less (ls' := [some (vR 140), some (vI x1), some (vI x2), some (vI (x3 + 1)), some (vI (x4 + 1))]) ⟨rfl, ⟨rfl, ⟨rfl, ⟨rfl, ⟨rfl, trivial⟩⟩⟩⟩⟩ h
set_option maxRecDepth 20000 in
theorem bX11_isHeard_0 {E : mm_Env} {d : Nat} {τ : mm_Mem} {Q : mm_Q0} {a0 : Int} {a1 : Int} (h : M0 E d qX11_isWhistle [vI a1] τ (fun v τ1 => ∃ b2 : Bool, v = some (vB b2) ∧ ((b2 = false → Q (some (vB false)) τ1) ∧ (b2 = true → 0 ≤ ((1000 * a0) + a1) ∧ ((1000 * a0) + a1) < 3000 ∧ (((τ1 178 ((1000 * a0) + a1).toNat) ≠ (τ1 140 66) → Q (some (vB false)) τ1) ∧ ((τ1 178 ((1000 * a0) + a1).toNat) = (τ1 140 66) → Q (some (vB true)) τ1)))))) : V0 E (d + 1) qX11_isHeard 0 [some (vR 140), some (vI a0), some (vI a1)] [] τ Q := by
  refine u_iload_n (i := 2) (pc' := 1) dX11_isHeard_0 rfl rfl rfl ?_
  refine u_invS (q' := qX11_isWhistle) (As := [vI a1]) (st := []) (pc' := 4) dX11_isHeard_1 rfl gX11_isWhistle wm_1716 wm_1717 rfl (Nat.le_of_ble_eq_true rfl) (M0.mono h (fun v τ1 h => ?_))
  obtain ⟨b2, rfl, h⟩ := h
  show V0 E (d + 1) qX11_isHeard 4 [some (vR 140), some (vI a0), some (vI a1)] [vB b2] τ1 Q
  refine u_if_eq (tgt := 30) (pc' := 7) dX11_isHeard_4 rfl (by decide) (bI_R _) (fun hb => ?_) (fun hb => ?_)
  · have h := h.1 (bI_0.mp hb)
    refine u_iconst (pc' := 31) dX11_isHeard_30 rfl ?_
    exact u_zret (b := false) dX11_isHeard_31 rfl rfl h
  · have h := h.2 (bI_n0.mp hb)
    refine u_aload_n (i := 0) (pc' := 8) dX11_isHeard_7 rfl rfl rfl ?_
    refine u_getR (a := 178) (pc' := 11) dX11_isHeard_8 rfl fl_TuneDoorModel_180 rfl (by decide) kd_140 rfl ?_
    refine u_sipush (pc' := 14) dX11_isHeard_11 rfl (by decide) ?_
    refine u_iload_n (i := 1) (pc' := 15) dX11_isHeard_14 rfl rfl rfl ?_
    refine u_imul (pc' := 16) dX11_isHeard_15 rfl ?_
    refine u_iload_n (i := 2) (pc' := 17) dX11_isHeard_16 rfl rfl rfl ?_
    refine u_iadd (pc' := 18) dX11_isHeard_17 rfl ?_
    obtain ⟨c3, c4, h⟩ := h
    refine u_iaload (k := ((1000 * a0) + a1).toNat) (z := (τ1 178 ((1000 * a0) + a1).toNat)) (pc' := 19) dX11_isHeard_18 rfl (by decide) kd_178 c3 c4 (by decide) rfl rfl (fun r5 => ?_)
    refine u_aload_n (i := 0) (pc' := 20) dX11_isHeard_19 rfl rfl rfl ?_
    refine u_getI (z := (τ1 140 66)) (pc' := 23) dX11_isHeard_20 rfl fl_TuneDoorModel_213 rfl (by decide) (by decide) kd_140 rfl (fun r6 => ?_)
    refine u_icmp_ne (tgt := 30) (pc' := 26) dX11_isHeard_23 rfl (by decide) r5 r6 (fun hb => ?_) (fun hb => ?_)
    · have h := h.1 hb
      refine u_iconst (pc' := 31) dX11_isHeard_30 rfl ?_
      exact u_zret (b := false) dX11_isHeard_31 rfl rfl h
    · have h := h.2 hb
      refine u_iconst (pc' := 27) dX11_isHeard_26 rfl ?_
      refine u_goto (tgt := 31) dX11_isHeard_27 (by decide) ?_
      exact u_zret (b := true) dX11_isHeard_31 rfl rfl h
theorem mX11_isHeard {E : mm_Env} {d : Nat} {τ : mm_Mem} {Q : mm_Q0} {a0 : Int} {a1 : Int} (h : M0 E d qX11_isWhistle [vI a1] τ (fun v τ1 => ∃ b2 : Bool, v = some (vB b2) ∧ ((b2 = false → Q (some (vB false)) τ1) ∧ (b2 = true → 0 ≤ ((1000 * a0) + a1) ∧ ((1000 * a0) + a1) < 3000 ∧ (((τ1 178 ((1000 * a0) + a1).toNat) ≠ (τ1 140 66) → Q (some (vB false)) τ1) ∧ ((τ1 178 ((1000 * a0) + a1).toNat) = (τ1 140 66) → Q (some (vB true)) τ1)))))) : M0 E (d + 1) qX11_isHeard [vR 140, vI a0, vI a1] τ Q := M0_of rfl (Nat.le_of_ble_eq_true rfl) [some (vR 140), some (vI a0), some (vI a1)] rfl (bX11_isHeard_0  h)
set_option maxRecDepth 20000 in
theorem bX11_misses_0 {E : mm_Env} {d : Nat} {τ : mm_Mem} {Q : mm_Q0} {a0 : Int} {a1 : Int} (h : 0 ≤ ((3 * a0) + a1) ∧ ((3 * a0) + a1) < 12 ∧ ((255 ≤ (τ 184 ((3 * a0) + a1).toNat) → V0 E (d + 1) qX11_misses 37 [some (vR 140), some (vI a0), some (vI a1), some (vI ((3 * a0) + a1)), none, none] [vI 255, vI ((3 * a0) + a1), vR 184] τ Q) ∧ (¬ 255 ≤ (τ 184 ((3 * a0) + a1).toNat) → 0 ≤ ((3 * a0) + a1) ∧ ((3 * a0) + a1) < 12 ∧ V0 E (d + 1) qX11_misses 37 [some (vR 140), some (vI a0), some (vI a1), some (vI ((3 * a0) + a1)), none, none] [vI ((τ 184 ((3 * a0) + a1).toNat) + 1), vI ((3 * a0) + a1), vR 184] τ Q))) : V0 E (d + 1) qX11_misses 0 [some (vR 140), some (vI a0), some (vI a1), none, none, none] [] τ Q := by
  refine u_iconst (pc' := 1) dX11_misses_0 rfl ?_
  refine u_iload_n (i := 1) (pc' := 2) dX11_misses_1 rfl rfl rfl ?_
  refine u_imul (pc' := 3) dX11_misses_2 rfl ?_
  refine u_iload_n (i := 2) (pc' := 4) dX11_misses_3 rfl rfl rfl ?_
  refine u_iadd (pc' := 5) dX11_misses_4 rfl ?_
  refine s_istore_n (i := 3) (ls' := [some (vR 140), some (vI a0), some (vI a1), some (vI ((3 * a0) + a1)), none, none]) (pc' := 6) dX11_misses_5 rfl rfl (Nat.le_of_ble_eq_true rfl) rfl rfl ?_
  refine u_aload_n (i := 0) (pc' := 7) dX11_misses_6 rfl rfl rfl ?_
  refine u_getR (a := 184) (pc' := 10) dX11_misses_7 rfl fl_TuneDoorModel_198 rfl (by decide) kd_140 rfl ?_
  refine u_iload_n (i := 3) (pc' := 11) dX11_misses_10 rfl rfl rfl ?_
  refine u_aload_n (i := 0) (pc' := 12) dX11_misses_11 rfl rfl rfl ?_
  refine u_getR (a := 184) (pc' := 15) dX11_misses_12 rfl fl_TuneDoorModel_198 rfl (by decide) kd_140 rfl ?_
  refine u_iload_n (i := 3) (pc' := 16) dX11_misses_15 rfl rfl rfl ?_
  obtain ⟨c1, c2, h⟩ := h
  refine u_iaload (k := ((3 * a0) + a1).toNat) (z := (τ 184 ((3 * a0) + a1).toNat)) (pc' := 17) dX11_misses_16 rfl (by decide) kd_184 c1 c2 (by decide) rfl rfl (fun r3 => ?_)
  refine u_sipush (pc' := 20) dX11_misses_17 rfl (by decide) ?_
  refine u_icmp_ge (tgt := 34) (pc' := 23) dX11_misses_20 rfl (by decide) r3 ⟨by decide, by decide⟩ (fun hb => ?_) (fun hb => ?_)
  · have h := h.1 hb
    refine u_sipush (pc' := 37) dX11_misses_34 rfl (by decide) ?_
    exact u_less (ls' := [some (vR 140), some (vI a0), some (vI a1), some (vI ((3 * a0) + a1)), none, none]) ⟨rfl, ⟨rfl, ⟨rfl, ⟨rfl, trivial⟩⟩⟩⟩ h
  · have h := h.2 hb
    refine u_aload_n (i := 0) (pc' := 24) dX11_misses_23 rfl rfl rfl ?_
    refine u_getR (a := 184) (pc' := 27) dX11_misses_24 rfl fl_TuneDoorModel_198 rfl (by decide) kd_140 rfl ?_
    refine u_iload_n (i := 3) (pc' := 28) dX11_misses_27 rfl rfl rfl ?_
    obtain ⟨c4, c5, h⟩ := h
    refine u_iaload (k := ((3 * a0) + a1).toNat) (z := (τ 184 ((3 * a0) + a1).toNat)) (pc' := 29) dX11_misses_28 rfl (by decide) kd_184 c4 c5 (by decide) rfl rfl (fun r6 => ?_)
    refine u_iconst (pc' := 30) dX11_misses_29 rfl ?_
    refine u_iadd (pc' := 31) dX11_misses_30 rfl ?_
    refine u_goto (tgt := 37) dX11_misses_31 (by decide) ?_
    exact u_less (ls' := [some (vR 140), some (vI a0), some (vI a1), some (vI ((3 * a0) + a1)), none, none]) ⟨rfl, ⟨rfl, ⟨rfl, ⟨rfl, trivial⟩⟩⟩⟩ h
theorem mX11_misses {E : mm_Env} {d : Nat} {τ : mm_Mem} {Q : mm_Q0} {a0 : Int} {a1 : Int} (h : 0 ≤ ((3 * a0) + a1) ∧ ((3 * a0) + a1) < 12 ∧ ((255 ≤ (τ 184 ((3 * a0) + a1).toNat) → V0 E (d + 1) qX11_misses 37 [some (vR 140), some (vI a0), some (vI a1), some (vI ((3 * a0) + a1)), none, none] [vI 255, vI ((3 * a0) + a1), vR 184] τ Q) ∧ (¬ 255 ≤ (τ 184 ((3 * a0) + a1).toNat) → 0 ≤ ((3 * a0) + a1) ∧ ((3 * a0) + a1) < 12 ∧ V0 E (d + 1) qX11_misses 37 [some (vR 140), some (vI a0), some (vI a1), some (vI ((3 * a0) + a1)), none, none] [vI ((τ 184 ((3 * a0) + a1).toNat) + 1), vI ((3 * a0) + a1), vR 184] τ Q))) : M0 E (d + 1) qX11_misses [vR 140, vI a0, vI a1] τ Q := M0_of rfl (Nat.le_of_ble_eq_true rfl) [some (vR 140), some (vI a0), some (vI a1), none, none, none] rfl (bX11_misses_0  h)
set_option maxRecDepth 20000 in
theorem bX11_misses_37 {E : mm_Env} {d : Nat} {τ : mm_Mem} {Q : mm_Q0} {x1 : Int} {x2 : Int} {x3 : Int} {y0 : Int} {y1 : Int} (h : 0 ≤ y1 ∧ y1 < 12 ∧ inR y0 ∧ M0 E d qX11_door4 [vR 140, vI x1] (wr τ 184 y1.toNat y0) (fun v τ4 => ∃ r5 : Int, v = some (vI r5) ∧ 0 ≤ r5 ∧ r5 < 8 ∧ (((τ4 154 r5.toNat) = 2 → 0 ≤ x3 ∧ x3 < 12 ∧ 0 ≤ x3 ∧ x3 < 12 ∧ M0 E d qX11_door4 [vR 140, vI x1] (wr τ4 183 x3.toNat (-1)) (fun v τ14 => ∃ r15 : Int, v = some (vI r15) ∧ 0 ≤ r15 ∧ r15 < 8 ∧ V0 E (d + 1) qX11_misses 83 [some (vR 140), none, some (vI x2), some (vI x3), some (vI (τ4 182 x3.toNat)), some (vI ((τ4 182 x3.toNat) + (τ14 155 r15.toNat)))] [] τ14 Q)) ∧ (¬ (τ4 154 r5.toNat) = 2 → Q none τ4)))) : V0 E (d + 1) qX11_misses 37 [some (vR 140), some (vI x1), some (vI x2), some (vI x3), none, none] [vI y0, vI y1, vR 184] τ Q := by
  obtain ⟨c1, c2, c3, h⟩ := h
  refine u_iastore (k := y1.toNat) (pc' := 38) dX11_misses_37 rfl (by decide) kd_184 c1 c2 (by decide) rfl c3 ?_
  refine u_aload_n (i := 0) (pc' := 39) dX11_misses_38 rfl rfl rfl ?_
  refine u_getR (a := 154) (pc' := 42) dX11_misses_39 rfl fl_TuneDoorModel_88 rfl (by decide) kd_140 rfl ?_
  refine u_aload_n (i := 0) (pc' := 43) dX11_misses_42 rfl rfl rfl ?_
  refine u_iload_n (i := 1) (pc' := 44) dX11_misses_43 rfl rfl rfl ?_
  refine u_invV (q' := qX11_door4) (As := [vI x1]) (st := [vR 154]) (pc' := 47) dX11_misses_44 rfl gX11_door4 wm_1696 rfl rfl (by decide) kd_140 wm_1698 wp_112 rfl (Nat.le_of_ble_eq_true rfl) (M0.mono h (fun v τ4 h => ?_))
  obtain ⟨r5, rfl, h⟩ := h
  show V0 E (d + 1) qX11_misses 47 [some (vR 140), some (vI x1), some (vI x2), some (vI x3), none, none] [vI r5, vR 154] τ4 Q
  obtain ⟨c6, c7, h⟩ := h
  refine u_iaload (k := r5.toNat) (z := (τ4 154 r5.toNat)) (pc' := 48) dX11_misses_47 rfl (by decide) kd_154 c6 c7 (by decide) rfl rfl (fun r8 => ?_)
  refine u_iconst (pc' := 49) dX11_misses_48 rfl ?_
  refine u_icmp_eq (tgt := 53) (pc' := 52) dX11_misses_49 rfl (by decide) r8 ⟨by decide, by decide⟩ (fun hb => ?_) (fun hb => ?_)
  · have h := h.1 hb
    refine u_aload_n (i := 0) (pc' := 54) dX11_misses_53 rfl rfl rfl ?_
    refine u_getR (a := 182) (pc' := 57) dX11_misses_54 rfl fl_TuneDoorModel_192 rfl (by decide) kd_140 rfl ?_
    refine u_iload_n (i := 3) (pc' := 58) dX11_misses_57 rfl rfl rfl ?_
    obtain ⟨c9, c10, h⟩ := h
    refine u_iaload (k := x3.toNat) (z := (τ4 182 x3.toNat)) (pc' := 59) dX11_misses_58 rfl (by decide) kd_182 c9 c10 (by decide) rfl rfl (fun r11 => ?_)
    refine s_istore (i := 4) (ls' := [some (vR 140), some (vI x1), some (vI x2), some (vI x3), some (vI (τ4 182 x3.toNat)), none]) (pc' := 61) dX11_misses_59 rfl (Nat.le_of_ble_eq_true rfl) rfl rfl ?_
    refine u_aload_n (i := 0) (pc' := 62) dX11_misses_61 rfl rfl rfl ?_
    refine u_getR (a := 183) (pc' := 65) dX11_misses_62 rfl fl_TuneDoorModel_195 rfl (by decide) kd_140 rfl ?_
    refine u_iload_n (i := 3) (pc' := 66) dX11_misses_65 rfl rfl rfl ?_
    refine u_iconst (pc' := 67) dX11_misses_66 rfl ?_
    obtain ⟨c12, c13, h⟩ := h
    refine u_iastore (k := x3.toNat) (pc' := 68) dX11_misses_67 rfl (by decide) kd_183 c12 c13 (by decide) rfl ⟨by decide, by decide⟩ ?_
    refine u_iload (i := 4) (pc' := 70) dX11_misses_68 rfl rfl ?_
    refine u_aload_n (i := 0) (pc' := 71) dX11_misses_70 rfl rfl rfl ?_
    refine u_getR (a := 155) (pc' := 74) dX11_misses_71 rfl fl_TuneDoorModel_91 rfl (by decide) kd_140 rfl ?_
    refine u_aload_n (i := 0) (pc' := 75) dX11_misses_74 rfl rfl rfl ?_
    refine u_iload_n (i := 1) (pc' := 76) dX11_misses_75 rfl rfl rfl ?_
    refine u_invV (q' := qX11_door4) (As := [vI x1]) (st := [vR 155, vI (τ4 182 x3.toNat)]) (pc' := 79) dX11_misses_76 rfl gX11_door4 wm_1696 rfl rfl (by decide) kd_140 wm_1698 wp_112 rfl (Nat.le_of_ble_eq_true rfl) (M0.mono h (fun v τ14 h => ?_))
    obtain ⟨r15, rfl, h⟩ := h
    show V0 E (d + 1) qX11_misses 79 [some (vR 140), some (vI x1), some (vI x2), some (vI x3), some (vI (τ4 182 x3.toNat)), none] [vI r15, vR 155, vI (τ4 182 x3.toNat)] τ14 Q
    obtain ⟨c16, c17, h⟩ := h
    refine u_iaload (k := r15.toNat) (z := (τ14 155 r15.toNat)) (pc' := 80) dX11_misses_79 rfl (by decide) kd_155 c16 c17 (by decide) rfl rfl (fun r18 => ?_)
    refine u_iadd (pc' := 81) dX11_misses_80 rfl ?_
    refine s_istore (i := 5) (ls' := [some (vR 140), some (vI x1), some (vI x2), some (vI x3), some (vI (τ4 182 x3.toNat)), some (vI ((τ4 182 x3.toNat) + (τ14 155 r15.toNat)))]) (pc' := 83) dX11_misses_81 rfl (Nat.le_of_ble_eq_true rfl) rfl rfl ?_
    exact u_less (ls' := [some (vR 140), none, some (vI x2), some (vI x3), some (vI (τ4 182 x3.toNat)), some (vI ((τ4 182 x3.toNat) + (τ14 155 r15.toNat)))]) ⟨rfl, ⟨rfl, ⟨rfl, ⟨rfl, ⟨rfl, trivial⟩⟩⟩⟩⟩ h
  · have h := h.2 hb
    exact u_ret dX11_misses_52 rfl h
set_option maxRecDepth 20000 in
theorem bX11_misses_83 {E : mm_Env} {d : Nat} {τ : mm_Mem} {Q : mm_Q0} {x2 : Int} {x3 : Int} {x4 : Int} {x5 : Int} (h : inR x5 ∧ inR x4 ∧ ((x5 ≤ x4 → Q none τ) ∧ (¬ x5 ≤ x4 → M0 E d qX11_isHeard [vR 140, vI x2, vI x5] τ (fun v τ3 => ∃ b4 : Bool, v = some (vB b4) ∧ ((b4 = false → 0 ≤ x3 ∧ x3 < 12 ∧ 0 ≤ x3 ∧ x3 < 12 ∧ V0 E (d + 1) qX11_misses 83 [some (vR 140), none, some (vI x2), some (vI x3), some (vI x4), some (vI (x5 + (-1)))] [] (wr τ3 183 x3.toNat (τ3 183 x3.toNat)) Q) ∧ (b4 = true → 0 ≤ x3 ∧ x3 < 12 ∧ V0 E (d + 1) qX11_misses 83 [some (vR 140), none, some (vI x2), some (vI x3), some (vI x4), some (vI (x5 + (-1)))] [] (wr τ3 183 x3.toNat x5) Q)))))) : V0 E (d + 1) qX11_misses 83 [some (vR 140), none, some (vI x2), some (vI x3), some (vI x4), some (vI x5)] [] τ Q := by
  refine u_iload (i := 5) (pc' := 85) dX11_misses_83 rfl rfl ?_
  refine u_iload (i := 4) (pc' := 87) dX11_misses_85 rfl rfl ?_
  obtain ⟨c1, c2, h⟩ := h
  refine u_icmp_le (tgt := 123) (pc' := 90) dX11_misses_87 rfl (by decide) c1 c2 (fun hb => ?_) (fun hb => ?_)
  · have h := h.1 hb
    exact u_ret dX11_misses_123 rfl h
  · have h := h.2 hb
    refine u_aload_n (i := 0) (pc' := 91) dX11_misses_90 rfl rfl rfl ?_
    refine u_getR (a := 183) (pc' := 94) dX11_misses_91 rfl fl_TuneDoorModel_195 rfl (by decide) kd_140 rfl ?_
    refine u_iload_n (i := 3) (pc' := 95) dX11_misses_94 rfl rfl rfl ?_
    refine u_aload_n (i := 0) (pc' := 96) dX11_misses_95 rfl rfl rfl ?_
    refine u_iload_n (i := 2) (pc' := 97) dX11_misses_96 rfl rfl rfl ?_
    refine u_iload (i := 5) (pc' := 99) dX11_misses_97 rfl rfl ?_
    refine u_invV (q' := qX11_isHeard) (As := [vI x2, vI x5]) (st := [vI x3, vR 183]) (pc' := 102) dX11_misses_99 rfl gX11_isHeard wm_1771 rfl rfl (by decide) kd_140 wm_1773 wp_123 rfl (Nat.le_of_ble_eq_true rfl) (M0.mono h (fun v τ3 h => ?_))
    obtain ⟨b4, rfl, h⟩ := h
    show V0 E (d + 1) qX11_misses 102 [some (vR 140), none, some (vI x2), some (vI x3), some (vI x4), some (vI x5)] [vB b4, vI x3, vR 183] τ3 Q
    refine u_if_eq (tgt := 110) (pc' := 105) dX11_misses_102 rfl (by decide) (bI_R _) (fun hb => ?_) (fun hb => ?_)
    · have h := h.1 (bI_0.mp hb)
      refine u_aload_n (i := 0) (pc' := 111) dX11_misses_110 rfl rfl rfl ?_
      refine u_getR (a := 183) (pc' := 114) dX11_misses_111 rfl fl_TuneDoorModel_195 rfl (by decide) kd_140 rfl ?_
      refine u_iload_n (i := 3) (pc' := 115) dX11_misses_114 rfl rfl rfl ?_
      obtain ⟨c5, c6, h⟩ := h
      refine u_iaload (k := x3.toNat) (z := (τ3 183 x3.toNat)) (pc' := 116) dX11_misses_115 rfl (by decide) kd_183 c5 c6 (by decide) rfl rfl (fun r7 => ?_)
      obtain ⟨c8, c9, h⟩ := h
      refine u_iastore (k := x3.toNat) (pc' := 117) dX11_misses_116 rfl (by decide) kd_183 c8 c9 (by decide) rfl r7 ?_
      refine s_iinc (i := 5) (ls' := [some (vR 140), none, some (vI x2), some (vI x3), some (vI x4), some (vI (x5 + (-1)))]) (pc' := 120) dX11_misses_117 rfl rfl (Nat.le_of_ble_eq_true rfl) rfl rfl ?_
      refine u_goto (tgt := 83) dX11_misses_120 (by decide) ?_
      exact u_less (ls' := [some (vR 140), none, some (vI x2), some (vI x3), some (vI x4), some (vI (x5 + (-1)))]) ⟨rfl, ⟨rfl, ⟨rfl, ⟨rfl, ⟨rfl, trivial⟩⟩⟩⟩⟩ h
    · have h := h.2 (bI_n0.mp hb)
      refine u_iload (i := 5) (pc' := 107) dX11_misses_105 rfl rfl ?_
      refine u_goto (tgt := 116) dX11_misses_107 (by decide) ?_
      obtain ⟨c10, c11, h⟩ := h
      refine u_iastore (k := x3.toNat) (pc' := 117) dX11_misses_116 rfl (by decide) kd_183 c10 c11 (by decide) rfl c1 ?_
      refine s_iinc (i := 5) (ls' := [some (vR 140), none, some (vI x2), some (vI x3), some (vI x4), some (vI (x5 + (-1)))]) (pc' := 120) dX11_misses_117 rfl rfl (Nat.le_of_ble_eq_true rfl) rfl rfl ?_
      refine u_goto (tgt := 83) dX11_misses_120 (by decide) ?_
      exact u_less (ls' := [some (vR 140), none, some (vI x2), some (vI x3), some (vI x4), some (vI (x5 + (-1)))]) ⟨rfl, ⟨rfl, ⟨rfl, ⟨rfl, ⟨rfl, trivial⟩⟩⟩⟩⟩ h
set_option maxRecDepth 20000 in
theorem bX11_slip_0 {E : mm_Env} {d : Nat} {τ : mm_Mem} {Q : mm_Q0} {a0 : Int} {a1 : Int} {a2 : Int} (h : M0 E d qX11_isPerson [vR 140, vI a0] τ (fun v τ1 => ∃ b2 : Bool, v = some (vB b2) ∧ ((b2 = false → M0 E d qX11_refused2 [vR 140] τ1 (fun v τ3 => ∃ r4 : Int, v = some (vI r4) ∧ Q (some (vI r4)) τ3)) ∧ (b2 = true → M0 E d qX11_canCome [vR 140, vI a0] τ1 (fun v τ5 => ∃ b6 : Bool, v = some (vB b6) ∧ ((b6 = false → M0 E d qX11_refused2 [vR 140] τ5 (fun v τ7 => ∃ r8 : Int, v = some (vI r8) ∧ Q (some (vI r8)) τ7)) ∧ (b6 = true → 0 ≤ (τ5 140 12) ∧ (τ5 140 12) < 2 ∧ M0 E d qX11_is [vI a1, vI 0, vI ((τ5 143 (τ5 140 12).toNat) - 1)] τ5 (fun v τ13 => ∃ b14 : Bool, v = some (vB b14) ∧ ((b14 = false → M0 E d qX11_refused2 [vR 140] τ13 (fun v τ15 => ∃ r16 : Int, v = some (vI r16) ∧ Q (some (vI r16)) τ15)) ∧ (b14 = true → 0 ≤ (τ13 140 12) ∧ (τ13 140 12) < 2 ∧ M0 E d qX11_is [vI a2, vI 0, vI ((τ13 142 (τ13 140 12).toNat) - 1)] τ13 (fun v τ21 => ∃ b22 : Bool, v = some (vB b22) ∧ ((b22 = true → M0 E d qX11_person4 [vR 140, vI a0] τ21 (fun v τ23 => ∃ r24 : Int, v = some (vI r24) ∧ 0 ≤ r24 ∧ r24 < 8 ∧ 0 ≤ a0 ∧ a0 < 4 ∧ M0 E d qX11_whistles [vR 140, vI (τ23 160 r24.toNat), vI (τ23 179 a0.toNat)] τ23 (fun v τ31 => v = none ∧ 0 ≤ a1 ∧ a1 < 5 ∧ inR a2 ∧ (((τ31 188 a1.toNat) ≠ a2 → 0 ≤ a1 ∧ a1 < 5 ∧ M0 E d qX11_numbers [vR 140] (wr τ31 188 a1.toNat a2) (fun v τ38 => v = none ∧ M0 E d qX11_comes [vR 140, vI a0] τ38 (fun v τ39 => ∃ r40 : Int, v = some (vI r40) ∧ Q (some (vI r40)) τ39))) ∧ ((τ31 188 a1.toNat) = a2 → M0 E d qX11_refused2 [vR 140] τ31 (fun v τ41 => ∃ r42 : Int, v = some (vI r42) ∧ Q (some (vI r42)) τ41)))))) ∧ (b22 = false → M0 E d qX11_refused2 [vR 140] τ21 (fun v τ43 => ∃ r44 : Int, v = some (vI r44) ∧ Q (some (vI r44)) τ43)))))))))))))) : V0 E (d + 1) qX11_slip 0 [some (vR 140), some (vI a0), some (vI a1), some (vI a2)] [] τ Q := by
  refine u_aload_n (i := 0) (pc' := 1) dX11_slip_0 rfl rfl rfl ?_
  refine u_iload_n (i := 1) (pc' := 2) dX11_slip_1 rfl rfl rfl ?_
  refine u_invV (q' := qX11_isPerson) (As := [vI a0]) (st := []) (pc' := 5) dX11_slip_2 rfl gX11_isPerson wm_1704 rfl rfl (by decide) kd_140 wm_1706 wp_113 rfl (Nat.le_of_ble_eq_true rfl) (M0.mono h (fun v τ1 h => ?_))
  obtain ⟨b2, rfl, h⟩ := h
  show V0 E (d + 1) qX11_slip 5 [some (vR 140), some (vI a0), some (vI a1), some (vI a2)] [vB b2] τ1 Q
  refine u_if_eq (tgt := 54) (pc' := 8) dX11_slip_5 rfl (by decide) (bI_R _) (fun hb => ?_) (fun hb => ?_)
  · have h := h.1 (bI_0.mp hb)
    refine u_aload_n (i := 0) (pc' := 55) dX11_slip_54 rfl rfl rfl ?_
    refine u_invV (q' := qX11_refused2) (As := []) (st := []) (pc' := 58) dX11_slip_55 rfl gX11_refused2 wm_1743 rfl rfl (by decide) kd_140 wm_1745 wp_116 rfl (Nat.le_of_ble_eq_true rfl) (M0.mono h (fun v τ3 h => ?_))
    obtain ⟨r4, rfl, h⟩ := h
    show V0 E (d + 1) qX11_slip 58 [some (vR 140), some (vI a0), some (vI a1), some (vI a2)] [vI r4] τ3 Q
    exact u_iret dX11_slip_58 rfl h
  · have h := h.2 (bI_n0.mp hb)
    refine u_aload_n (i := 0) (pc' := 9) dX11_slip_8 rfl rfl rfl ?_
    refine u_iload_n (i := 1) (pc' := 10) dX11_slip_9 rfl rfl rfl ?_
    refine u_invV (q' := qX11_canCome) (As := [vI a0]) (st := []) (pc' := 13) dX11_slip_10 rfl gX11_canCome wm_1739 rfl rfl (by decide) kd_140 wm_1741 wp_115 rfl (Nat.le_of_ble_eq_true rfl) (M0.mono h (fun v τ5 h => ?_))
    obtain ⟨b6, rfl, h⟩ := h
    show V0 E (d + 1) qX11_slip 13 [some (vR 140), some (vI a0), some (vI a1), some (vI a2)] [vB b6] τ5 Q
    refine u_if_eq (tgt := 54) (pc' := 16) dX11_slip_13 rfl (by decide) (bI_R _) (fun hb => ?_) (fun hb => ?_)
    · have h := h.1 (bI_0.mp hb)
      refine u_aload_n (i := 0) (pc' := 55) dX11_slip_54 rfl rfl rfl ?_
      refine u_invV (q' := qX11_refused2) (As := []) (st := []) (pc' := 58) dX11_slip_55 rfl gX11_refused2 wm_1743 rfl rfl (by decide) kd_140 wm_1745 wp_116 rfl (Nat.le_of_ble_eq_true rfl) (M0.mono h (fun v τ7 h => ?_))
      obtain ⟨r8, rfl, h⟩ := h
      show V0 E (d + 1) qX11_slip 58 [some (vR 140), some (vI a0), some (vI a1), some (vI a2)] [vI r8] τ7 Q
      exact u_iret dX11_slip_58 rfl h
    · have h := h.2 (bI_n0.mp hb)
      refine u_iload_n (i := 2) (pc' := 17) dX11_slip_16 rfl rfl rfl ?_
      refine u_iconst (pc' := 18) dX11_slip_17 rfl ?_
      refine u_aload_n (i := 0) (pc' := 19) dX11_slip_18 rfl rfl rfl ?_
      refine u_getR (a := 143) (pc' := 22) dX11_slip_19 rfl fl_TuneDoorModel_54 rfl (by decide) kd_140 rfl ?_
      refine u_aload_n (i := 0) (pc' := 23) dX11_slip_22 rfl rfl rfl ?_
      refine u_getI (z := (τ5 140 12)) (pc' := 26) dX11_slip_23 rfl fl_TuneDoorModel_48 rfl (by decide) (by decide) kd_140 rfl (fun r9 => ?_)
      obtain ⟨c10, c11, h⟩ := h
      refine u_iaload (k := (τ5 140 12).toNat) (z := (τ5 143 (τ5 140 12).toNat)) (pc' := 27) dX11_slip_26 rfl (by decide) kd_143 c10 c11 (by decide) rfl rfl (fun r12 => ?_)
      refine u_iconst (pc' := 28) dX11_slip_27 rfl ?_
      refine u_isub (pc' := 29) dX11_slip_28 rfl ?_
      refine u_invS (q' := qX11_is) (As := [vI a1, vI 0, vI ((τ5 143 (τ5 140 12).toNat) - 1)]) (st := []) (pc' := 32) dX11_slip_29 rfl gX11_is wm_1495 wm_1496 rfl (Nat.le_of_ble_eq_true rfl) (M0.mono h (fun v τ13 h => ?_))
      obtain ⟨b14, rfl, h⟩ := h
      show V0 E (d + 1) qX11_slip 32 [some (vR 140), some (vI a0), some (vI a1), some (vI a2)] [vB b14] τ13 Q
      refine u_if_eq (tgt := 54) (pc' := 35) dX11_slip_32 rfl (by decide) (bI_R _) (fun hb => ?_) (fun hb => ?_)
      · have h := h.1 (bI_0.mp hb)
        refine u_aload_n (i := 0) (pc' := 55) dX11_slip_54 rfl rfl rfl ?_
        refine u_invV (q' := qX11_refused2) (As := []) (st := []) (pc' := 58) dX11_slip_55 rfl gX11_refused2 wm_1743 rfl rfl (by decide) kd_140 wm_1745 wp_116 rfl (Nat.le_of_ble_eq_true rfl) (M0.mono h (fun v τ15 h => ?_))
        obtain ⟨r16, rfl, h⟩ := h
        show V0 E (d + 1) qX11_slip 58 [some (vR 140), some (vI a0), some (vI a1), some (vI a2)] [vI r16] τ15 Q
        exact u_iret dX11_slip_58 rfl h
      · have h := h.2 (bI_n0.mp hb)
        refine u_iload_n (i := 3) (pc' := 36) dX11_slip_35 rfl rfl rfl ?_
        refine u_iconst (pc' := 37) dX11_slip_36 rfl ?_
        refine u_aload_n (i := 0) (pc' := 38) dX11_slip_37 rfl rfl rfl ?_
        refine u_getR (a := 142) (pc' := 41) dX11_slip_38 rfl fl_TuneDoorModel_51 rfl (by decide) kd_140 rfl ?_
        refine u_aload_n (i := 0) (pc' := 42) dX11_slip_41 rfl rfl rfl ?_
        refine u_getI (z := (τ13 140 12)) (pc' := 45) dX11_slip_42 rfl fl_TuneDoorModel_48 rfl (by decide) (by decide) kd_140 rfl (fun r17 => ?_)
        obtain ⟨c18, c19, h⟩ := h
        refine u_iaload (k := (τ13 140 12).toNat) (z := (τ13 142 (τ13 140 12).toNat)) (pc' := 46) dX11_slip_45 rfl (by decide) kd_142 c18 c19 (by decide) rfl rfl (fun r20 => ?_)
        refine u_iconst (pc' := 47) dX11_slip_46 rfl ?_
        refine u_isub (pc' := 48) dX11_slip_47 rfl ?_
        refine u_invS (q' := qX11_is) (As := [vI a2, vI 0, vI ((τ13 142 (τ13 140 12).toNat) - 1)]) (st := []) (pc' := 51) dX11_slip_48 rfl gX11_is wm_1495 wm_1496 rfl (Nat.le_of_ble_eq_true rfl) (M0.mono h (fun v τ21 h => ?_))
        obtain ⟨b22, rfl, h⟩ := h
        show V0 E (d + 1) qX11_slip 51 [some (vR 140), some (vI a0), some (vI a1), some (vI a2)] [vB b22] τ21 Q
        refine u_if_ne (tgt := 59) (pc' := 54) dX11_slip_51 rfl (by decide) (bI_R _) (fun hb => ?_) (fun hb => ?_)
        · have h := h.1 (bI_n0.mp hb)
          refine u_aload_n (i := 0) (pc' := 60) dX11_slip_59 rfl rfl rfl ?_
          refine u_aload_n (i := 0) (pc' := 61) dX11_slip_60 rfl rfl rfl ?_
          refine u_getR (a := 160) (pc' := 64) dX11_slip_61 rfl fl_TuneDoorModel_106 rfl (by decide) kd_140 rfl ?_
          refine u_aload_n (i := 0) (pc' := 65) dX11_slip_64 rfl rfl rfl ?_
          refine u_iload_n (i := 1) (pc' := 66) dX11_slip_65 rfl rfl rfl ?_
          refine u_invV (q' := qX11_person4) (As := [vI a0]) (st := [vR 160, vR 140]) (pc' := 69) dX11_slip_66 rfl gX11_person4 wm_1692 rfl rfl (by decide) kd_140 wm_1694 wp_111 rfl (Nat.le_of_ble_eq_true rfl) (M0.mono h (fun v τ23 h => ?_))
          obtain ⟨r24, rfl, h⟩ := h
          show V0 E (d + 1) qX11_slip 69 [some (vR 140), some (vI a0), some (vI a1), some (vI a2)] [vI r24, vR 160, vR 140] τ23 Q
          obtain ⟨c25, c26, h⟩ := h
          refine u_iaload (k := r24.toNat) (z := (τ23 160 r24.toNat)) (pc' := 70) dX11_slip_69 rfl (by decide) kd_160 c25 c26 (by decide) rfl rfl (fun r27 => ?_)
          refine u_aload_n (i := 0) (pc' := 71) dX11_slip_70 rfl rfl rfl ?_
          refine u_getR (a := 179) (pc' := 74) dX11_slip_71 rfl fl_TuneDoorModel_183 rfl (by decide) kd_140 rfl ?_
          refine u_iload_n (i := 1) (pc' := 75) dX11_slip_74 rfl rfl rfl ?_
          obtain ⟨c28, c29, h⟩ := h
          refine u_iaload (k := a0.toNat) (z := (τ23 179 a0.toNat)) (pc' := 76) dX11_slip_75 rfl (by decide) kd_179 c28 c29 (by decide) rfl rfl (fun r30 => ?_)
          refine u_invV (q' := qX11_whistles) (As := [vI (τ23 160 r24.toNat), vI (τ23 179 a0.toNat)]) (st := []) (pc' := 79) dX11_slip_76 rfl gX11_whistles wm_1747 rfl rfl (by decide) kd_140 wm_1749 wp_117 rfl (Nat.le_of_ble_eq_true rfl) (M0.mono h (fun v τ31 h => ?_))
          obtain ⟨rfl, h⟩ := h
          show V0 E (d + 1) qX11_slip 79 [some (vR 140), some (vI a0), some (vI a1), some (vI a2)] [] τ31 Q
          refine u_aload_n (i := 0) (pc' := 80) dX11_slip_79 rfl rfl rfl ?_
          refine u_getR (a := 188) (pc' := 83) dX11_slip_80 rfl fl_TuneDoorModel_210 rfl (by decide) kd_140 rfl ?_
          refine u_iload_n (i := 2) (pc' := 84) dX11_slip_83 rfl rfl rfl ?_
          obtain ⟨c32, c33, h⟩ := h
          refine u_iaload (k := a1.toNat) (z := (τ31 188 a1.toNat)) (pc' := 85) dX11_slip_84 rfl (by decide) kd_188 c32 c33 (by decide) rfl rfl (fun r34 => ?_)
          refine u_iload_n (i := 3) (pc' := 86) dX11_slip_85 rfl rfl rfl ?_
          obtain ⟨c35, h⟩ := h
          refine u_icmp_ne (tgt := 94) (pc' := 89) dX11_slip_86 rfl (by decide) r34 c35 (fun hb => ?_) (fun hb => ?_)
          · have h := h.1 hb
            refine u_aload_n (i := 0) (pc' := 95) dX11_slip_94 rfl rfl rfl ?_
            refine u_getR (a := 188) (pc' := 98) dX11_slip_95 rfl fl_TuneDoorModel_210 rfl (by decide) kd_140 rfl ?_
            refine u_iload_n (i := 2) (pc' := 99) dX11_slip_98 rfl rfl rfl ?_
            refine u_iload_n (i := 3) (pc' := 100) dX11_slip_99 rfl rfl rfl ?_
            obtain ⟨c36, c37, h⟩ := h
            refine u_iastore (k := a1.toNat) (pc' := 101) dX11_slip_100 rfl (by decide) kd_188 c36 c37 (by decide) rfl c35 ?_
            refine u_aload_n (i := 0) (pc' := 102) dX11_slip_101 rfl rfl rfl ?_
            refine u_invV (q' := qX11_numbers) (As := []) (st := []) (pc' := 105) dX11_slip_102 rfl gX11_numbers wm_1783 rfl rfl (by decide) kd_140 wm_1785 wp_125 rfl (Nat.le_of_ble_eq_true rfl) (M0.mono h (fun v τ38 h => ?_))
            obtain ⟨rfl, h⟩ := h
            show V0 E (d + 1) qX11_slip 105 [some (vR 140), some (vI a0), some (vI a1), some (vI a2)] [] τ38 Q
            refine u_aload_n (i := 0) (pc' := 106) dX11_slip_105 rfl rfl rfl ?_
            refine u_iload_n (i := 1) (pc' := 107) dX11_slip_106 rfl rfl rfl ?_
            refine u_invV (q' := qX11_comes) (As := [vI a0]) (st := []) (pc' := 110) dX11_slip_107 rfl gX11_comes wm_1751 rfl rfl (by decide) kd_140 wm_1753 wp_118 rfl (Nat.le_of_ble_eq_true rfl) (M0.mono h (fun v τ39 h => ?_))
            obtain ⟨r40, rfl, h⟩ := h
            show V0 E (d + 1) qX11_slip 110 [some (vR 140), some (vI a0), some (vI a1), some (vI a2)] [vI r40] τ39 Q
            exact u_iret dX11_slip_110 rfl h
          · have h := h.2 hb
            refine u_aload_n (i := 0) (pc' := 90) dX11_slip_89 rfl rfl rfl ?_
            refine u_invV (q' := qX11_refused2) (As := []) (st := []) (pc' := 93) dX11_slip_90 rfl gX11_refused2 wm_1743 rfl rfl (by decide) kd_140 wm_1745 wp_116 rfl (Nat.le_of_ble_eq_true rfl) (M0.mono h (fun v τ41 h => ?_))
            obtain ⟨r42, rfl, h⟩ := h
            show V0 E (d + 1) qX11_slip 93 [some (vR 140), some (vI a0), some (vI a1), some (vI a2)] [vI r42] τ41 Q
            exact u_iret dX11_slip_93 rfl h
        · have h := h.2 (bI_0.mp hb)
          refine u_aload_n (i := 0) (pc' := 55) dX11_slip_54 rfl rfl rfl ?_
          refine u_invV (q' := qX11_refused2) (As := []) (st := []) (pc' := 58) dX11_slip_55 rfl gX11_refused2 wm_1743 rfl rfl (by decide) kd_140 wm_1745 wp_116 rfl (Nat.le_of_ble_eq_true rfl) (M0.mono h (fun v τ43 h => ?_))
          obtain ⟨r44, rfl, h⟩ := h
          show V0 E (d + 1) qX11_slip 58 [some (vR 140), some (vI a0), some (vI a1), some (vI a2)] [vI r44] τ43 Q
          exact u_iret dX11_slip_58 rfl h
theorem mX11_slip {E : mm_Env} {d : Nat} {τ : mm_Mem} {Q : mm_Q0} {a0 : Int} {a1 : Int} {a2 : Int} (h : M0 E d qX11_isPerson [vR 140, vI a0] τ (fun v τ1 => ∃ b2 : Bool, v = some (vB b2) ∧ ((b2 = false → M0 E d qX11_refused2 [vR 140] τ1 (fun v τ3 => ∃ r4 : Int, v = some (vI r4) ∧ Q (some (vI r4)) τ3)) ∧ (b2 = true → M0 E d qX11_canCome [vR 140, vI a0] τ1 (fun v τ5 => ∃ b6 : Bool, v = some (vB b6) ∧ ((b6 = false → M0 E d qX11_refused2 [vR 140] τ5 (fun v τ7 => ∃ r8 : Int, v = some (vI r8) ∧ Q (some (vI r8)) τ7)) ∧ (b6 = true → 0 ≤ (τ5 140 12) ∧ (τ5 140 12) < 2 ∧ M0 E d qX11_is [vI a1, vI 0, vI ((τ5 143 (τ5 140 12).toNat) - 1)] τ5 (fun v τ13 => ∃ b14 : Bool, v = some (vB b14) ∧ ((b14 = false → M0 E d qX11_refused2 [vR 140] τ13 (fun v τ15 => ∃ r16 : Int, v = some (vI r16) ∧ Q (some (vI r16)) τ15)) ∧ (b14 = true → 0 ≤ (τ13 140 12) ∧ (τ13 140 12) < 2 ∧ M0 E d qX11_is [vI a2, vI 0, vI ((τ13 142 (τ13 140 12).toNat) - 1)] τ13 (fun v τ21 => ∃ b22 : Bool, v = some (vB b22) ∧ ((b22 = true → M0 E d qX11_person4 [vR 140, vI a0] τ21 (fun v τ23 => ∃ r24 : Int, v = some (vI r24) ∧ 0 ≤ r24 ∧ r24 < 8 ∧ 0 ≤ a0 ∧ a0 < 4 ∧ M0 E d qX11_whistles [vR 140, vI (τ23 160 r24.toNat), vI (τ23 179 a0.toNat)] τ23 (fun v τ31 => v = none ∧ 0 ≤ a1 ∧ a1 < 5 ∧ inR a2 ∧ (((τ31 188 a1.toNat) ≠ a2 → 0 ≤ a1 ∧ a1 < 5 ∧ M0 E d qX11_numbers [vR 140] (wr τ31 188 a1.toNat a2) (fun v τ38 => v = none ∧ M0 E d qX11_comes [vR 140, vI a0] τ38 (fun v τ39 => ∃ r40 : Int, v = some (vI r40) ∧ Q (some (vI r40)) τ39))) ∧ ((τ31 188 a1.toNat) = a2 → M0 E d qX11_refused2 [vR 140] τ31 (fun v τ41 => ∃ r42 : Int, v = some (vI r42) ∧ Q (some (vI r42)) τ41)))))) ∧ (b22 = false → M0 E d qX11_refused2 [vR 140] τ21 (fun v τ43 => ∃ r44 : Int, v = some (vI r44) ∧ Q (some (vI r44)) τ43)))))))))))))) : M0 E (d + 1) qX11_slip [vR 140, vI a0, vI a1, vI a2] τ Q := M0_of rfl (Nat.le_of_ble_eq_true rfl) [some (vR 140), some (vI a0), some (vI a1), some (vI a2)] rfl (bX11_slip_0  h)
set_option maxRecDepth 20000 in
theorem bX11_numbers_0 {E : mm_Env} {d : Nat} {τ : mm_Mem} {Q : mm_Q0}  (h : V0 E d qX11_numbers 7 [some (vR 140), some (vI 0)] [] (wr τ 140 66 0) Q) : V0 E d qX11_numbers 0 [some (vR 140), none] [] τ Q := by
  refine u_aload_n (i := 0) (pc' := 1) dX11_numbers_0 rfl rfl rfl ?_
  refine u_iconst (pc' := 2) dX11_numbers_1 rfl ?_
  refine u_putI (pc' := 5) dX11_numbers_2 rfl fl_TuneDoorModel_213 rfl rfl (by decide) (by decide) kd_140 ⟨by decide, by decide⟩ ?_
  refine u_iconst (pc' := 6) dX11_numbers_5 rfl ?_
  refine s_istore_n (i := 1) (ls' := [some (vR 140), some (vI 0)]) (pc' := 7) dX11_numbers_6 rfl rfl (Nat.le_of_ble_eq_true rfl) rfl rfl ?_
  exact u_less (ls' := [some (vR 140), some (vI 0)]) ⟨rfl, ⟨rfl, trivial⟩⟩ h
theorem mX11_numbers {E : mm_Env} {d : Nat} {τ : mm_Mem} {Q : mm_Q0}  (h : V0 E d qX11_numbers 7 [some (vR 140), some (vI 0)] [] (wr τ 140 66 0) Q) : M0 E d qX11_numbers [vR 140] τ Q := M0_of rfl (Nat.le_of_ble_eq_true rfl) [some (vR 140), none] rfl (bX11_numbers_0  h)
set_option maxRecDepth 20000 in
theorem bX11_numbers_7 {E : mm_Env} {d : Nat} {τ : mm_Mem} {Q : mm_Q0} {x1 : Int} (h : 0 ≤ (τ 140 12) ∧ (τ 140 12) < 2 ∧ inR x1 ∧ (((τ 143 (τ 140 12).toNat) ≤ x1 → Q none τ) ∧ (¬ (τ 143 (τ 140 12).toNat) ≤ x1 → 0 ≤ (τ 140 12) ∧ (τ 140 12) < 2 ∧ 0 ≤ x1 ∧ x1 < 5 ∧ inR (((τ 140 66) * (τ 142 (τ 140 12).toNat)) + (τ 188 x1.toNat)) ∧ V0 E d qX11_numbers 7 [some (vR 140), some (vI (x1 + 1))] [] (wr τ 140 66 (((τ 140 66) * (τ 142 (τ 140 12).toNat)) + (τ 188 x1.toNat))) Q))) : V0 E d qX11_numbers 7 [some (vR 140), some (vI x1)] [] τ Q := by
  refine u_iload_n (i := 1) (pc' := 8) dX11_numbers_7 rfl rfl rfl ?_
  refine u_aload_n (i := 0) (pc' := 9) dX11_numbers_8 rfl rfl rfl ?_
  refine u_getR (a := 143) (pc' := 12) dX11_numbers_9 rfl fl_TuneDoorModel_54 rfl (by decide) kd_140 rfl ?_
  refine u_aload_n (i := 0) (pc' := 13) dX11_numbers_12 rfl rfl rfl ?_
  refine u_getI (z := (τ 140 12)) (pc' := 16) dX11_numbers_13 rfl fl_TuneDoorModel_48 rfl (by decide) (by decide) kd_140 rfl (fun r1 => ?_)
  obtain ⟨c2, c3, h⟩ := h
  refine u_iaload (k := (τ 140 12).toNat) (z := (τ 143 (τ 140 12).toNat)) (pc' := 17) dX11_numbers_16 rfl (by decide) kd_143 c2 c3 (by decide) rfl rfl (fun r4 => ?_)
  obtain ⟨c5, h⟩ := h
  refine u_icmp_ge (tgt := 51) (pc' := 20) dX11_numbers_17 rfl (by decide) c5 r4 (fun hb => ?_) (fun hb => ?_)
  · have h := h.1 hb
    exact u_ret dX11_numbers_51 rfl h
  · have h := h.2 hb
    refine u_aload_n (i := 0) (pc' := 21) dX11_numbers_20 rfl rfl rfl ?_
    refine u_aload_n (i := 0) (pc' := 22) dX11_numbers_21 rfl rfl rfl ?_
    refine u_getI (z := (τ 140 66)) (pc' := 25) dX11_numbers_22 rfl fl_TuneDoorModel_213 rfl (by decide) (by decide) kd_140 rfl (fun r6 => ?_)
    refine u_aload_n (i := 0) (pc' := 26) dX11_numbers_25 rfl rfl rfl ?_
    refine u_getR (a := 142) (pc' := 29) dX11_numbers_26 rfl fl_TuneDoorModel_51 rfl (by decide) kd_140 rfl ?_
    refine u_aload_n (i := 0) (pc' := 30) dX11_numbers_29 rfl rfl rfl ?_
    refine u_getI (z := (τ 140 12)) (pc' := 33) dX11_numbers_30 rfl fl_TuneDoorModel_48 rfl (by decide) (by decide) kd_140 rfl (fun r7 => ?_)
    obtain ⟨c8, c9, h⟩ := h
    refine u_iaload (k := (τ 140 12).toNat) (z := (τ 142 (τ 140 12).toNat)) (pc' := 34) dX11_numbers_33 rfl (by decide) kd_142 c8 c9 (by decide) rfl rfl (fun r10 => ?_)
    refine u_imul (pc' := 35) dX11_numbers_34 rfl ?_
    refine u_aload_n (i := 0) (pc' := 36) dX11_numbers_35 rfl rfl rfl ?_
    refine u_getR (a := 188) (pc' := 39) dX11_numbers_36 rfl fl_TuneDoorModel_210 rfl (by decide) kd_140 rfl ?_
    refine u_iload_n (i := 1) (pc' := 40) dX11_numbers_39 rfl rfl rfl ?_
    obtain ⟨c11, c12, h⟩ := h
    refine u_iaload (k := x1.toNat) (z := (τ 188 x1.toNat)) (pc' := 41) dX11_numbers_40 rfl (by decide) kd_188 c11 c12 (by decide) rfl rfl (fun r13 => ?_)
    refine u_iadd (pc' := 42) dX11_numbers_41 rfl ?_
    obtain ⟨c14, h⟩ := h
    refine u_putI (pc' := 45) dX11_numbers_42 rfl fl_TuneDoorModel_213 rfl rfl (by decide) (by decide) kd_140 c14 ?_
    refine s_iinc (i := 1) (ls' := [some (vR 140), some (vI (x1 + 1))]) (pc' := 48) dX11_numbers_45 rfl rfl (Nat.le_of_ble_eq_true rfl) rfl rfl ?_
    refine u_goto (tgt := 7) dX11_numbers_48 (by decide) ?_
    exact u_less (ls' := [some (vR 140), some (vI (x1 + 1))]) ⟨rfl, ⟨rfl, trivial⟩⟩ h
set_option maxRecDepth 20000 in
theorem bX11_waste_0 {E : mm_Env} {d : Nat} {τ : mm_Mem} {Q : mm_Q0} {a0 : Int} {a1 : Int} (h : M0 E d qX11_isPerson [vR 140, vI a0] τ (fun v τ1 => ∃ b2 : Bool, v = some (vB b2) ∧ ((b2 = false → M0 E d qX11_refuses [vR 140, vI 2] τ1 (fun v τ3 => ∃ r4 : Int, v = some (vI r4) ∧ Q (some (vI r4)) τ3)) ∧ (b2 = true → M0 E d qX11_is [vI a1, vI 1, vI 99] τ1 (fun v τ5 => ∃ b6 : Bool, v = some (vB b6) ∧ ((b6 = false → M0 E d qX11_refuses [vR 140, vI 2] τ5 (fun v τ7 => ∃ r8 : Int, v = some (vI r8) ∧ Q (some (vI r8)) τ7)) ∧ (b6 = true → 0 ≤ a0 ∧ a0 < 4 ∧ inR ((τ5 179 a0.toNat) + a1) ∧ ((((τ5 179 a0.toNat) + a1) ≤ 1000 → 0 ≤ a0 ∧ a0 < 4 ∧ 0 ≤ a0 ∧ a0 < 4 ∧ 0 ≤ a0 ∧ a0 < 4 ∧ Q (some (vI ((wr τ5 179 a0.toNat ((τ5 179 a0.toNat) + a1)) 179 a0.toNat))) (wr τ5 179 a0.toNat ((τ5 179 a0.toNat) + a1))) ∧ (¬ ((τ5 179 a0.toNat) + a1) ≤ 1000 → M0 E d qX11_refuses [vR 140, vI 2] τ5 (fun v τ21 => ∃ r22 : Int, v = some (vI r22) ∧ Q (some (vI r22)) τ21)))))))))) : V0 E (d + 1) qX11_waste 0 [some (vR 140), some (vI a0), some (vI a1)] [] τ Q := by
  refine u_aload_n (i := 0) (pc' := 1) dX11_waste_0 rfl rfl rfl ?_
  refine u_iload_n (i := 1) (pc' := 2) dX11_waste_1 rfl rfl rfl ?_
  refine u_invV (q' := qX11_isPerson) (As := [vI a0]) (st := []) (pc' := 5) dX11_waste_2 rfl gX11_isPerson wm_1704 rfl rfl (by decide) kd_140 wm_1706 wp_113 rfl (Nat.le_of_ble_eq_true rfl) (M0.mono h (fun v τ1 h => ?_))
  obtain ⟨b2, rfl, h⟩ := h
  show V0 E (d + 1) qX11_waste 5 [some (vR 140), some (vI a0), some (vI a1)] [vB b2] τ1 Q
  refine u_if_eq (tgt := 32) (pc' := 8) dX11_waste_5 rfl (by decide) (bI_R _) (fun hb => ?_) (fun hb => ?_)
  · have h := h.1 (bI_0.mp hb)
    refine u_aload_n (i := 0) (pc' := 33) dX11_waste_32 rfl rfl rfl ?_
    refine u_iconst (pc' := 34) dX11_waste_33 rfl ?_
    refine u_invV (q' := qX11_refuses) (As := [vI 2]) (st := []) (pc' := 37) dX11_waste_34 rfl gX11_refuses wm_1452 rfl rfl (by decide) kd_140 wm_1454 wp_72 rfl (Nat.le_of_ble_eq_true rfl) (M0.mono h (fun v τ3 h => ?_))
    obtain ⟨r4, rfl, h⟩ := h
    show V0 E (d + 1) qX11_waste 37 [some (vR 140), some (vI a0), some (vI a1)] [vI r4] τ3 Q
    exact u_iret dX11_waste_37 rfl h
  · have h := h.2 (bI_n0.mp hb)
    refine u_iload_n (i := 2) (pc' := 9) dX11_waste_8 rfl rfl rfl ?_
    refine u_iconst (pc' := 10) dX11_waste_9 rfl ?_
    refine u_bipush (pc' := 12) dX11_waste_10 rfl (by decide) ?_
    refine u_invS (q' := qX11_is) (As := [vI a1, vI 1, vI 99]) (st := []) (pc' := 15) dX11_waste_12 rfl gX11_is wm_1495 wm_1496 rfl (Nat.le_of_ble_eq_true rfl) (M0.mono h (fun v τ5 h => ?_))
    obtain ⟨b6, rfl, h⟩ := h
    show V0 E (d + 1) qX11_waste 15 [some (vR 140), some (vI a0), some (vI a1)] [vB b6] τ5 Q
    refine u_if_eq (tgt := 32) (pc' := 18) dX11_waste_15 rfl (by decide) (bI_R _) (fun hb => ?_) (fun hb => ?_)
    · have h := h.1 (bI_0.mp hb)
      refine u_aload_n (i := 0) (pc' := 33) dX11_waste_32 rfl rfl rfl ?_
      refine u_iconst (pc' := 34) dX11_waste_33 rfl ?_
      refine u_invV (q' := qX11_refuses) (As := [vI 2]) (st := []) (pc' := 37) dX11_waste_34 rfl gX11_refuses wm_1452 rfl rfl (by decide) kd_140 wm_1454 wp_72 rfl (Nat.le_of_ble_eq_true rfl) (M0.mono h (fun v τ7 h => ?_))
      obtain ⟨r8, rfl, h⟩ := h
      show V0 E (d + 1) qX11_waste 37 [some (vR 140), some (vI a0), some (vI a1)] [vI r8] τ7 Q
      exact u_iret dX11_waste_37 rfl h
    · have h := h.2 (bI_n0.mp hb)
      refine u_aload_n (i := 0) (pc' := 19) dX11_waste_18 rfl rfl rfl ?_
      refine u_getR (a := 179) (pc' := 22) dX11_waste_19 rfl fl_TuneDoorModel_183 rfl (by decide) kd_140 rfl ?_
      refine u_iload_n (i := 1) (pc' := 23) dX11_waste_22 rfl rfl rfl ?_
      obtain ⟨c9, c10, h⟩ := h
      refine u_iaload (k := a0.toNat) (z := (τ5 179 a0.toNat)) (pc' := 24) dX11_waste_23 rfl (by decide) kd_179 c9 c10 (by decide) rfl rfl (fun r11 => ?_)
      refine u_iload_n (i := 2) (pc' := 25) dX11_waste_24 rfl rfl rfl ?_
      refine u_iadd (pc' := 26) dX11_waste_25 rfl ?_
      refine u_sipush (pc' := 29) dX11_waste_26 rfl (by decide) ?_
      obtain ⟨c12, h⟩ := h
      refine u_icmp_le (tgt := 38) (pc' := 32) dX11_waste_29 rfl (by decide) c12 ⟨by decide, by decide⟩ (fun hb => ?_) (fun hb => ?_)
      · have h := h.1 hb
        refine u_aload_n (i := 0) (pc' := 39) dX11_waste_38 rfl rfl rfl ?_
        refine u_getR (a := 179) (pc' := 42) dX11_waste_39 rfl fl_TuneDoorModel_183 rfl (by decide) kd_140 rfl ?_
        refine u_iload_n (i := 1) (pc' := 43) dX11_waste_42 rfl rfl rfl ?_
        refine u_dup2 (pc' := 44) dX11_waste_43 rfl (fun _ hh => by cases hh) (fun _ hh => by cases hh) ?_
        obtain ⟨c13, c14, h⟩ := h
        refine u_iaload (k := a0.toNat) (z := (τ5 179 a0.toNat)) (pc' := 45) dX11_waste_44 rfl (by decide) kd_179 c13 c14 (by decide) rfl rfl (fun r15 => ?_)
        refine u_iload_n (i := 2) (pc' := 46) dX11_waste_45 rfl rfl rfl ?_
        refine u_iadd (pc' := 47) dX11_waste_46 rfl ?_
        obtain ⟨c16, c17, h⟩ := h
        refine u_iastore (k := a0.toNat) (pc' := 48) dX11_waste_47 rfl (by decide) kd_179 c16 c17 (by decide) rfl c12 ?_
        refine u_aload_n (i := 0) (pc' := 49) dX11_waste_48 rfl rfl rfl ?_
        refine u_getR (a := 179) (pc' := 52) dX11_waste_49 rfl fl_TuneDoorModel_183 rfl (by decide) kd_140 rfl ?_
        refine u_iload_n (i := 1) (pc' := 53) dX11_waste_52 rfl rfl rfl ?_
        obtain ⟨c18, c19, h⟩ := h
        refine u_iaload (k := a0.toNat) (z := ((wr τ5 179 a0.toNat ((τ5 179 a0.toNat) + a1)) 179 a0.toNat)) (pc' := 54) dX11_waste_53 rfl (by decide) kd_179 c18 c19 (by decide) rfl rfl (fun r20 => ?_)
        exact u_iret dX11_waste_54 rfl h
      · have h := h.2 hb
        refine u_aload_n (i := 0) (pc' := 33) dX11_waste_32 rfl rfl rfl ?_
        refine u_iconst (pc' := 34) dX11_waste_33 rfl ?_
        refine u_invV (q' := qX11_refuses) (As := [vI 2]) (st := []) (pc' := 37) dX11_waste_34 rfl gX11_refuses wm_1452 rfl rfl (by decide) kd_140 wm_1454 wp_72 rfl (Nat.le_of_ble_eq_true rfl) (M0.mono h (fun v τ21 h => ?_))
        obtain ⟨r22, rfl, h⟩ := h
        show V0 E (d + 1) qX11_waste 37 [some (vR 140), some (vI a0), some (vI a1)] [vI r22] τ21 Q
        exact u_iret dX11_waste_37 rfl h
theorem mX11_waste {E : mm_Env} {d : Nat} {τ : mm_Mem} {Q : mm_Q0} {a0 : Int} {a1 : Int} (h : M0 E d qX11_isPerson [vR 140, vI a0] τ (fun v τ1 => ∃ b2 : Bool, v = some (vB b2) ∧ ((b2 = false → M0 E d qX11_refuses [vR 140, vI 2] τ1 (fun v τ3 => ∃ r4 : Int, v = some (vI r4) ∧ Q (some (vI r4)) τ3)) ∧ (b2 = true → M0 E d qX11_is [vI a1, vI 1, vI 99] τ1 (fun v τ5 => ∃ b6 : Bool, v = some (vB b6) ∧ ((b6 = false → M0 E d qX11_refuses [vR 140, vI 2] τ5 (fun v τ7 => ∃ r8 : Int, v = some (vI r8) ∧ Q (some (vI r8)) τ7)) ∧ (b6 = true → 0 ≤ a0 ∧ a0 < 4 ∧ inR ((τ5 179 a0.toNat) + a1) ∧ ((((τ5 179 a0.toNat) + a1) ≤ 1000 → 0 ≤ a0 ∧ a0 < 4 ∧ 0 ≤ a0 ∧ a0 < 4 ∧ 0 ≤ a0 ∧ a0 < 4 ∧ Q (some (vI ((wr τ5 179 a0.toNat ((τ5 179 a0.toNat) + a1)) 179 a0.toNat))) (wr τ5 179 a0.toNat ((τ5 179 a0.toNat) + a1))) ∧ (¬ ((τ5 179 a0.toNat) + a1) ≤ 1000 → M0 E d qX11_refuses [vR 140, vI 2] τ5 (fun v τ21 => ∃ r22 : Int, v = some (vI r22) ∧ Q (some (vI r22)) τ21)))))))))) : M0 E (d + 1) qX11_waste [vR 140, vI a0, vI a1] τ Q := M0_of rfl (Nat.le_of_ble_eq_true rfl) [some (vR 140), some (vI a0), some (vI a1)] rfl (bX11_waste_0  h)
set_option maxRecDepth 20000 in
theorem bX11_listen_0 {E : mm_Env} {d : Nat} {τ : mm_Mem} {Q : mm_Q0} {a0 : Int} (h : M0 E d qX11_isDoor [vR 140, vI a0] (wr τ 140 1 0) (fun v τ2 => ∃ b3 : Bool, v = some (vB b3) ∧ ((b3 = false → V0 E (d + 1) qX11_listen 40 [some (vR 140), some (vI a0), some (vI (τ 140 1)), some (vI 0), some (vI 0)] [] τ2 Q) ∧ (b3 = true → 0 ≤ (τ2 140 12) ∧ (τ2 140 12) < 2 ∧ (((τ 140 1) ≠ (τ2 143 (τ2 140 12).toNat) → V0 E (d + 1) qX11_listen 40 [some (vR 140), some (vI a0), some (vI (τ 140 1)), some (vI 0), some (vI 0)] [] τ2 Q) ∧ ((τ 140 1) = (τ2 143 (τ2 140 12).toNat) → V0 E (d + 1) qX11_listen 40 [some (vR 140), some (vI a0), some (vI (τ 140 1)), some (vI 1), some (vI 0)] [] τ2 Q)))))) : V0 E (d + 1) qX11_listen 0 [some (vR 140), some (vI a0), none, none, none] [] τ Q := by
  refine u_aload_n (i := 0) (pc' := 1) dX11_listen_0 rfl rfl rfl ?_
  refine u_getI (z := (τ 140 1)) (pc' := 4) dX11_listen_1 rfl fl_TuneDoorModel_13 rfl (by decide) (by decide) kd_140 rfl (fun r1 => ?_)
  refine s_istore_n (i := 2) (ls' := [some (vR 140), some (vI a0), some (vI (τ 140 1)), none, none]) (pc' := 5) dX11_listen_4 rfl rfl (Nat.le_of_ble_eq_true rfl) rfl rfl ?_
  refine u_aload_n (i := 0) (pc' := 6) dX11_listen_5 rfl rfl rfl ?_
  refine u_iconst (pc' := 7) dX11_listen_6 rfl ?_
  refine u_putI (pc' := 10) dX11_listen_7 rfl fl_TuneDoorModel_13 rfl rfl (by decide) (by decide) kd_140 ⟨by decide, by decide⟩ ?_
  refine u_aload_n (i := 0) (pc' := 11) dX11_listen_10 rfl rfl rfl ?_
  refine u_iload_n (i := 1) (pc' := 12) dX11_listen_11 rfl rfl rfl ?_
  refine u_invV (q' := qX11_isDoor) (As := [vI a0]) (st := []) (pc' := 15) dX11_listen_12 rfl gX11_isDoor wm_1684 rfl rfl (by decide) kd_140 wm_1686 wp_109 rfl (Nat.le_of_ble_eq_true rfl) (M0.mono h (fun v τ2 h => ?_))
  obtain ⟨b3, rfl, h⟩ := h
  show V0 E (d + 1) qX11_listen 15 [some (vR 140), some (vI a0), some (vI (τ 140 1)), none, none] [vB b3] τ2 Q
  refine u_if_eq (tgt := 35) (pc' := 18) dX11_listen_15 rfl (by decide) (bI_R _) (fun hb => ?_) (fun hb => ?_)
  · have h := h.1 (bI_0.mp hb)
    refine u_iconst (pc' := 36) dX11_listen_35 rfl ?_
    refine s_istore_n (i := 3) (ls' := [some (vR 140), some (vI a0), some (vI (τ 140 1)), some (vI 0), none]) (pc' := 37) dX11_listen_36 rfl rfl (Nat.le_of_ble_eq_true rfl) rfl rfl ?_
    refine u_iconst (pc' := 38) dX11_listen_37 rfl ?_
    refine s_istore (i := 4) (ls' := [some (vR 140), some (vI a0), some (vI (τ 140 1)), some (vI 0), some (vI 0)]) (pc' := 40) dX11_listen_38 rfl (Nat.le_of_ble_eq_true rfl) rfl rfl ?_
    exact u_less (ls' := [some (vR 140), some (vI a0), some (vI (τ 140 1)), some (vI 0), some (vI 0)]) ⟨rfl, ⟨rfl, ⟨rfl, ⟨rfl, ⟨rfl, trivial⟩⟩⟩⟩⟩ h
  · have h := h.2 (bI_n0.mp hb)
    refine u_iload_n (i := 2) (pc' := 19) dX11_listen_18 rfl rfl rfl ?_
    refine u_aload_n (i := 0) (pc' := 20) dX11_listen_19 rfl rfl rfl ?_
    refine u_getR (a := 143) (pc' := 23) dX11_listen_20 rfl fl_TuneDoorModel_54 rfl (by decide) kd_140 rfl ?_
    refine u_aload_n (i := 0) (pc' := 24) dX11_listen_23 rfl rfl rfl ?_
    refine u_getI (z := (τ2 140 12)) (pc' := 27) dX11_listen_24 rfl fl_TuneDoorModel_48 rfl (by decide) (by decide) kd_140 rfl (fun r4 => ?_)
    obtain ⟨c5, c6, h⟩ := h
    refine u_iaload (k := (τ2 140 12).toNat) (z := (τ2 143 (τ2 140 12).toNat)) (pc' := 28) dX11_listen_27 rfl (by decide) kd_143 c5 c6 (by decide) rfl rfl (fun r7 => ?_)
    refine u_icmp_ne (tgt := 35) (pc' := 31) dX11_listen_28 rfl (by decide) r1 r7 (fun hb => ?_) (fun hb => ?_)
    · have h := h.1 hb
      refine u_iconst (pc' := 36) dX11_listen_35 rfl ?_
      refine s_istore_n (i := 3) (ls' := [some (vR 140), some (vI a0), some (vI (τ 140 1)), some (vI 0), none]) (pc' := 37) dX11_listen_36 rfl rfl (Nat.le_of_ble_eq_true rfl) rfl rfl ?_
      refine u_iconst (pc' := 38) dX11_listen_37 rfl ?_
      refine s_istore (i := 4) (ls' := [some (vR 140), some (vI a0), some (vI (τ 140 1)), some (vI 0), some (vI 0)]) (pc' := 40) dX11_listen_38 rfl (Nat.le_of_ble_eq_true rfl) rfl rfl ?_
      exact u_less (ls' := [some (vR 140), some (vI a0), some (vI (τ 140 1)), some (vI 0), some (vI 0)]) ⟨rfl, ⟨rfl, ⟨rfl, ⟨rfl, ⟨rfl, trivial⟩⟩⟩⟩⟩ h
    · have h := h.2 hb
      refine u_iconst (pc' := 32) dX11_listen_31 rfl ?_
      refine u_goto (tgt := 36) dX11_listen_32 (by decide) ?_
      refine s_istore_n (i := 3) (ls' := [some (vR 140), some (vI a0), some (vI (τ 140 1)), some (vI 1), none]) (pc' := 37) dX11_listen_36 rfl rfl (Nat.le_of_ble_eq_true rfl) rfl rfl ?_
      refine u_iconst (pc' := 38) dX11_listen_37 rfl ?_
      refine s_istore (i := 4) (ls' := [some (vR 140), some (vI a0), some (vI (τ 140 1)), some (vI 1), some (vI 0)]) (pc' := 40) dX11_listen_38 rfl (Nat.le_of_ble_eq_true rfl) rfl rfl ?_
      exact u_less (ls' := [some (vR 140), some (vI a0), some (vI (τ 140 1)), some (vI 1), some (vI 0)]) ⟨rfl, ⟨rfl, ⟨rfl, ⟨rfl, ⟨rfl, trivial⟩⟩⟩⟩⟩ h
theorem mX11_listen {E : mm_Env} {d : Nat} {τ : mm_Mem} {Q : mm_Q0} {a0 : Int} (h : M0 E d qX11_isDoor [vR 140, vI a0] (wr τ 140 1 0) (fun v τ2 => ∃ b3 : Bool, v = some (vB b3) ∧ ((b3 = false → V0 E (d + 1) qX11_listen 40 [some (vR 140), some (vI a0), some (vI (τ 140 1)), some (vI 0), some (vI 0)] [] τ2 Q) ∧ (b3 = true → 0 ≤ (τ2 140 12) ∧ (τ2 140 12) < 2 ∧ (((τ 140 1) ≠ (τ2 143 (τ2 140 12).toNat) → V0 E (d + 1) qX11_listen 40 [some (vR 140), some (vI a0), some (vI (τ 140 1)), some (vI 0), some (vI 0)] [] τ2 Q) ∧ ((τ 140 1) = (τ2 143 (τ2 140 12).toNat) → V0 E (d + 1) qX11_listen 40 [some (vR 140), some (vI a0), some (vI (τ 140 1)), some (vI 1), some (vI 0)] [] τ2 Q)))))) : M0 E (d + 1) qX11_listen [vR 140, vI a0] τ Q := M0_of rfl (Nat.le_of_ble_eq_true rfl) [some (vR 140), some (vI a0), none, none, none] rfl (bX11_listen_0  h)
set_option maxRecDepth 20000 in
theorem bX11_listen_40 {E : mm_Env} {d : Nat} {τ : mm_Mem} {Q : mm_Q0} {x1 : Int} {x2 : Int} {x3 : Int} {x4 : Int} (h : inR x4 ∧ inR x2 ∧ ((x2 ≤ x4 → inR x3 ∧ ((x3 ≠ 0 → V0 E (d + 1) qX11_listen 93 [some (vR 140), some (vI x1), some (vI x2), none, some (vI 0)] [] τ Q) ∧ (x3 = 0 → M0 E d qX11_refused2 [vR 140] τ (fun v τ4 => ∃ r5 : Int, v = some (vI r5) ∧ Q (some (vI r5)) τ4)))) ∧ (¬ x2 ≤ x4 → inR x3 ∧ ((x3 = 0 → ((x3 ≠ 0 → V0 E (d + 1) qX11_listen 93 [some (vR 140), some (vI x1), some (vI x2), none, some (vI 0)] [] τ Q) ∧ (x3 = 0 → M0 E d qX11_refused2 [vR 140] τ (fun v τ7 => ∃ r8 : Int, v = some (vI r8) ∧ Q (some (vI r8)) τ7)))) ∧ (¬ x3 = 0 → 0 ≤ x4 ∧ x4 < 1800 ∧ 0 ≤ (τ 140 12) ∧ (τ 140 12) < 2 ∧ (((τ 142 (τ 140 12).toNat) ≤ (τ 141 x4.toNat) → V0 E (d + 1) qX11_listen 40 [some (vR 140), some (vI x1), some (vI x2), some (vI 0), some (vI (x4 + 1))] [] τ Q) ∧ (¬ (τ 142 (τ 140 12).toNat) ≤ (τ 141 x4.toNat) → V0 E (d + 1) qX11_listen 40 [some (vR 140), some (vI x1), some (vI x2), some (vI 1), some (vI (x4 + 1))] [] τ Q))))))) : V0 E (d + 1) qX11_listen 40 [some (vR 140), some (vI x1), some (vI x2), some (vI x3), some (vI x4)] [] τ Q := by
  refine u_iload (i := 4) (pc' := 42) dX11_listen_40 rfl rfl ?_
  refine u_iload_n (i := 2) (pc' := 43) dX11_listen_42 rfl rfl rfl ?_
  obtain ⟨c1, c2, h⟩ := h
  refine u_icmp_ge (tgt := 81) (pc' := 46) dX11_listen_43 rfl (by decide) c1 c2 (fun hb => ?_) (fun hb => ?_)
  · have h := h.1 hb
    refine u_iload_n (i := 3) (pc' := 82) dX11_listen_81 rfl rfl rfl ?_
    obtain ⟨c3, h⟩ := h
    refine u_if_ne (tgt := 90) (pc' := 85) dX11_listen_82 rfl (by decide) c3 (fun hb => ?_) (fun hb => ?_)
    · have h := h.1 hb
      refine u_iconst (pc' := 91) dX11_listen_90 rfl ?_
      refine s_istore (i := 4) (ls' := [some (vR 140), some (vI x1), some (vI x2), some (vI x3), some (vI 0)]) (pc' := 93) dX11_listen_91 rfl (Nat.le_of_ble_eq_true rfl) rfl rfl ?_
      exact u_less (ls' := [some (vR 140), some (vI x1), some (vI x2), none, some (vI 0)]) ⟨rfl, ⟨rfl, ⟨rfl, ⟨rfl, trivial⟩⟩⟩⟩ h
    · have h := h.2 hb
      refine u_aload_n (i := 0) (pc' := 86) dX11_listen_85 rfl rfl rfl ?_
      refine u_invV (q' := qX11_refused2) (As := []) (st := []) (pc' := 89) dX11_listen_86 rfl gX11_refused2 wm_1743 rfl rfl (by decide) kd_140 wm_1745 wp_116 rfl (Nat.le_of_ble_eq_true rfl) (M0.mono h (fun v τ4 h => ?_))
      obtain ⟨r5, rfl, h⟩ := h
      show V0 E (d + 1) qX11_listen 89 [some (vR 140), some (vI x1), some (vI x2), some (vI x3), some (vI x4)] [vI r5] τ4 Q
      exact u_iret dX11_listen_89 rfl h
  · have h := h.2 hb
    refine u_iload_n (i := 3) (pc' := 47) dX11_listen_46 rfl rfl rfl ?_
    obtain ⟨c6, h⟩ := h
    refine u_if_eq (tgt := 81) (pc' := 50) dX11_listen_47 rfl (by decide) c6 (fun hb => ?_) (fun hb => ?_)
    · have h := h.1 hb
      refine u_iload_n (i := 3) (pc' := 82) dX11_listen_81 rfl rfl rfl ?_
      refine u_if_ne (tgt := 90) (pc' := 85) dX11_listen_82 rfl (by decide) c6 (fun hb => ?_) (fun hb => ?_)
      · have h := h.1 hb
        refine u_iconst (pc' := 91) dX11_listen_90 rfl ?_
        refine s_istore (i := 4) (ls' := [some (vR 140), some (vI x1), some (vI x2), some (vI x3), some (vI 0)]) (pc' := 93) dX11_listen_91 rfl (Nat.le_of_ble_eq_true rfl) rfl rfl ?_
        exact u_less (ls' := [some (vR 140), some (vI x1), some (vI x2), none, some (vI 0)]) ⟨rfl, ⟨rfl, ⟨rfl, ⟨rfl, trivial⟩⟩⟩⟩ h
      · have h := h.2 hb
        refine u_aload_n (i := 0) (pc' := 86) dX11_listen_85 rfl rfl rfl ?_
        refine u_invV (q' := qX11_refused2) (As := []) (st := []) (pc' := 89) dX11_listen_86 rfl gX11_refused2 wm_1743 rfl rfl (by decide) kd_140 wm_1745 wp_116 rfl (Nat.le_of_ble_eq_true rfl) (M0.mono h (fun v τ7 h => ?_))
        obtain ⟨r8, rfl, h⟩ := h
        show V0 E (d + 1) qX11_listen 89 [some (vR 140), some (vI x1), some (vI x2), some (vI x3), some (vI x4)] [vI r8] τ7 Q
        exact u_iret dX11_listen_89 rfl h
    · have h := h.2 hb
      refine u_aload_n (i := 0) (pc' := 51) dX11_listen_50 rfl rfl rfl ?_
      refine u_getR (a := 141) (pc' := 54) dX11_listen_51 rfl fl_TuneDoorModel_7 rfl (by decide) kd_140 rfl ?_
      refine u_iload (i := 4) (pc' := 56) dX11_listen_54 rfl rfl ?_
      obtain ⟨c9, c10, h⟩ := h
      refine u_iaload (k := x4.toNat) (z := (τ 141 x4.toNat)) (pc' := 57) dX11_listen_56 rfl (by decide) kd_141 c9 c10 (by decide) rfl rfl (fun r11 => ?_)
      refine u_aload_n (i := 0) (pc' := 58) dX11_listen_57 rfl rfl rfl ?_
      refine u_getR (a := 142) (pc' := 61) dX11_listen_58 rfl fl_TuneDoorModel_51 rfl (by decide) kd_140 rfl ?_
      refine u_aload_n (i := 0) (pc' := 62) dX11_listen_61 rfl rfl rfl ?_
      refine u_getI (z := (τ 140 12)) (pc' := 65) dX11_listen_62 rfl fl_TuneDoorModel_48 rfl (by decide) (by decide) kd_140 rfl (fun r12 => ?_)
      obtain ⟨c13, c14, h⟩ := h
      refine u_iaload (k := (τ 140 12).toNat) (z := (τ 142 (τ 140 12).toNat)) (pc' := 66) dX11_listen_65 rfl (by decide) kd_142 c13 c14 (by decide) rfl rfl (fun r15 => ?_)
      refine u_icmp_ge (tgt := 73) (pc' := 69) dX11_listen_66 rfl (by decide) r11 r15 (fun hb => ?_) (fun hb => ?_)
      · have h := h.1 hb
        refine u_iconst (pc' := 74) dX11_listen_73 rfl ?_
        refine s_istore_n (i := 3) (ls' := [some (vR 140), some (vI x1), some (vI x2), some (vI 0), some (vI x4)]) (pc' := 75) dX11_listen_74 rfl rfl (Nat.le_of_ble_eq_true rfl) rfl rfl ?_
        refine s_iinc (i := 4) (ls' := [some (vR 140), some (vI x1), some (vI x2), some (vI 0), some (vI (x4 + 1))]) (pc' := 78) dX11_listen_75 rfl rfl (Nat.le_of_ble_eq_true rfl) rfl rfl ?_
        refine u_goto (tgt := 40) dX11_listen_78 (by decide) ?_
        exact u_less (ls' := [some (vR 140), some (vI x1), some (vI x2), some (vI 0), some (vI (x4 + 1))]) ⟨rfl, ⟨rfl, ⟨rfl, ⟨rfl, ⟨rfl, trivial⟩⟩⟩⟩⟩ h
      · have h := h.2 hb
        refine u_iconst (pc' := 70) dX11_listen_69 rfl ?_
        refine u_goto (tgt := 74) dX11_listen_70 (by decide) ?_
        refine s_istore_n (i := 3) (ls' := [some (vR 140), some (vI x1), some (vI x2), some (vI 1), some (vI x4)]) (pc' := 75) dX11_listen_74 rfl rfl (Nat.le_of_ble_eq_true rfl) rfl rfl ?_
        refine s_iinc (i := 4) (ls' := [some (vR 140), some (vI x1), some (vI x2), some (vI 1), some (vI (x4 + 1))]) (pc' := 78) dX11_listen_75 rfl rfl (Nat.le_of_ble_eq_true rfl) rfl rfl ?_
        refine u_goto (tgt := 40) dX11_listen_78 (by decide) ?_
        exact u_less (ls' := [some (vR 140), some (vI x1), some (vI x2), some (vI 1), some (vI (x4 + 1))]) ⟨rfl, ⟨rfl, ⟨rfl, ⟨rfl, ⟨rfl, trivial⟩⟩⟩⟩⟩ h
set_option maxRecDepth 20000 in
theorem bX11_listen_93 {E : mm_Env} {d : Nat} {τ : mm_Mem} {Q : mm_Q0} {x1 : Int} {x2 : Int} {x4 : Int} (h : inR x4 ∧ inR x2 ∧ ((x2 ≤ x4 → M0 E d qX11_numbers [vR 140] τ (fun v τ3 => v = none ∧ M0 E d qX11_hearsNow [vR 140, vI x1] τ3 (fun v τ4 => ∃ r5 : Int, v = some (vI r5) ∧ Q (some (vI r5)) τ4))) ∧ (¬ x2 ≤ x4 → 0 ≤ x4 ∧ x4 < 1800 ∧ 0 ≤ x4 ∧ x4 < 5 ∧ V0 E (d + 1) qX11_listen 93 [some (vR 140), some (vI x1), some (vI x2), none, some (vI (x4 + 1))] [] (wr τ 188 x4.toNat (τ 141 x4.toNat)) Q))) : V0 E (d + 1) qX11_listen 93 [some (vR 140), some (vI x1), some (vI x2), none, some (vI x4)] [] τ Q := by
  refine u_iload (i := 4) (pc' := 95) dX11_listen_93 rfl rfl ?_
  refine u_iload_n (i := 2) (pc' := 96) dX11_listen_95 rfl rfl rfl ?_
  obtain ⟨c1, c2, h⟩ := h
  refine u_icmp_ge (tgt := 119) (pc' := 99) dX11_listen_96 rfl (by decide) c1 c2 (fun hb => ?_) (fun hb => ?_)
  · have h := h.1 hb
    refine u_aload_n (i := 0) (pc' := 120) dX11_listen_119 rfl rfl rfl ?_
    refine u_invV (q' := qX11_numbers) (As := []) (st := []) (pc' := 123) dX11_listen_120 rfl gX11_numbers wm_1783 rfl rfl (by decide) kd_140 wm_1785 wp_125 rfl (Nat.le_of_ble_eq_true rfl) (M0.mono h (fun v τ3 h => ?_))
    obtain ⟨rfl, h⟩ := h
    show V0 E (d + 1) qX11_listen 123 [some (vR 140), some (vI x1), some (vI x2), none, some (vI x4)] [] τ3 Q
    refine u_aload_n (i := 0) (pc' := 124) dX11_listen_123 rfl rfl rfl ?_
    refine u_iload_n (i := 1) (pc' := 125) dX11_listen_124 rfl rfl rfl ?_
    refine u_invV (q' := qX11_hearsNow) (As := [vI x1]) (st := []) (pc' := 128) dX11_listen_125 rfl gX11_hearsNow wm_1755 rfl rfl (by decide) kd_140 wm_1757 wp_119 rfl (Nat.le_of_ble_eq_true rfl) (M0.mono h (fun v τ4 h => ?_))
    obtain ⟨r5, rfl, h⟩ := h
    show V0 E (d + 1) qX11_listen 128 [some (vR 140), some (vI x1), some (vI x2), none, some (vI x4)] [vI r5] τ4 Q
    exact u_iret dX11_listen_128 rfl h
  · have h := h.2 hb
    refine u_aload_n (i := 0) (pc' := 100) dX11_listen_99 rfl rfl rfl ?_
    refine u_getR (a := 188) (pc' := 103) dX11_listen_100 rfl fl_TuneDoorModel_210 rfl (by decide) kd_140 rfl ?_
    refine u_iload (i := 4) (pc' := 105) dX11_listen_103 rfl rfl ?_
    refine u_aload_n (i := 0) (pc' := 106) dX11_listen_105 rfl rfl rfl ?_
    refine u_getR (a := 141) (pc' := 109) dX11_listen_106 rfl fl_TuneDoorModel_7 rfl (by decide) kd_140 rfl ?_
    refine u_iload (i := 4) (pc' := 111) dX11_listen_109 rfl rfl ?_
    obtain ⟨c6, c7, h⟩ := h
    refine u_iaload (k := x4.toNat) (z := (τ 141 x4.toNat)) (pc' := 112) dX11_listen_111 rfl (by decide) kd_141 c6 c7 (by decide) rfl rfl (fun r8 => ?_)
    obtain ⟨c9, c10, h⟩ := h
    refine u_iastore (k := x4.toNat) (pc' := 113) dX11_listen_112 rfl (by decide) kd_188 c9 c10 (by decide) rfl r8 ?_
    refine s_iinc (i := 4) (ls' := [some (vR 140), some (vI x1), some (vI x2), none, some (vI (x4 + 1))]) (pc' := 116) dX11_listen_113 rfl rfl (Nat.le_of_ble_eq_true rfl) rfl rfl ?_
    refine u_goto (tgt := 93) dX11_listen_116 (by decide) ?_
    exact u_less (ls' := [some (vR 140), some (vI x1), some (vI x2), none, some (vI (x4 + 1))]) ⟨rfl, ⟨rfl, ⟨rfl, ⟨rfl, trivial⟩⟩⟩⟩ h
set_option maxRecDepth 20000 in
theorem bX11_apart_0 {E : mm_Env} {d : Nat} {τ : mm_Mem} {Q : mm_Q0} {a0 : Int} (h : M0 E d qX11_isPerson [vR 140, vI a0] τ (fun v τ1 => ∃ b2 : Bool, v = some (vB b2) ∧ ((b2 = false → Q (some (vI (-10000))) τ1) ∧ (b2 = true → 0 ≤ a0 ∧ a0 < 4 ∧ M0 E d qX11_person4 [vR 140, vI a0] τ1 (fun v τ6 => ∃ r7 : Int, v = some (vI r7) ∧ 0 ≤ r7 ∧ r7 < 8 ∧ M0 E d qX11_person4 [vR 140, vI a0] τ6 (fun v τ11 => ∃ r12 : Int, v = some (vI r12) ∧ 0 ≤ r12 ∧ r12 < 8 ∧ 0 ≤ ((3 * (τ6 159 r7.toNat)) + (τ11 160 r12.toNat)) ∧ ((3 * (τ6 159 r7.toNat)) + (τ11 160 r12.toNat)) < 12 ∧ Q (some (vI ((τ1 179 a0.toNat) - (τ11 182 ((3 * (τ6 159 r7.toNat)) + (τ11 160 r12.toNat)).toNat)))) τ11)))))) : V0 E (d + 1) qX11_apart 0 [some (vR 140), some (vI a0)] [] τ Q := by
  refine u_aload_n (i := 0) (pc' := 1) dX11_apart_0 rfl rfl rfl ?_
  refine u_iload_n (i := 1) (pc' := 2) dX11_apart_1 rfl rfl rfl ?_
  refine u_invV (q' := qX11_isPerson) (As := [vI a0]) (st := []) (pc' := 5) dX11_apart_2 rfl gX11_isPerson wm_1704 rfl rfl (by decide) kd_140 wm_1706 wp_113 rfl (Nat.le_of_ble_eq_true rfl) (M0.mono h (fun v τ1 h => ?_))
  obtain ⟨b2, rfl, h⟩ := h
  show V0 E (d + 1) qX11_apart 5 [some (vR 140), some (vI a0)] [vB b2] τ1 Q
  refine u_if_eq (tgt := 46) (pc' := 8) dX11_apart_5 rfl (by decide) (bI_R _) (fun hb => ?_) (fun hb => ?_)
  · have h := h.1 (bI_0.mp hb)
    refine u_sipush (pc' := 49) dX11_apart_46 rfl (by decide) ?_
    exact u_iret dX11_apart_49 rfl h
  · have h := h.2 (bI_n0.mp hb)
    refine u_aload_n (i := 0) (pc' := 9) dX11_apart_8 rfl rfl rfl ?_
    refine u_getR (a := 179) (pc' := 12) dX11_apart_9 rfl fl_TuneDoorModel_183 rfl (by decide) kd_140 rfl ?_
    refine u_iload_n (i := 1) (pc' := 13) dX11_apart_12 rfl rfl rfl ?_
    obtain ⟨c3, c4, h⟩ := h
    refine u_iaload (k := a0.toNat) (z := (τ1 179 a0.toNat)) (pc' := 14) dX11_apart_13 rfl (by decide) kd_179 c3 c4 (by decide) rfl rfl (fun r5 => ?_)
    refine u_aload_n (i := 0) (pc' := 15) dX11_apart_14 rfl rfl rfl ?_
    refine u_getR (a := 182) (pc' := 18) dX11_apart_15 rfl fl_TuneDoorModel_192 rfl (by decide) kd_140 rfl ?_
    refine u_iconst (pc' := 19) dX11_apart_18 rfl ?_
    refine u_aload_n (i := 0) (pc' := 20) dX11_apart_19 rfl rfl rfl ?_
    refine u_getR (a := 159) (pc' := 23) dX11_apart_20 rfl fl_TuneDoorModel_103 rfl (by decide) kd_140 rfl ?_
    refine u_aload_n (i := 0) (pc' := 24) dX11_apart_23 rfl rfl rfl ?_
    refine u_iload_n (i := 1) (pc' := 25) dX11_apart_24 rfl rfl rfl ?_
    refine u_invV (q' := qX11_person4) (As := [vI a0]) (st := [vR 159, vI 3, vR 182, vI (τ1 179 a0.toNat)]) (pc' := 28) dX11_apart_25 rfl gX11_person4 wm_1692 rfl rfl (by decide) kd_140 wm_1694 wp_111 rfl (Nat.le_of_ble_eq_true rfl) (M0.mono h (fun v τ6 h => ?_))
    obtain ⟨r7, rfl, h⟩ := h
    show V0 E (d + 1) qX11_apart 28 [some (vR 140), some (vI a0)] [vI r7, vR 159, vI 3, vR 182, vI (τ1 179 a0.toNat)] τ6 Q
    obtain ⟨c8, c9, h⟩ := h
    refine u_iaload (k := r7.toNat) (z := (τ6 159 r7.toNat)) (pc' := 29) dX11_apart_28 rfl (by decide) kd_159 c8 c9 (by decide) rfl rfl (fun r10 => ?_)
    refine u_imul (pc' := 30) dX11_apart_29 rfl ?_
    refine u_aload_n (i := 0) (pc' := 31) dX11_apart_30 rfl rfl rfl ?_
    refine u_getR (a := 160) (pc' := 34) dX11_apart_31 rfl fl_TuneDoorModel_106 rfl (by decide) kd_140 rfl ?_
    refine u_aload_n (i := 0) (pc' := 35) dX11_apart_34 rfl rfl rfl ?_
    refine u_iload_n (i := 1) (pc' := 36) dX11_apart_35 rfl rfl rfl ?_
    refine u_invV (q' := qX11_person4) (As := [vI a0]) (st := [vR 160, vI (3 * (τ6 159 r7.toNat)), vR 182, vI (τ1 179 a0.toNat)]) (pc' := 39) dX11_apart_36 rfl gX11_person4 wm_1692 rfl rfl (by decide) kd_140 wm_1694 wp_111 rfl (Nat.le_of_ble_eq_true rfl) (M0.mono h (fun v τ11 h => ?_))
    obtain ⟨r12, rfl, h⟩ := h
    show V0 E (d + 1) qX11_apart 39 [some (vR 140), some (vI a0)] [vI r12, vR 160, vI (3 * (τ6 159 r7.toNat)), vR 182, vI (τ1 179 a0.toNat)] τ11 Q
    obtain ⟨c13, c14, h⟩ := h
    refine u_iaload (k := r12.toNat) (z := (τ11 160 r12.toNat)) (pc' := 40) dX11_apart_39 rfl (by decide) kd_160 c13 c14 (by decide) rfl rfl (fun r15 => ?_)
    refine u_iadd (pc' := 41) dX11_apart_40 rfl ?_
    obtain ⟨c16, c17, h⟩ := h
    refine u_iaload (k := ((3 * (τ6 159 r7.toNat)) + (τ11 160 r12.toNat)).toNat) (z := (τ11 182 ((3 * (τ6 159 r7.toNat)) + (τ11 160 r12.toNat)).toNat)) (pc' := 42) dX11_apart_41 rfl (by decide) kd_182 c16 c17 (by decide) rfl rfl (fun r18 => ?_)
    refine u_isub (pc' := 43) dX11_apart_42 rfl ?_
    refine u_goto (tgt := 49) dX11_apart_43 (by decide) ?_
    exact u_iret dX11_apart_49 rfl h
theorem mX11_apart {E : mm_Env} {d : Nat} {τ : mm_Mem} {Q : mm_Q0} {a0 : Int} (h : M0 E d qX11_isPerson [vR 140, vI a0] τ (fun v τ1 => ∃ b2 : Bool, v = some (vB b2) ∧ ((b2 = false → Q (some (vI (-10000))) τ1) ∧ (b2 = true → 0 ≤ a0 ∧ a0 < 4 ∧ M0 E d qX11_person4 [vR 140, vI a0] τ1 (fun v τ6 => ∃ r7 : Int, v = some (vI r7) ∧ 0 ≤ r7 ∧ r7 < 8 ∧ M0 E d qX11_person4 [vR 140, vI a0] τ6 (fun v τ11 => ∃ r12 : Int, v = some (vI r12) ∧ 0 ≤ r12 ∧ r12 < 8 ∧ 0 ≤ ((3 * (τ6 159 r7.toNat)) + (τ11 160 r12.toNat)) ∧ ((3 * (τ6 159 r7.toNat)) + (τ11 160 r12.toNat)) < 12 ∧ Q (some (vI ((τ1 179 a0.toNat) - (τ11 182 ((3 * (τ6 159 r7.toNat)) + (τ11 160 r12.toNat)).toNat)))) τ11)))))) : M0 E (d + 1) qX11_apart [vR 140, vI a0] τ Q := M0_of rfl (Nat.le_of_ble_eq_true rfl) [some (vR 140), some (vI a0)] rfl (bX11_apart_0  h)
set_option maxRecDepth 20000 in
theorem bX11_mend_0 {E : mm_Env} {d : Nat} {τ : mm_Mem} {Q : mm_Q0} {a0 : Int} (h : M0 E d qX11_isPerson [vR 140, vI a0] τ (fun v τ1 => ∃ b2 : Bool, v = some (vB b2) ∧ ((b2 = true → M0 E d qX11_keeps [vR 140] τ1 (fun v τ3 => v = none ∧ V0 E (d + 1) qX11_mend 18 [some (vR 140), some (vI a0), some (vI (-1)), some (vI 1)] [] τ3 Q)) ∧ (b2 = false → Q (some (vI (-1))) τ1)))) : V0 E (d + 1) qX11_mend 0 [some (vR 140), some (vI a0), none, none] [] τ Q := by
  refine u_aload_n (i := 0) (pc' := 1) dX11_mend_0 rfl rfl rfl ?_
  refine u_iload_n (i := 1) (pc' := 2) dX11_mend_1 rfl rfl rfl ?_
  refine u_invV (q' := qX11_isPerson) (As := [vI a0]) (st := []) (pc' := 5) dX11_mend_2 rfl gX11_isPerson wm_1704 rfl rfl (by decide) kd_140 wm_1706 wp_113 rfl (Nat.le_of_ble_eq_true rfl) (M0.mono h (fun v τ1 h => ?_))
  obtain ⟨b2, rfl, h⟩ := h
  show V0 E (d + 1) qX11_mend 5 [some (vR 140), some (vI a0), none, none] [vB b2] τ1 Q
  refine u_if_ne (tgt := 10) (pc' := 8) dX11_mend_5 rfl (by decide) (bI_R _) (fun hb => ?_) (fun hb => ?_)
  · have h := h.1 (bI_n0.mp hb)
    refine u_aload_n (i := 0) (pc' := 11) dX11_mend_10 rfl rfl rfl ?_
    refine u_invV (q' := qX11_keeps) (As := []) (st := []) (pc' := 14) dX11_mend_11 rfl gX11_keeps wm_1803 rfl rfl (by decide) kd_140 wm_1805 wp_126 rfl (Nat.le_of_ble_eq_true rfl) (M0.mono h (fun v τ3 h => ?_))
    obtain ⟨rfl, h⟩ := h
    show V0 E (d + 1) qX11_mend 14 [some (vR 140), some (vI a0), none, none] [] τ3 Q
    refine u_iconst (pc' := 15) dX11_mend_14 rfl ?_
    refine s_istore_n (i := 2) (ls' := [some (vR 140), some (vI a0), some (vI (-1)), none]) (pc' := 16) dX11_mend_15 rfl rfl (Nat.le_of_ble_eq_true rfl) rfl rfl ?_
    refine u_iconst (pc' := 17) dX11_mend_16 rfl ?_
    refine s_istore_n (i := 3) (ls' := [some (vR 140), some (vI a0), some (vI (-1)), some (vI 1)]) (pc' := 18) dX11_mend_17 rfl rfl (Nat.le_of_ble_eq_true rfl) rfl rfl ?_
    exact u_less (ls' := [some (vR 140), some (vI a0), some (vI (-1)), some (vI 1)]) ⟨rfl, ⟨rfl, ⟨rfl, ⟨rfl, trivial⟩⟩⟩⟩ h
  · have h := h.2 (bI_0.mp hb)
    refine u_iconst (pc' := 9) dX11_mend_8 rfl ?_
    exact u_iret dX11_mend_9 rfl h
theorem mX11_mend {E : mm_Env} {d : Nat} {τ : mm_Mem} {Q : mm_Q0} {a0 : Int} (h : M0 E d qX11_isPerson [vR 140, vI a0] τ (fun v τ1 => ∃ b2 : Bool, v = some (vB b2) ∧ ((b2 = true → M0 E d qX11_keeps [vR 140] τ1 (fun v τ3 => v = none ∧ V0 E (d + 1) qX11_mend 18 [some (vR 140), some (vI a0), some (vI (-1)), some (vI 1)] [] τ3 Q)) ∧ (b2 = false → Q (some (vI (-1))) τ1)))) : M0 E (d + 1) qX11_mend [vR 140, vI a0] τ Q := M0_of rfl (Nat.le_of_ble_eq_true rfl) [some (vR 140), some (vI a0), none, none] rfl (bX11_mend_0  h)
set_option maxRecDepth 20000 in
theorem bX11_mend_18 {E : mm_Env} {d : Nat} {τ : mm_Mem} {Q : mm_Q0} {x1 : Int} {x2 : Int} {x3 : Int} (h : inR x3 ∧ ((50 < x3 → M0 E d qX11_back [vR 140] τ (fun v τ2 => v = none ∧ Q (some (vI x2)) τ2)) ∧ (¬ 50 < x3 → inR x2 ∧ ((x2 ≠ (-1) → M0 E d qX11_back [vR 140] τ (fun v τ4 => v = none ∧ Q (some (vI x2)) τ4)) ∧ (x2 = (-1) → M0 E d qX11_canCome [vR 140, vI x1] τ (fun v τ5 => ∃ b6 : Bool, v = some (vB b6) ∧ ((b6 = false → M0 E d qX11_back [vR 140] τ5 (fun v τ7 => v = none ∧ Q (some (vI x2)) τ7)) ∧ (b6 = true → M0 E d qX11_isLetIn [vR 140, vI x1] τ5 (fun v τ8 => ∃ b9 : Bool, v = some (vB b9) ∧ ((b9 = false → V0 E (d + 1) qX11_mend 18 [some (vR 140), some (vI x1), some (vI (-1)), some (vI (x3 + 1))] [] τ8 Q) ∧ (b9 = true → V0 E (d + 1) qX11_mend 18 [some (vR 140), some (vI x1), some (vI x3), some (vI (x3 + 1))] [] τ8 Q))))))))))) : V0 E (d + 1) qX11_mend 18 [some (vR 140), some (vI x1), some (vI x2), some (vI x3)] [] τ Q := by
  refine u_iload_n (i := 3) (pc' := 19) dX11_mend_18 rfl rfl rfl ?_
  refine u_bipush (pc' := 21) dX11_mend_19 rfl (by decide) ?_
  obtain ⟨c1, h⟩ := h
  refine u_icmp_gt (tgt := 57) (pc' := 24) dX11_mend_21 rfl (by decide) c1 ⟨by decide, by decide⟩ (fun hb => ?_) (fun hb => ?_)
  · have h := h.1 hb
    refine u_aload_n (i := 0) (pc' := 58) dX11_mend_57 rfl rfl rfl ?_
    refine u_invV (q' := qX11_back) (As := []) (st := []) (pc' := 61) dX11_mend_58 rfl gX11_back wm_1811 rfl rfl (by decide) kd_140 wm_1813 wp_128 rfl (Nat.le_of_ble_eq_true rfl) (M0.mono h (fun v τ2 h => ?_))
    obtain ⟨rfl, h⟩ := h
    show V0 E (d + 1) qX11_mend 61 [some (vR 140), some (vI x1), some (vI x2), some (vI x3)] [] τ2 Q
    refine u_iload_n (i := 2) (pc' := 62) dX11_mend_61 rfl rfl rfl ?_
    exact u_iret dX11_mend_62 rfl h
  · have h := h.2 hb
    refine u_iload_n (i := 2) (pc' := 25) dX11_mend_24 rfl rfl rfl ?_
    refine u_iconst (pc' := 26) dX11_mend_25 rfl ?_
    obtain ⟨c3, h⟩ := h
    refine u_icmp_ne (tgt := 57) (pc' := 29) dX11_mend_26 rfl (by decide) c3 ⟨by decide, by decide⟩ (fun hb => ?_) (fun hb => ?_)
    · have h := h.1 hb
      refine u_aload_n (i := 0) (pc' := 58) dX11_mend_57 rfl rfl rfl ?_
      refine u_invV (q' := qX11_back) (As := []) (st := []) (pc' := 61) dX11_mend_58 rfl gX11_back wm_1811 rfl rfl (by decide) kd_140 wm_1813 wp_128 rfl (Nat.le_of_ble_eq_true rfl) (M0.mono h (fun v τ4 h => ?_))
      obtain ⟨rfl, h⟩ := h
      show V0 E (d + 1) qX11_mend 61 [some (vR 140), some (vI x1), some (vI x2), some (vI x3)] [] τ4 Q
      refine u_iload_n (i := 2) (pc' := 62) dX11_mend_61 rfl rfl rfl ?_
      exact u_iret dX11_mend_62 rfl h
    · have h := h.2 hb
      refine u_aload_n (i := 0) (pc' := 30) dX11_mend_29 rfl rfl rfl ?_
      refine u_iload_n (i := 1) (pc' := 31) dX11_mend_30 rfl rfl rfl ?_
      refine u_invV (q' := qX11_canCome) (As := [vI x1]) (st := []) (pc' := 34) dX11_mend_31 rfl gX11_canCome wm_1739 rfl rfl (by decide) kd_140 wm_1741 wp_115 rfl (Nat.le_of_ble_eq_true rfl) (M0.mono h (fun v τ5 h => ?_))
      obtain ⟨b6, rfl, h⟩ := h
      show V0 E (d + 1) qX11_mend 34 [some (vR 140), some (vI x1), some (vI x2), some (vI x3)] [vB b6] τ5 Q
      refine u_if_eq (tgt := 57) (pc' := 37) dX11_mend_34 rfl (by decide) (bI_R _) (fun hb => ?_) (fun hb => ?_)
      · have h := h.1 (bI_0.mp hb)
        refine u_aload_n (i := 0) (pc' := 58) dX11_mend_57 rfl rfl rfl ?_
        refine u_invV (q' := qX11_back) (As := []) (st := []) (pc' := 61) dX11_mend_58 rfl gX11_back wm_1811 rfl rfl (by decide) kd_140 wm_1813 wp_128 rfl (Nat.le_of_ble_eq_true rfl) (M0.mono h (fun v τ7 h => ?_))
        obtain ⟨rfl, h⟩ := h
        show V0 E (d + 1) qX11_mend 61 [some (vR 140), some (vI x1), some (vI x2), some (vI x3)] [] τ7 Q
        refine u_iload_n (i := 2) (pc' := 62) dX11_mend_61 rfl rfl rfl ?_
        exact u_iret dX11_mend_62 rfl h
      · have h := h.2 (bI_n0.mp hb)
        refine u_aload_n (i := 0) (pc' := 38) dX11_mend_37 rfl rfl rfl ?_
        refine u_iload_n (i := 1) (pc' := 39) dX11_mend_38 rfl rfl rfl ?_
        refine u_invV (q' := qX11_isLetIn) (As := [vI x1]) (st := []) (pc' := 42) dX11_mend_39 rfl gX11_isLetIn wm_1807 rfl rfl (by decide) kd_140 wm_1809 wp_127 rfl (Nat.le_of_ble_eq_true rfl) (M0.mono h (fun v τ8 h => ?_))
        obtain ⟨b9, rfl, h⟩ := h
        show V0 E (d + 1) qX11_mend 42 [some (vR 140), some (vI x1), some (vI x2), some (vI x3)] [vB b9] τ8 Q
        refine u_if_eq (tgt := 49) (pc' := 45) dX11_mend_42 rfl (by decide) (bI_R _) (fun hb => ?_) (fun hb => ?_)
        · have h := h.1 (bI_0.mp hb)
          refine u_iconst (pc' := 50) dX11_mend_49 rfl ?_
          refine s_istore_n (i := 2) (ls' := [some (vR 140), some (vI x1), some (vI (-1)), some (vI x3)]) (pc' := 51) dX11_mend_50 rfl rfl (Nat.le_of_ble_eq_true rfl) rfl rfl ?_
          refine s_iinc (i := 3) (ls' := [some (vR 140), some (vI x1), some (vI (-1)), some (vI (x3 + 1))]) (pc' := 54) dX11_mend_51 rfl rfl (Nat.le_of_ble_eq_true rfl) rfl rfl ?_
          refine u_goto (tgt := 18) dX11_mend_54 (by decide) ?_
          exact u_less (ls' := [some (vR 140), some (vI x1), some (vI (-1)), some (vI (x3 + 1))]) ⟨rfl, ⟨rfl, ⟨rfl, ⟨rfl, trivial⟩⟩⟩⟩ h
        · have h := h.2 (bI_n0.mp hb)
          refine u_iload_n (i := 3) (pc' := 46) dX11_mend_45 rfl rfl rfl ?_
          refine u_goto (tgt := 50) dX11_mend_46 (by decide) ?_
          refine s_istore_n (i := 2) (ls' := [some (vR 140), some (vI x1), some (vI x3), some (vI x3)]) (pc' := 51) dX11_mend_50 rfl rfl (Nat.le_of_ble_eq_true rfl) rfl rfl ?_
          refine s_iinc (i := 3) (ls' := [some (vR 140), some (vI x1), some (vI x3), some (vI (x3 + 1))]) (pc' := 54) dX11_mend_51 rfl rfl (Nat.le_of_ble_eq_true rfl) rfl rfl ?_
          refine u_goto (tgt := 18) dX11_mend_54 (by decide) ?_
          exact u_less (ls' := [some (vR 140), some (vI x1), some (vI x3), some (vI (x3 + 1))]) ⟨rfl, ⟨rfl, ⟨rfl, ⟨rfl, trivial⟩⟩⟩⟩ h
set_option maxRecDepth 20000 in
theorem bX11_keeps_0 {E : mm_Env} {d : Nat} {τ : mm_Mem} {Q : mm_Q0}  (h : V0 E d qX11_keeps 2 [some (vR 140), some (vI 0)] [] τ Q) : V0 E d qX11_keeps 0 [some (vR 140), none] [] τ Q := by
  refine u_iconst (pc' := 1) dX11_keeps_0 rfl ?_
  refine s_istore_n (i := 1) (ls' := [some (vR 140), some (vI 0)]) (pc' := 2) dX11_keeps_1 rfl rfl (Nat.le_of_ble_eq_true rfl) rfl rfl ?_
  exact u_less (ls' := [some (vR 140), some (vI 0)]) ⟨rfl, ⟨rfl, trivial⟩⟩ h
theorem mX11_keeps {E : mm_Env} {d : Nat} {τ : mm_Mem} {Q : mm_Q0}  (h : V0 E d qX11_keeps 2 [some (vR 140), some (vI 0)] [] τ Q) : M0 E d qX11_keeps [vR 140] τ Q := M0_of rfl (Nat.le_of_ble_eq_true rfl) [some (vR 140), none] rfl (bX11_keeps_0  h)
set_option maxRecDepth 20000 in
theorem bX11_keeps_2 {E : mm_Env} {d : Nat} {τ : mm_Mem} {Q : mm_Q0} {x1 : Int} (h : inR x1 ∧ ((4 ≤ x1 → V0 E d qX11_keeps 27 [some (vR 140), some (vI 0)] [] τ Q) ∧ (¬ 4 ≤ x1 → 0 ≤ x1 ∧ x1 < 4 ∧ 0 ≤ x1 ∧ x1 < 4 ∧ V0 E d qX11_keeps 2 [some (vR 140), some (vI (x1 + 1))] [] (wr τ 189 x1.toNat (τ 179 x1.toNat)) Q))) : V0 E d qX11_keeps 2 [some (vR 140), some (vI x1)] [] τ Q := by
  refine u_iload_n (i := 1) (pc' := 3) dX11_keeps_2 rfl rfl rfl ?_
  refine u_iconst (pc' := 4) dX11_keeps_3 rfl ?_
  obtain ⟨c1, h⟩ := h
  refine u_icmp_ge (tgt := 25) (pc' := 7) dX11_keeps_4 rfl (by decide) c1 ⟨by decide, by decide⟩ (fun hb => ?_) (fun hb => ?_)
  · have h := h.1 hb
    refine u_iconst (pc' := 26) dX11_keeps_25 rfl ?_
    refine s_istore_n (i := 1) (ls' := [some (vR 140), some (vI 0)]) (pc' := 27) dX11_keeps_26 rfl rfl (Nat.le_of_ble_eq_true rfl) rfl rfl ?_
    exact u_less (ls' := [some (vR 140), some (vI 0)]) ⟨rfl, ⟨rfl, trivial⟩⟩ h
  · have h := h.2 hb
    refine u_aload_n (i := 0) (pc' := 8) dX11_keeps_7 rfl rfl rfl ?_
    refine u_getR (a := 189) (pc' := 11) dX11_keeps_8 rfl fl_TuneDoorModel_216 rfl (by decide) kd_140 rfl ?_
    refine u_iload_n (i := 1) (pc' := 12) dX11_keeps_11 rfl rfl rfl ?_
    refine u_aload_n (i := 0) (pc' := 13) dX11_keeps_12 rfl rfl rfl ?_
    refine u_getR (a := 179) (pc' := 16) dX11_keeps_13 rfl fl_TuneDoorModel_183 rfl (by decide) kd_140 rfl ?_
    refine u_iload_n (i := 1) (pc' := 17) dX11_keeps_16 rfl rfl rfl ?_
    obtain ⟨c2, c3, h⟩ := h
    refine u_iaload (k := x1.toNat) (z := (τ 179 x1.toNat)) (pc' := 18) dX11_keeps_17 rfl (by decide) kd_179 c2 c3 (by decide) rfl rfl (fun r4 => ?_)
    obtain ⟨c5, c6, h⟩ := h
    refine u_iastore (k := x1.toNat) (pc' := 19) dX11_keeps_18 rfl (by decide) kd_189 c5 c6 (by decide) rfl r4 ?_
    refine s_iinc (i := 1) (ls' := [some (vR 140), some (vI (x1 + 1))]) (pc' := 22) dX11_keeps_19 rfl rfl (Nat.le_of_ble_eq_true rfl) rfl rfl ?_
    refine u_goto (tgt := 2) dX11_keeps_22 (by decide) ?_
    exact u_less (ls' := [some (vR 140), some (vI (x1 + 1))]) ⟨rfl, ⟨rfl, trivial⟩⟩ h
set_option maxRecDepth 20000 in
theorem bX11_keeps_27 {E : mm_Env} {d : Nat} {τ : mm_Mem} {Q : mm_Q0} {x1 : Int} (h : inR x1 ∧ ((12 ≤ x1 → Q none τ) ∧ (¬ 12 ≤ x1 → 0 ≤ x1 ∧ x1 < 12 ∧ 0 ≤ x1 ∧ x1 < 12 ∧ 0 ≤ x1 ∧ x1 < 12 ∧ 0 ≤ x1 ∧ x1 < 12 ∧ 0 ≤ x1 ∧ x1 < 12 ∧ 0 ≤ x1 ∧ x1 < 12 ∧ V0 E d qX11_keeps 27 [some (vR 140), some (vI (x1 + 1))] [] (wr (wr (wr τ 190 x1.toNat (τ 182 x1.toNat)) 191 x1.toNat (τ 183 x1.toNat)) 192 x1.toNat (τ 184 x1.toNat)) Q))) : V0 E d qX11_keeps 27 [some (vR 140), some (vI x1)] [] τ Q := by
  refine u_iload_n (i := 1) (pc' := 28) dX11_keeps_27 rfl rfl rfl ?_
  refine u_bipush (pc' := 30) dX11_keeps_28 rfl (by decide) ?_
  obtain ⟨c1, h⟩ := h
  refine u_icmp_ge (tgt := 75) (pc' := 33) dX11_keeps_30 rfl (by decide) c1 ⟨by decide, by decide⟩ (fun hb => ?_) (fun hb => ?_)
  · have h := h.1 hb
    exact u_ret dX11_keeps_75 rfl h
  · have h := h.2 hb
    refine u_aload_n (i := 0) (pc' := 34) dX11_keeps_33 rfl rfl rfl ?_
    refine u_getR (a := 190) (pc' := 37) dX11_keeps_34 rfl fl_TuneDoorModel_219 rfl (by decide) kd_140 rfl ?_
    refine u_iload_n (i := 1) (pc' := 38) dX11_keeps_37 rfl rfl rfl ?_
    refine u_aload_n (i := 0) (pc' := 39) dX11_keeps_38 rfl rfl rfl ?_
    refine u_getR (a := 182) (pc' := 42) dX11_keeps_39 rfl fl_TuneDoorModel_192 rfl (by decide) kd_140 rfl ?_
    refine u_iload_n (i := 1) (pc' := 43) dX11_keeps_42 rfl rfl rfl ?_
    obtain ⟨c2, c3, h⟩ := h
    refine u_iaload (k := x1.toNat) (z := (τ 182 x1.toNat)) (pc' := 44) dX11_keeps_43 rfl (by decide) kd_182 c2 c3 (by decide) rfl rfl (fun r4 => ?_)
    obtain ⟨c5, c6, h⟩ := h
    refine u_iastore (k := x1.toNat) (pc' := 45) dX11_keeps_44 rfl (by decide) kd_190 c5 c6 (by decide) rfl r4 ?_
    refine u_aload_n (i := 0) (pc' := 46) dX11_keeps_45 rfl rfl rfl ?_
    refine u_getR (a := 191) (pc' := 49) dX11_keeps_46 rfl fl_TuneDoorModel_222 rfl (by decide) kd_140 rfl ?_
    refine u_iload_n (i := 1) (pc' := 50) dX11_keeps_49 rfl rfl rfl ?_
    refine u_aload_n (i := 0) (pc' := 51) dX11_keeps_50 rfl rfl rfl ?_
    refine u_getR (a := 183) (pc' := 54) dX11_keeps_51 rfl fl_TuneDoorModel_195 rfl (by decide) kd_140 rfl ?_
    refine u_iload_n (i := 1) (pc' := 55) dX11_keeps_54 rfl rfl rfl ?_
    obtain ⟨c7, c8, h⟩ := h
    refine u_iaload (k := x1.toNat) (z := (τ 183 x1.toNat)) (pc' := 56) dX11_keeps_55 rfl (by decide) kd_183 c7 c8 (by decide) rfl rfl (fun r9 => ?_)
    obtain ⟨c10, c11, h⟩ := h
    refine u_iastore (k := x1.toNat) (pc' := 57) dX11_keeps_56 rfl (by decide) kd_191 c10 c11 (by decide) rfl r9 ?_
    refine u_aload_n (i := 0) (pc' := 58) dX11_keeps_57 rfl rfl rfl ?_
    refine u_getR (a := 192) (pc' := 61) dX11_keeps_58 rfl fl_TuneDoorModel_225 rfl (by decide) kd_140 rfl ?_
    refine u_iload_n (i := 1) (pc' := 62) dX11_keeps_61 rfl rfl rfl ?_
    refine u_aload_n (i := 0) (pc' := 63) dX11_keeps_62 rfl rfl rfl ?_
    refine u_getR (a := 184) (pc' := 66) dX11_keeps_63 rfl fl_TuneDoorModel_198 rfl (by decide) kd_140 rfl ?_
    refine u_iload_n (i := 1) (pc' := 67) dX11_keeps_66 rfl rfl rfl ?_
    obtain ⟨c12, c13, h⟩ := h
    refine u_iaload (k := x1.toNat) (z := (τ 184 x1.toNat)) (pc' := 68) dX11_keeps_67 rfl (by decide) kd_184 c12 c13 (by decide) rfl rfl (fun r14 => ?_)
    obtain ⟨c15, c16, h⟩ := h
    refine u_iastore (k := x1.toNat) (pc' := 69) dX11_keeps_68 rfl (by decide) kd_192 c15 c16 (by decide) rfl r14 ?_
    refine s_iinc (i := 1) (ls' := [some (vR 140), some (vI (x1 + 1))]) (pc' := 72) dX11_keeps_69 rfl rfl (Nat.le_of_ble_eq_true rfl) rfl rfl ?_
    refine u_goto (tgt := 27) dX11_keeps_72 (by decide) ?_
    exact u_less (ls' := [some (vR 140), some (vI (x1 + 1))]) ⟨rfl, ⟨rfl, trivial⟩⟩ h
set_option maxRecDepth 20000 in
theorem bX11_isLetIn_0 {E : mm_Env} {d : Nat} {τ : mm_Mem} {Q : mm_Q0} {a0 : Int} (h : M0 E d qX11_canCome [vR 140, vI a0] τ (fun v τ1 => ∃ b2 : Bool, v = some (vB b2) ∧ ((b2 = true → M0 E d qX11_person4 [vR 140, vI a0] τ1 (fun v τ3 => ∃ r4 : Int, v = some (vI r4) ∧ 0 ≤ r4 ∧ r4 < 8 ∧ 0 ≤ a0 ∧ a0 < 4 ∧ M0 E d qX11_whistles [vR 140, vI (τ3 160 r4.toNat), vI (τ3 179 a0.toNat)] τ3 (fun v τ11 => v = none ∧ 0 ≤ a0 ∧ a0 < 4 ∧ 0 ≤ a0 ∧ a0 < 4 ∧ inR ((τ11 179 a0.toNat) + 1) ∧ M0 E d qX11_person4 [vR 140, vI a0] (wr τ11 179 a0.toNat ((τ11 179 a0.toNat) + 1)) (fun v τ18 => ∃ r19 : Int, v = some (vI r19) ∧ 0 ≤ r19 ∧ r19 < 8 ∧ M0 E d qX11_hears [vR 140, vI (τ18 159 r19.toNat)] τ18 (fun v τ23 => ∃ r24 : Int, v = some (vI r24) ∧ inR r24 ∧ ((r24 = (-1) → Q (some (vB false)) τ23) ∧ (¬ r24 = (-1) → Q (some (vB true)) τ23))))))) ∧ (b2 = false → Q (some (vB false)) τ1)))) : V0 E (d + 1) qX11_isLetIn 0 [some (vR 140), some (vI a0)] [] τ Q := by
  refine u_aload_n (i := 0) (pc' := 1) dX11_isLetIn_0 rfl rfl rfl ?_
  refine u_iload_n (i := 1) (pc' := 2) dX11_isLetIn_1 rfl rfl rfl ?_
  refine u_invV (q' := qX11_canCome) (As := [vI a0]) (st := []) (pc' := 5) dX11_isLetIn_2 rfl gX11_canCome wm_1739 rfl rfl (by decide) kd_140 wm_1741 wp_115 rfl (Nat.le_of_ble_eq_true rfl) (M0.mono h (fun v τ1 h => ?_))
  obtain ⟨b2, rfl, h⟩ := h
  show V0 E (d + 1) qX11_isLetIn 5 [some (vR 140), some (vI a0)] [vB b2] τ1 Q
  refine u_if_ne (tgt := 10) (pc' := 8) dX11_isLetIn_5 rfl (by decide) (bI_R _) (fun hb => ?_) (fun hb => ?_)
  · have h := h.1 (bI_n0.mp hb)
    refine u_aload_n (i := 0) (pc' := 11) dX11_isLetIn_10 rfl rfl rfl ?_
    refine u_aload_n (i := 0) (pc' := 12) dX11_isLetIn_11 rfl rfl rfl ?_
    refine u_getR (a := 160) (pc' := 15) dX11_isLetIn_12 rfl fl_TuneDoorModel_106 rfl (by decide) kd_140 rfl ?_
    refine u_aload_n (i := 0) (pc' := 16) dX11_isLetIn_15 rfl rfl rfl ?_
    refine u_iload_n (i := 1) (pc' := 17) dX11_isLetIn_16 rfl rfl rfl ?_
    refine u_invV (q' := qX11_person4) (As := [vI a0]) (st := [vR 160, vR 140]) (pc' := 20) dX11_isLetIn_17 rfl gX11_person4 wm_1692 rfl rfl (by decide) kd_140 wm_1694 wp_111 rfl (Nat.le_of_ble_eq_true rfl) (M0.mono h (fun v τ3 h => ?_))
    obtain ⟨r4, rfl, h⟩ := h
    show V0 E (d + 1) qX11_isLetIn 20 [some (vR 140), some (vI a0)] [vI r4, vR 160, vR 140] τ3 Q
    obtain ⟨c5, c6, h⟩ := h
    refine u_iaload (k := r4.toNat) (z := (τ3 160 r4.toNat)) (pc' := 21) dX11_isLetIn_20 rfl (by decide) kd_160 c5 c6 (by decide) rfl rfl (fun r7 => ?_)
    refine u_aload_n (i := 0) (pc' := 22) dX11_isLetIn_21 rfl rfl rfl ?_
    refine u_getR (a := 179) (pc' := 25) dX11_isLetIn_22 rfl fl_TuneDoorModel_183 rfl (by decide) kd_140 rfl ?_
    refine u_iload_n (i := 1) (pc' := 26) dX11_isLetIn_25 rfl rfl rfl ?_
    obtain ⟨c8, c9, h⟩ := h
    refine u_iaload (k := a0.toNat) (z := (τ3 179 a0.toNat)) (pc' := 27) dX11_isLetIn_26 rfl (by decide) kd_179 c8 c9 (by decide) rfl rfl (fun r10 => ?_)
    refine u_invV (q' := qX11_whistles) (As := [vI (τ3 160 r4.toNat), vI (τ3 179 a0.toNat)]) (st := []) (pc' := 30) dX11_isLetIn_27 rfl gX11_whistles wm_1747 rfl rfl (by decide) kd_140 wm_1749 wp_117 rfl (Nat.le_of_ble_eq_true rfl) (M0.mono h (fun v τ11 h => ?_))
    obtain ⟨rfl, h⟩ := h
    show V0 E (d + 1) qX11_isLetIn 30 [some (vR 140), some (vI a0)] [] τ11 Q
    refine u_aload_n (i := 0) (pc' := 31) dX11_isLetIn_30 rfl rfl rfl ?_
    refine u_getR (a := 179) (pc' := 34) dX11_isLetIn_31 rfl fl_TuneDoorModel_183 rfl (by decide) kd_140 rfl ?_
    refine u_iload_n (i := 1) (pc' := 35) dX11_isLetIn_34 rfl rfl rfl ?_
    refine u_dup2 (pc' := 36) dX11_isLetIn_35 rfl (fun _ hh => by cases hh) (fun _ hh => by cases hh) ?_
    obtain ⟨c12, c13, h⟩ := h
    refine u_iaload (k := a0.toNat) (z := (τ11 179 a0.toNat)) (pc' := 37) dX11_isLetIn_36 rfl (by decide) kd_179 c12 c13 (by decide) rfl rfl (fun r14 => ?_)
    refine u_iconst (pc' := 38) dX11_isLetIn_37 rfl ?_
    refine u_iadd (pc' := 39) dX11_isLetIn_38 rfl ?_
    obtain ⟨c15, c16, c17, h⟩ := h
    refine u_iastore (k := a0.toNat) (pc' := 40) dX11_isLetIn_39 rfl (by decide) kd_179 c15 c16 (by decide) rfl c17 ?_
    refine u_aload_n (i := 0) (pc' := 41) dX11_isLetIn_40 rfl rfl rfl ?_
    refine u_aload_n (i := 0) (pc' := 42) dX11_isLetIn_41 rfl rfl rfl ?_
    refine u_getR (a := 159) (pc' := 45) dX11_isLetIn_42 rfl fl_TuneDoorModel_103 rfl (by decide) kd_140 rfl ?_
    refine u_aload_n (i := 0) (pc' := 46) dX11_isLetIn_45 rfl rfl rfl ?_
    refine u_iload_n (i := 1) (pc' := 47) dX11_isLetIn_46 rfl rfl rfl ?_
    refine u_invV (q' := qX11_person4) (As := [vI a0]) (st := [vR 159, vR 140]) (pc' := 50) dX11_isLetIn_47 rfl gX11_person4 wm_1692 rfl rfl (by decide) kd_140 wm_1694 wp_111 rfl (Nat.le_of_ble_eq_true rfl) (M0.mono h (fun v τ18 h => ?_))
    obtain ⟨r19, rfl, h⟩ := h
    show V0 E (d + 1) qX11_isLetIn 50 [some (vR 140), some (vI a0)] [vI r19, vR 159, vR 140] τ18 Q
    obtain ⟨c20, c21, h⟩ := h
    refine u_iaload (k := r19.toNat) (z := (τ18 159 r19.toNat)) (pc' := 51) dX11_isLetIn_50 rfl (by decide) kd_159 c20 c21 (by decide) rfl rfl (fun r22 => ?_)
    refine u_invV (q' := qX11_hears) (As := [vI (τ18 159 r19.toNat)]) (st := []) (pc' := 54) dX11_isLetIn_51 rfl gX11_hears wm_1759 rfl rfl (by decide) kd_140 wm_1761 wp_120 rfl (Nat.le_of_ble_eq_true rfl) (M0.mono h (fun v τ23 h => ?_))
    obtain ⟨r24, rfl, h⟩ := h
    show V0 E (d + 1) qX11_isLetIn 54 [some (vR 140), some (vI a0)] [vI r24] τ23 Q
    refine u_iconst (pc' := 55) dX11_isLetIn_54 rfl ?_
    obtain ⟨c25, h⟩ := h
    refine u_icmp_eq (tgt := 62) (pc' := 58) dX11_isLetIn_55 rfl (by decide) c25 ⟨by decide, by decide⟩ (fun hb => ?_) (fun hb => ?_)
    · have h := h.1 hb
      refine u_iconst (pc' := 63) dX11_isLetIn_62 rfl ?_
      exact u_zret (b := false) dX11_isLetIn_63 rfl rfl h
    · have h := h.2 hb
      refine u_iconst (pc' := 59) dX11_isLetIn_58 rfl ?_
      refine u_goto (tgt := 63) dX11_isLetIn_59 (by decide) ?_
      exact u_zret (b := true) dX11_isLetIn_63 rfl rfl h
  · have h := h.2 (bI_0.mp hb)
    refine u_iconst (pc' := 9) dX11_isLetIn_8 rfl ?_
    exact u_zret (b := false) dX11_isLetIn_9 rfl rfl h
theorem mX11_isLetIn {E : mm_Env} {d : Nat} {τ : mm_Mem} {Q : mm_Q0} {a0 : Int} (h : M0 E d qX11_canCome [vR 140, vI a0] τ (fun v τ1 => ∃ b2 : Bool, v = some (vB b2) ∧ ((b2 = true → M0 E d qX11_person4 [vR 140, vI a0] τ1 (fun v τ3 => ∃ r4 : Int, v = some (vI r4) ∧ 0 ≤ r4 ∧ r4 < 8 ∧ 0 ≤ a0 ∧ a0 < 4 ∧ M0 E d qX11_whistles [vR 140, vI (τ3 160 r4.toNat), vI (τ3 179 a0.toNat)] τ3 (fun v τ11 => v = none ∧ 0 ≤ a0 ∧ a0 < 4 ∧ 0 ≤ a0 ∧ a0 < 4 ∧ inR ((τ11 179 a0.toNat) + 1) ∧ M0 E d qX11_person4 [vR 140, vI a0] (wr τ11 179 a0.toNat ((τ11 179 a0.toNat) + 1)) (fun v τ18 => ∃ r19 : Int, v = some (vI r19) ∧ 0 ≤ r19 ∧ r19 < 8 ∧ M0 E d qX11_hears [vR 140, vI (τ18 159 r19.toNat)] τ18 (fun v τ23 => ∃ r24 : Int, v = some (vI r24) ∧ inR r24 ∧ ((r24 = (-1) → Q (some (vB false)) τ23) ∧ (¬ r24 = (-1) → Q (some (vB true)) τ23))))))) ∧ (b2 = false → Q (some (vB false)) τ1)))) : M0 E (d + 1) qX11_isLetIn [vR 140, vI a0] τ Q := M0_of rfl (Nat.le_of_ble_eq_true rfl) [some (vR 140), some (vI a0)] rfl (bX11_isLetIn_0  h)
set_option maxRecDepth 20000 in
theorem bX11_back_0 {E : mm_Env} {d : Nat} {τ : mm_Mem} {Q : mm_Q0}  (h : V0 E d qX11_back 2 [some (vR 140), some (vI 0)] [] τ Q) : V0 E d qX11_back 0 [some (vR 140), none] [] τ Q := by
  refine u_iconst (pc' := 1) dX11_back_0 rfl ?_
  refine s_istore_n (i := 1) (ls' := [some (vR 140), some (vI 0)]) (pc' := 2) dX11_back_1 rfl rfl (Nat.le_of_ble_eq_true rfl) rfl rfl ?_
  exact u_less (ls' := [some (vR 140), some (vI 0)]) ⟨rfl, ⟨rfl, trivial⟩⟩ h
theorem mX11_back {E : mm_Env} {d : Nat} {τ : mm_Mem} {Q : mm_Q0}  (h : V0 E d qX11_back 2 [some (vR 140), some (vI 0)] [] τ Q) : M0 E d qX11_back [vR 140] τ Q := M0_of rfl (Nat.le_of_ble_eq_true rfl) [some (vR 140), none] rfl (bX11_back_0  h)
set_option maxRecDepth 20000 in
theorem bX11_back_2 {E : mm_Env} {d : Nat} {τ : mm_Mem} {Q : mm_Q0} {x1 : Int} (h : inR x1 ∧ ((4 ≤ x1 → V0 E d qX11_back 27 [some (vR 140), some (vI 0)] [] τ Q) ∧ (¬ 4 ≤ x1 → 0 ≤ x1 ∧ x1 < 4 ∧ 0 ≤ x1 ∧ x1 < 4 ∧ V0 E d qX11_back 2 [some (vR 140), some (vI (x1 + 1))] [] (wr τ 179 x1.toNat (τ 189 x1.toNat)) Q))) : V0 E d qX11_back 2 [some (vR 140), some (vI x1)] [] τ Q := by
  refine u_iload_n (i := 1) (pc' := 3) dX11_back_2 rfl rfl rfl ?_
  refine u_iconst (pc' := 4) dX11_back_3 rfl ?_
  obtain ⟨c1, h⟩ := h
  refine u_icmp_ge (tgt := 25) (pc' := 7) dX11_back_4 rfl (by decide) c1 ⟨by decide, by decide⟩ (fun hb => ?_) (fun hb => ?_)
  · have h := h.1 hb
    refine u_iconst (pc' := 26) dX11_back_25 rfl ?_
    refine s_istore_n (i := 1) (ls' := [some (vR 140), some (vI 0)]) (pc' := 27) dX11_back_26 rfl rfl (Nat.le_of_ble_eq_true rfl) rfl rfl ?_
    exact u_less (ls' := [some (vR 140), some (vI 0)]) ⟨rfl, ⟨rfl, trivial⟩⟩ h
  · have h := h.2 hb
    refine u_aload_n (i := 0) (pc' := 8) dX11_back_7 rfl rfl rfl ?_
    refine u_getR (a := 179) (pc' := 11) dX11_back_8 rfl fl_TuneDoorModel_183 rfl (by decide) kd_140 rfl ?_
    refine u_iload_n (i := 1) (pc' := 12) dX11_back_11 rfl rfl rfl ?_
    refine u_aload_n (i := 0) (pc' := 13) dX11_back_12 rfl rfl rfl ?_
    refine u_getR (a := 189) (pc' := 16) dX11_back_13 rfl fl_TuneDoorModel_216 rfl (by decide) kd_140 rfl ?_
    refine u_iload_n (i := 1) (pc' := 17) dX11_back_16 rfl rfl rfl ?_
    obtain ⟨c2, c3, h⟩ := h
    refine u_iaload (k := x1.toNat) (z := (τ 189 x1.toNat)) (pc' := 18) dX11_back_17 rfl (by decide) kd_189 c2 c3 (by decide) rfl rfl (fun r4 => ?_)
    obtain ⟨c5, c6, h⟩ := h
    refine u_iastore (k := x1.toNat) (pc' := 19) dX11_back_18 rfl (by decide) kd_179 c5 c6 (by decide) rfl r4 ?_
    refine s_iinc (i := 1) (ls' := [some (vR 140), some (vI (x1 + 1))]) (pc' := 22) dX11_back_19 rfl rfl (Nat.le_of_ble_eq_true rfl) rfl rfl ?_
    refine u_goto (tgt := 2) dX11_back_22 (by decide) ?_
    exact u_less (ls' := [some (vR 140), some (vI (x1 + 1))]) ⟨rfl, ⟨rfl, trivial⟩⟩ h
set_option maxRecDepth 20000 in
theorem bX11_back_27 {E : mm_Env} {d : Nat} {τ : mm_Mem} {Q : mm_Q0} {x1 : Int} (h : inR x1 ∧ ((12 ≤ x1 → Q none τ) ∧ (¬ 12 ≤ x1 → 0 ≤ x1 ∧ x1 < 12 ∧ 0 ≤ x1 ∧ x1 < 12 ∧ 0 ≤ x1 ∧ x1 < 12 ∧ 0 ≤ x1 ∧ x1 < 12 ∧ 0 ≤ x1 ∧ x1 < 12 ∧ 0 ≤ x1 ∧ x1 < 12 ∧ V0 E d qX11_back 27 [some (vR 140), some (vI (x1 + 1))] [] (wr (wr (wr τ 182 x1.toNat (τ 190 x1.toNat)) 183 x1.toNat (τ 191 x1.toNat)) 184 x1.toNat (τ 192 x1.toNat)) Q))) : V0 E d qX11_back 27 [some (vR 140), some (vI x1)] [] τ Q := by
  refine u_iload_n (i := 1) (pc' := 28) dX11_back_27 rfl rfl rfl ?_
  refine u_bipush (pc' := 30) dX11_back_28 rfl (by decide) ?_
  obtain ⟨c1, h⟩ := h
  refine u_icmp_ge (tgt := 75) (pc' := 33) dX11_back_30 rfl (by decide) c1 ⟨by decide, by decide⟩ (fun hb => ?_) (fun hb => ?_)
  · have h := h.1 hb
    exact u_ret dX11_back_75 rfl h
  · have h := h.2 hb
    refine u_aload_n (i := 0) (pc' := 34) dX11_back_33 rfl rfl rfl ?_
    refine u_getR (a := 182) (pc' := 37) dX11_back_34 rfl fl_TuneDoorModel_192 rfl (by decide) kd_140 rfl ?_
    refine u_iload_n (i := 1) (pc' := 38) dX11_back_37 rfl rfl rfl ?_
    refine u_aload_n (i := 0) (pc' := 39) dX11_back_38 rfl rfl rfl ?_
    refine u_getR (a := 190) (pc' := 42) dX11_back_39 rfl fl_TuneDoorModel_219 rfl (by decide) kd_140 rfl ?_
    refine u_iload_n (i := 1) (pc' := 43) dX11_back_42 rfl rfl rfl ?_
    obtain ⟨c2, c3, h⟩ := h
    refine u_iaload (k := x1.toNat) (z := (τ 190 x1.toNat)) (pc' := 44) dX11_back_43 rfl (by decide) kd_190 c2 c3 (by decide) rfl rfl (fun r4 => ?_)
    obtain ⟨c5, c6, h⟩ := h
    refine u_iastore (k := x1.toNat) (pc' := 45) dX11_back_44 rfl (by decide) kd_182 c5 c6 (by decide) rfl r4 ?_
    refine u_aload_n (i := 0) (pc' := 46) dX11_back_45 rfl rfl rfl ?_
    refine u_getR (a := 183) (pc' := 49) dX11_back_46 rfl fl_TuneDoorModel_195 rfl (by decide) kd_140 rfl ?_
    refine u_iload_n (i := 1) (pc' := 50) dX11_back_49 rfl rfl rfl ?_
    refine u_aload_n (i := 0) (pc' := 51) dX11_back_50 rfl rfl rfl ?_
    refine u_getR (a := 191) (pc' := 54) dX11_back_51 rfl fl_TuneDoorModel_222 rfl (by decide) kd_140 rfl ?_
    refine u_iload_n (i := 1) (pc' := 55) dX11_back_54 rfl rfl rfl ?_
    obtain ⟨c7, c8, h⟩ := h
    refine u_iaload (k := x1.toNat) (z := (τ 191 x1.toNat)) (pc' := 56) dX11_back_55 rfl (by decide) kd_191 c7 c8 (by decide) rfl rfl (fun r9 => ?_)
    obtain ⟨c10, c11, h⟩ := h
    refine u_iastore (k := x1.toNat) (pc' := 57) dX11_back_56 rfl (by decide) kd_183 c10 c11 (by decide) rfl r9 ?_
    refine u_aload_n (i := 0) (pc' := 58) dX11_back_57 rfl rfl rfl ?_
    refine u_getR (a := 184) (pc' := 61) dX11_back_58 rfl fl_TuneDoorModel_198 rfl (by decide) kd_140 rfl ?_
    refine u_iload_n (i := 1) (pc' := 62) dX11_back_61 rfl rfl rfl ?_
    refine u_aload_n (i := 0) (pc' := 63) dX11_back_62 rfl rfl rfl ?_
    refine u_getR (a := 192) (pc' := 66) dX11_back_63 rfl fl_TuneDoorModel_225 rfl (by decide) kd_140 rfl ?_
    refine u_iload_n (i := 1) (pc' := 67) dX11_back_66 rfl rfl rfl ?_
    obtain ⟨c12, c13, h⟩ := h
    refine u_iaload (k := x1.toNat) (z := (τ 192 x1.toNat)) (pc' := 68) dX11_back_67 rfl (by decide) kd_192 c12 c13 (by decide) rfl rfl (fun r14 => ?_)
    obtain ⟨c15, c16, h⟩ := h
    refine u_iastore (k := x1.toNat) (pc' := 69) dX11_back_68 rfl (by decide) kd_184 c15 c16 (by decide) rfl r14 ?_
    refine s_iinc (i := 1) (ls' := [some (vR 140), some (vI (x1 + 1))]) (pc' := 72) dX11_back_69 rfl rfl (Nat.le_of_ble_eq_true rfl) rfl rfl ?_
    refine u_goto (tgt := 27) dX11_back_72 (by decide) ?_
    exact u_less (ls' := [some (vR 140), some (vI (x1 + 1))]) ⟨rfl, ⟨rfl, trivial⟩⟩ h
set_option maxRecDepth 20000 in
theorem bX11_would_0 {E : mm_Env} {d : Nat} {τ : mm_Mem} {Q : mm_Q0} {a0 : Int} (h : M0 E d qX11_isDoor [vR 140, vI a0] τ (fun v τ1 => ∃ b2 : Bool, v = some (vB b2) ∧ ((b2 = true → M0 E d qX11_keeps [vR 140] τ1 (fun v τ3 => v = none ∧ V0 E (d + 1) qX11_would 18 [some (vR 140), some (vI a0), some (vI 0), some (vI 0)] [] τ3 Q)) ∧ (b2 = false → Q (some (vI (-1))) τ1)))) : V0 E (d + 1) qX11_would 0 [some (vR 140), some (vI a0), none, none] [] τ Q := by
  refine u_aload_n (i := 0) (pc' := 1) dX11_would_0 rfl rfl rfl ?_
  refine u_iload_n (i := 1) (pc' := 2) dX11_would_1 rfl rfl rfl ?_
  refine u_invV (q' := qX11_isDoor) (As := [vI a0]) (st := []) (pc' := 5) dX11_would_2 rfl gX11_isDoor wm_1684 rfl rfl (by decide) kd_140 wm_1686 wp_109 rfl (Nat.le_of_ble_eq_true rfl) (M0.mono h (fun v τ1 h => ?_))
  obtain ⟨b2, rfl, h⟩ := h
  show V0 E (d + 1) qX11_would 5 [some (vR 140), some (vI a0), none, none] [vB b2] τ1 Q
  refine u_if_ne (tgt := 10) (pc' := 8) dX11_would_5 rfl (by decide) (bI_R _) (fun hb => ?_) (fun hb => ?_)
  · have h := h.1 (bI_n0.mp hb)
    refine u_iconst (pc' := 11) dX11_would_10 rfl ?_
    refine s_istore_n (i := 2) (ls' := [some (vR 140), some (vI a0), some (vI 0), none]) (pc' := 12) dX11_would_11 rfl rfl (Nat.le_of_ble_eq_true rfl) rfl rfl ?_
    refine u_aload_n (i := 0) (pc' := 13) dX11_would_12 rfl rfl rfl ?_
    refine u_invV (q' := qX11_keeps) (As := []) (st := []) (pc' := 16) dX11_would_13 rfl gX11_keeps wm_1803 rfl rfl (by decide) kd_140 wm_1805 wp_126 rfl (Nat.le_of_ble_eq_true rfl) (M0.mono h (fun v τ3 h => ?_))
    obtain ⟨rfl, h⟩ := h
    show V0 E (d + 1) qX11_would 16 [some (vR 140), some (vI a0), some (vI 0), none] [] τ3 Q
    refine u_iconst (pc' := 17) dX11_would_16 rfl ?_
    refine s_istore_n (i := 3) (ls' := [some (vR 140), some (vI a0), some (vI 0), some (vI 0)]) (pc' := 18) dX11_would_17 rfl rfl (Nat.le_of_ble_eq_true rfl) rfl rfl ?_
    exact u_less (ls' := [some (vR 140), some (vI a0), some (vI 0), some (vI 0)]) ⟨rfl, ⟨rfl, ⟨rfl, ⟨rfl, trivial⟩⟩⟩⟩ h
  · have h := h.2 (bI_0.mp hb)
    refine u_iconst (pc' := 9) dX11_would_8 rfl ?_
    exact u_iret dX11_would_9 rfl h
theorem mX11_would {E : mm_Env} {d : Nat} {τ : mm_Mem} {Q : mm_Q0} {a0 : Int} (h : M0 E d qX11_isDoor [vR 140, vI a0] τ (fun v τ1 => ∃ b2 : Bool, v = some (vB b2) ∧ ((b2 = true → M0 E d qX11_keeps [vR 140] τ1 (fun v τ3 => v = none ∧ V0 E (d + 1) qX11_would 18 [some (vR 140), some (vI a0), some (vI 0), some (vI 0)] [] τ3 Q)) ∧ (b2 = false → Q (some (vI (-1))) τ1)))) : M0 E (d + 1) qX11_would [vR 140, vI a0] τ Q := M0_of rfl (Nat.le_of_ble_eq_true rfl) [some (vR 140), some (vI a0), none, none] rfl (bX11_would_0  h)
set_option maxRecDepth 20000 in
theorem bX11_would_18 {E : mm_Env} {d : Nat} {τ : mm_Mem} {Q : mm_Q0} {x1 : Int} {x2 : Int} {x3 : Int} (h : 0 ≤ (τ 140 12) ∧ (τ 140 12) < 2 ∧ inR x3 ∧ (((τ 157 (τ 140 12).toNat) ≤ x3 → Q (some (vI x2)) τ) ∧ (¬ (τ 157 (τ 140 12).toNat) ≤ x3 → M0 E d qX11_person4 [vR 140, vI x3] τ (fun v τ6 => ∃ r7 : Int, v = some (vI r7) ∧ 0 ≤ r7 ∧ r7 < 8 ∧ inR x1 ∧ (((τ6 159 r7.toNat) = x1 → M0 E d qX11_isLetIn [vR 140, vI x3] τ6 (fun v τ12 => ∃ b13 : Bool, v = some (vB b13) ∧ ((b13 = false → M0 E d qX11_back [vR 140] τ12 (fun v τ14 => v = none ∧ V0 E (d + 1) qX11_would 18 [some (vR 140), some (vI x1), some (vI (mm_or x2 0)), some (vI (x3 + 1))] [] τ14 Q)) ∧ (b13 = true → M0 E d qX11_back [vR 140] τ12 (fun v τ15 => v = none ∧ V0 E (d + 1) qX11_would 18 [some (vR 140), some (vI x1), some (vI (mm_or x2 (mm_shl 1 x3))), some (vI (x3 + 1))] [] τ15 Q))))) ∧ (¬ (τ6 159 r7.toNat) = x1 → V0 E (d + 1) qX11_would 18 [some (vR 140), some (vI x1), some (vI x2), some (vI (x3 + 1))] [] τ6 Q)))))) : V0 E (d + 1) qX11_would 18 [some (vR 140), some (vI x1), some (vI x2), some (vI x3)] [] τ Q := by
  refine u_iload_n (i := 3) (pc' := 19) dX11_would_18 rfl rfl rfl ?_
  refine u_aload_n (i := 0) (pc' := 20) dX11_would_19 rfl rfl rfl ?_
  refine u_getR (a := 157) (pc' := 23) dX11_would_20 rfl fl_TuneDoorModel_97 rfl (by decide) kd_140 rfl ?_
  refine u_aload_n (i := 0) (pc' := 24) dX11_would_23 rfl rfl rfl ?_
  refine u_getI (z := (τ 140 12)) (pc' := 27) dX11_would_24 rfl fl_TuneDoorModel_48 rfl (by decide) (by decide) kd_140 rfl (fun r1 => ?_)
  obtain ⟨c2, c3, h⟩ := h
  refine u_iaload (k := (τ 140 12).toNat) (z := (τ 157 (τ 140 12).toNat)) (pc' := 28) dX11_would_27 rfl (by decide) kd_157 c2 c3 (by decide) rfl rfl (fun r4 => ?_)
  obtain ⟨c5, h⟩ := h
  refine u_icmp_ge (tgt := 76) (pc' := 31) dX11_would_28 rfl (by decide) c5 r4 (fun hb => ?_) (fun hb => ?_)
  · have h := h.1 hb
    refine u_iload_n (i := 2) (pc' := 77) dX11_would_76 rfl rfl rfl ?_
    exact u_iret dX11_would_77 rfl h
  · have h := h.2 hb
    refine u_aload_n (i := 0) (pc' := 32) dX11_would_31 rfl rfl rfl ?_
    refine u_getR (a := 159) (pc' := 35) dX11_would_32 rfl fl_TuneDoorModel_103 rfl (by decide) kd_140 rfl ?_
    refine u_aload_n (i := 0) (pc' := 36) dX11_would_35 rfl rfl rfl ?_
    refine u_iload_n (i := 3) (pc' := 37) dX11_would_36 rfl rfl rfl ?_
    refine u_invV (q' := qX11_person4) (As := [vI x3]) (st := [vR 159]) (pc' := 40) dX11_would_37 rfl gX11_person4 wm_1692 rfl rfl (by decide) kd_140 wm_1694 wp_111 rfl (Nat.le_of_ble_eq_true rfl) (M0.mono h (fun v τ6 h => ?_))
    obtain ⟨r7, rfl, h⟩ := h
    show V0 E (d + 1) qX11_would 40 [some (vR 140), some (vI x1), some (vI x2), some (vI x3)] [vI r7, vR 159] τ6 Q
    obtain ⟨c8, c9, h⟩ := h
    refine u_iaload (k := r7.toNat) (z := (τ6 159 r7.toNat)) (pc' := 41) dX11_would_40 rfl (by decide) kd_159 c8 c9 (by decide) rfl rfl (fun r10 => ?_)
    refine u_iload_n (i := 1) (pc' := 42) dX11_would_41 rfl rfl rfl ?_
    obtain ⟨c11, h⟩ := h
    refine u_icmp_eq (tgt := 48) (pc' := 45) dX11_would_42 rfl (by decide) r10 c11 (fun hb => ?_) (fun hb => ?_)
    · have h := h.1 hb
      refine u_iload_n (i := 2) (pc' := 49) dX11_would_48 rfl rfl rfl ?_
      refine u_aload_n (i := 0) (pc' := 50) dX11_would_49 rfl rfl rfl ?_
      refine u_iload_n (i := 3) (pc' := 51) dX11_would_50 rfl rfl rfl ?_
      refine u_invV (q' := qX11_isLetIn) (As := [vI x3]) (st := [vI x2]) (pc' := 54) dX11_would_51 rfl gX11_isLetIn wm_1807 rfl rfl (by decide) kd_140 wm_1809 wp_127 rfl (Nat.le_of_ble_eq_true rfl) (M0.mono h (fun v τ12 h => ?_))
      obtain ⟨b13, rfl, h⟩ := h
      show V0 E (d + 1) qX11_would 54 [some (vR 140), some (vI x1), some (vI x2), some (vI x3)] [vB b13, vI x2] τ12 Q
      refine u_if_eq (tgt := 63) (pc' := 57) dX11_would_54 rfl (by decide) (bI_R _) (fun hb => ?_) (fun hb => ?_)
      · have h := h.1 (bI_0.mp hb)
        refine u_iconst (pc' := 64) dX11_would_63 rfl ?_
        refine u_ior (pc' := 65) dX11_would_64 rfl ?_
        refine s_istore_n (i := 2) (ls' := [some (vR 140), some (vI x1), some (vI (mm_or x2 0)), some (vI x3)]) (pc' := 66) dX11_would_65 rfl rfl (Nat.le_of_ble_eq_true rfl) rfl rfl ?_
        refine u_aload_n (i := 0) (pc' := 67) dX11_would_66 rfl rfl rfl ?_
        refine u_invV (q' := qX11_back) (As := []) (st := []) (pc' := 70) dX11_would_67 rfl gX11_back wm_1811 rfl rfl (by decide) kd_140 wm_1813 wp_128 rfl (Nat.le_of_ble_eq_true rfl) (M0.mono h (fun v τ14 h => ?_))
        obtain ⟨rfl, h⟩ := h
        show V0 E (d + 1) qX11_would 70 [some (vR 140), some (vI x1), some (vI (mm_or x2 0)), some (vI x3)] [] τ14 Q
        refine s_iinc (i := 3) (ls' := [some (vR 140), some (vI x1), some (vI (mm_or x2 0)), some (vI (x3 + 1))]) (pc' := 73) dX11_would_70 rfl rfl (Nat.le_of_ble_eq_true rfl) rfl rfl ?_
        refine u_goto (tgt := 18) dX11_would_73 (by decide) ?_
        exact u_less (ls' := [some (vR 140), some (vI x1), some (vI (mm_or x2 0)), some (vI (x3 + 1))]) ⟨rfl, ⟨rfl, ⟨rfl, ⟨rfl, trivial⟩⟩⟩⟩ h
      · have h := h.2 (bI_n0.mp hb)
        refine u_iconst (pc' := 58) dX11_would_57 rfl ?_
        refine u_iload_n (i := 3) (pc' := 59) dX11_would_58 rfl rfl rfl ?_
        refine u_ishl (pc' := 60) dX11_would_59 rfl ?_
        refine u_goto (tgt := 64) dX11_would_60 (by decide) ?_
        refine u_ior (pc' := 65) dX11_would_64 rfl ?_
        refine s_istore_n (i := 2) (ls' := [some (vR 140), some (vI x1), some (vI (mm_or x2 (mm_shl 1 x3))), some (vI x3)]) (pc' := 66) dX11_would_65 rfl rfl (Nat.le_of_ble_eq_true rfl) rfl rfl ?_
        refine u_aload_n (i := 0) (pc' := 67) dX11_would_66 rfl rfl rfl ?_
        refine u_invV (q' := qX11_back) (As := []) (st := []) (pc' := 70) dX11_would_67 rfl gX11_back wm_1811 rfl rfl (by decide) kd_140 wm_1813 wp_128 rfl (Nat.le_of_ble_eq_true rfl) (M0.mono h (fun v τ15 h => ?_))
        obtain ⟨rfl, h⟩ := h
        show V0 E (d + 1) qX11_would 70 [some (vR 140), some (vI x1), some (vI (mm_or x2 (mm_shl 1 x3))), some (vI x3)] [] τ15 Q
        refine s_iinc (i := 3) (ls' := [some (vR 140), some (vI x1), some (vI (mm_or x2 (mm_shl 1 x3))), some (vI (x3 + 1))]) (pc' := 73) dX11_would_70 rfl rfl (Nat.le_of_ble_eq_true rfl) rfl rfl ?_
        refine u_goto (tgt := 18) dX11_would_73 (by decide) ?_
        exact u_less (ls' := [some (vR 140), some (vI x1), some (vI (mm_or x2 (mm_shl 1 x3))), some (vI (x3 + 1))]) ⟨rfl, ⟨rfl, ⟨rfl, ⟨rfl, trivial⟩⟩⟩⟩ h
    · have h := h.2 hb
      refine u_goto (tgt := 70) dX11_would_45 (by decide) ?_
      refine s_iinc (i := 3) (ls' := [some (vR 140), some (vI x1), some (vI x2), some (vI (x3 + 1))]) (pc' := 73) dX11_would_70 rfl rfl (Nat.le_of_ble_eq_true rfl) rfl rfl ?_
      refine u_goto (tgt := 18) dX11_would_73 (by decide) ?_
      exact u_less (ls' := [some (vR 140), some (vI x1), some (vI x2), some (vI (x3 + 1))]) ⟨rfl, ⟨rfl, ⟨rfl, ⟨rfl, trivial⟩⟩⟩⟩ h
set_option maxRecDepth 20000 in
theorem bX11_bears_0 {E : mm_Env} {d : Nat} {τ : mm_Mem} {Q : mm_Q0} {a0 : Int} (h : M0 E d qX11_isPerson [vR 140, vI a0] τ (fun v τ1 => ∃ b2 : Bool, v = some (vB b2) ∧ ((b2 = true → M0 E d qX11_keeps [vR 140] τ1 (fun v τ3 => v = none ∧ V0 E (d + 1) qX11_bears 18 [some (vR 140), some (vI a0), some (vI (-1)), some (vI 0), none] [] τ3 Q)) ∧ (b2 = false → Q (some (vI (-1))) τ1)))) : V0 E (d + 1) qX11_bears 0 [some (vR 140), some (vI a0), none, none, none] [] τ Q := by
  refine u_aload_n (i := 0) (pc' := 1) dX11_bears_0 rfl rfl rfl ?_
  refine u_iload_n (i := 1) (pc' := 2) dX11_bears_1 rfl rfl rfl ?_
  refine u_invV (q' := qX11_isPerson) (As := [vI a0]) (st := []) (pc' := 5) dX11_bears_2 rfl gX11_isPerson wm_1704 rfl rfl (by decide) kd_140 wm_1706 wp_113 rfl (Nat.le_of_ble_eq_true rfl) (M0.mono h (fun v τ1 h => ?_))
  obtain ⟨b2, rfl, h⟩ := h
  show V0 E (d + 1) qX11_bears 5 [some (vR 140), some (vI a0), none, none, none] [vB b2] τ1 Q
  refine u_if_ne (tgt := 10) (pc' := 8) dX11_bears_5 rfl (by decide) (bI_R _) (fun hb => ?_) (fun hb => ?_)
  · have h := h.1 (bI_n0.mp hb)
    refine u_aload_n (i := 0) (pc' := 11) dX11_bears_10 rfl rfl rfl ?_
    refine u_invV (q' := qX11_keeps) (As := []) (st := []) (pc' := 14) dX11_bears_11 rfl gX11_keeps wm_1803 rfl rfl (by decide) kd_140 wm_1805 wp_126 rfl (Nat.le_of_ble_eq_true rfl) (M0.mono h (fun v τ3 h => ?_))
    obtain ⟨rfl, h⟩ := h
    show V0 E (d + 1) qX11_bears 14 [some (vR 140), some (vI a0), none, none, none] [] τ3 Q
    refine u_iconst (pc' := 15) dX11_bears_14 rfl ?_
    refine s_istore_n (i := 2) (ls' := [some (vR 140), some (vI a0), some (vI (-1)), none, none]) (pc' := 16) dX11_bears_15 rfl rfl (Nat.le_of_ble_eq_true rfl) rfl rfl ?_
    refine u_iconst (pc' := 17) dX11_bears_16 rfl ?_
    refine s_istore_n (i := 3) (ls' := [some (vR 140), some (vI a0), some (vI (-1)), some (vI 0), none]) (pc' := 18) dX11_bears_17 rfl rfl (Nat.le_of_ble_eq_true rfl) rfl rfl ?_
    exact u_less (ls' := [some (vR 140), some (vI a0), some (vI (-1)), some (vI 0), none]) ⟨rfl, ⟨rfl, ⟨rfl, ⟨rfl, trivial⟩⟩⟩⟩ h
  · have h := h.2 (bI_0.mp hb)
    refine u_iconst (pc' := 9) dX11_bears_8 rfl ?_
    exact u_iret dX11_bears_9 rfl h
theorem mX11_bears {E : mm_Env} {d : Nat} {τ : mm_Mem} {Q : mm_Q0} {a0 : Int} (h : M0 E d qX11_isPerson [vR 140, vI a0] τ (fun v τ1 => ∃ b2 : Bool, v = some (vB b2) ∧ ((b2 = true → M0 E d qX11_keeps [vR 140] τ1 (fun v τ3 => v = none ∧ V0 E (d + 1) qX11_bears 18 [some (vR 140), some (vI a0), some (vI (-1)), some (vI 0), none] [] τ3 Q)) ∧ (b2 = false → Q (some (vI (-1))) τ1)))) : M0 E (d + 1) qX11_bears [vR 140, vI a0] τ Q := M0_of rfl (Nat.le_of_ble_eq_true rfl) [some (vR 140), some (vI a0), none, none, none] rfl (bX11_bears_0  h)
set_option maxRecDepth 20000 in
theorem bX11_bears_18 {E : mm_Env} {d : Nat} {τ : mm_Mem} {Q : mm_Q0} {x1 : Int} {x2 : Int} {x3 : Int} (h : inR x3 ∧ ((60 < x3 → Q (some (vI x2)) τ) ∧ (¬ 60 < x3 → 0 ≤ x1 ∧ x1 < 4 ∧ 0 ≤ x1 ∧ x1 < 4 ∧ inR ((τ 179 x1.toNat) + x3) ∧ M0 E d qX11_isLetIn [vR 140, vI x1] (wr τ 179 x1.toNat ((τ 179 x1.toNat) + x3)) (fun v τ8 => ∃ b9 : Bool, v = some (vB b9) ∧ M0 E d qX11_back [vR 140] τ8 (fun v τ10 => v = none ∧ ((b9 = true → V0 E (d + 1) qX11_bears 18 [some (vR 140), some (vI x1), some (vI x3), some (vI (x3 + 1)), none] [] τ10 Q) ∧ (b9 = false → Q (some (vI x2)) τ10))))))) : V0 E (d + 1) qX11_bears 18 [some (vR 140), some (vI x1), some (vI x2), some (vI x3), none] [] τ Q := by
  refine u_iload_n (i := 3) (pc' := 19) dX11_bears_18 rfl rfl rfl ?_
  refine u_bipush (pc' := 21) dX11_bears_19 rfl (by decide) ?_
  obtain ⟨c1, h⟩ := h
  refine u_icmp_gt (tgt := 60) (pc' := 24) dX11_bears_21 rfl (by decide) c1 ⟨by decide, by decide⟩ (fun hb => ?_) (fun hb => ?_)
  · have h := h.1 hb
    refine u_iload_n (i := 2) (pc' := 61) dX11_bears_60 rfl rfl rfl ?_
    exact u_iret dX11_bears_61 rfl h
  · have h := h.2 hb
    refine u_aload_n (i := 0) (pc' := 25) dX11_bears_24 rfl rfl rfl ?_
    refine u_getR (a := 179) (pc' := 28) dX11_bears_25 rfl fl_TuneDoorModel_183 rfl (by decide) kd_140 rfl ?_
    refine u_iload_n (i := 1) (pc' := 29) dX11_bears_28 rfl rfl rfl ?_
    refine u_dup2 (pc' := 30) dX11_bears_29 rfl (fun _ hh => by cases hh) (fun _ hh => by cases hh) ?_
    obtain ⟨c2, c3, h⟩ := h
    refine u_iaload (k := x1.toNat) (z := (τ 179 x1.toNat)) (pc' := 31) dX11_bears_30 rfl (by decide) kd_179 c2 c3 (by decide) rfl rfl (fun r4 => ?_)
    refine u_iload_n (i := 3) (pc' := 32) dX11_bears_31 rfl rfl rfl ?_
    refine u_iadd (pc' := 33) dX11_bears_32 rfl ?_
    obtain ⟨c5, c6, c7, h⟩ := h
    refine u_iastore (k := x1.toNat) (pc' := 34) dX11_bears_33 rfl (by decide) kd_179 c5 c6 (by decide) rfl c7 ?_
    refine u_aload_n (i := 0) (pc' := 35) dX11_bears_34 rfl rfl rfl ?_
    refine u_iload_n (i := 1) (pc' := 36) dX11_bears_35 rfl rfl rfl ?_
    refine u_invV (q' := qX11_isLetIn) (As := [vI x1]) (st := []) (pc' := 39) dX11_bears_36 rfl gX11_isLetIn wm_1807 rfl rfl (by decide) kd_140 wm_1809 wp_127 rfl (Nat.le_of_ble_eq_true rfl) (M0.mono h (fun v τ8 h => ?_))
    obtain ⟨b9, rfl, h⟩ := h
    show V0 E (d + 1) qX11_bears 39 [some (vR 140), some (vI x1), some (vI x2), some (vI x3), none] [vB b9] τ8 Q
    refine s_istore (i := 4) (ls' := [some (vR 140), some (vI x1), some (vI x2), some (vI x3), some (vB b9)]) (pc' := 41) dX11_bears_39 rfl (Nat.le_of_ble_eq_true rfl) rfl rfl ?_
    refine u_aload_n (i := 0) (pc' := 42) dX11_bears_41 rfl rfl rfl ?_
    refine u_invV (q' := qX11_back) (As := []) (st := []) (pc' := 45) dX11_bears_42 rfl gX11_back wm_1811 rfl rfl (by decide) kd_140 wm_1813 wp_128 rfl (Nat.le_of_ble_eq_true rfl) (M0.mono h (fun v τ10 h => ?_))
    obtain ⟨rfl, h⟩ := h
    show V0 E (d + 1) qX11_bears 45 [some (vR 140), some (vI x1), some (vI x2), some (vI x3), some (vB b9)] [] τ10 Q
    refine u_iload (i := 4) (pc' := 47) dX11_bears_45 rfl rfl ?_
    refine u_if_ne (tgt := 52) (pc' := 50) dX11_bears_47 rfl (by decide) (bI_R _) (fun hb => ?_) (fun hb => ?_)
    · have h := h.1 (bI_n0.mp hb)
      refine u_iload_n (i := 3) (pc' := 53) dX11_bears_52 rfl rfl rfl ?_
      refine s_istore_n (i := 2) (ls' := [some (vR 140), some (vI x1), some (vI x3), some (vI x3), some (vB b9)]) (pc' := 54) dX11_bears_53 rfl rfl (Nat.le_of_ble_eq_true rfl) rfl rfl ?_
      refine s_iinc (i := 3) (ls' := [some (vR 140), some (vI x1), some (vI x3), some (vI (x3 + 1)), some (vB b9)]) (pc' := 57) dX11_bears_54 rfl rfl (Nat.le_of_ble_eq_true rfl) rfl rfl ?_
      refine u_goto (tgt := 18) dX11_bears_57 (by decide) ?_
      exact u_less (ls' := [some (vR 140), some (vI x1), some (vI x3), some (vI (x3 + 1)), none]) ⟨rfl, ⟨rfl, ⟨rfl, ⟨rfl, trivial⟩⟩⟩⟩ h
    · have h := h.2 (bI_0.mp hb)
      refine u_iload_n (i := 2) (pc' := 51) dX11_bears_50 rfl rfl rfl ?_
      exact u_iret dX11_bears_51 rfl h
