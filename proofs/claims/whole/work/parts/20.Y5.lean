set_option maxRecDepth 20000 in
theorem bX11_isSure_0 {E : mm_Env} {d : Nat} {τ : mm_Mem} {Q : mm_Q0} {a0 : Int} {a1 : Int} (h : V0 E (d + 1) qX11_isSure 5 [some (vR 140), some (vI a0), some (vI a1), some (vI (-1)), some (vI 0), none] [] τ Q) : V0 E (d + 1) qX11_isSure 0 [some (vR 140), some (vI a0), some (vI a1), none, none, none] [] τ Q := by
  refine u_iconst (pc' := 1) dX11_isSure_0 rfl ?_
  refine s_istore_n (i := 3) (ls' := [some (vR 140), some (vI a0), some (vI a1), some (vI (-1)), none, none]) (pc' := 2) dX11_isSure_1 rfl rfl (Nat.le_of_ble_eq_true rfl) rfl rfl ?_
  refine u_iconst (pc' := 3) dX11_isSure_2 rfl ?_
  refine s_istore (i := 4) (ls' := [some (vR 140), some (vI a0), some (vI a1), some (vI (-1)), some (vI 0), none]) (pc' := 5) dX11_isSure_3 rfl (Nat.le_of_ble_eq_true rfl) rfl rfl ?_
  exact u_less (ls' := [some (vR 140), some (vI a0), some (vI a1), some (vI (-1)), some (vI 0), none]) ⟨rfl, ⟨rfl, ⟨rfl, ⟨rfl, ⟨rfl, trivial⟩⟩⟩⟩⟩ h
theorem mX11_isSure {E : mm_Env} {d : Nat} {τ : mm_Mem} {Q : mm_Q0} {a0 : Int} {a1 : Int} (h : V0 E (d + 1) qX11_isSure 5 [some (vR 140), some (vI a0), some (vI a1), some (vI (-1)), some (vI 0), none] [] τ Q) : M0 E (d + 1) qX11_isSure [vR 140, vI a0, vI a1] τ Q := M0_of rfl (Nat.le_of_ble_eq_true rfl) [some (vR 140), some (vI a0), some (vI a1), none, none, none] rfl (bX11_isSure_0  h)
set_option maxRecDepth 20000 in
theorem bX11_isSure_5 {E : mm_Env} {d : Nat} {τ : mm_Mem} {Q : mm_Q0} {x1 : Int} {x2 : Int} {x3 : Int} {x4 : Int} (h : M0 E d qX11_formsAll [vR 140] τ (fun v τ1 => ∃ r2 : Int, v = some (vI r2) ∧ inR x4 ∧ inR r2 ∧ ((r2 ≤ x4 → inR x3 ∧ ((x3 = (-1) → Q (some (vB false)) τ1) ∧ (¬ x3 = (-1) → Q (some (vB true)) τ1))) ∧ (¬ r2 ≤ x4 → M0 E d qX11_fitsForm [vR 140, vI x1, vI x2, vI x4] τ1 (fun v τ6 => ∃ b7 : Bool, v = some (vB b7) ∧ ((b7 = true → M0 E d qX11_formA [vR 140, vI x4] τ6 (fun v τ8 => ∃ r9 : Int, v = some (vI r9) ∧ M0 E d qX11_formB [vR 140, vI x4] τ8 (fun v τ10 => ∃ r11 : Int, v = some (vI r11) ∧ M0 E d qX11_formC [vR 140, vI x4] τ10 (fun v τ12 => ∃ r13 : Int, v = some (vI r13) ∧ M0 E d qX11_formed [vR 140, vI ((x1 + x2) - 1), vI r9, vI r11, vI r13] τ12 (fun v τ14 => ∃ r15 : Int, v = some (vI r15) ∧ inR x3 ∧ ((x3 = (-1) → V0 E (d + 1) qX11_isSure 5 [some (vR 140), some (vI x1), some (vI x2), some (vI r15), some (vI (x4 + 1)), none] [] τ14 Q) ∧ (¬ x3 = (-1) → inR r15 ∧ ((r15 = x3 → V0 E (d + 1) qX11_isSure 5 [some (vR 140), some (vI x1), some (vI x2), some (vI r15), some (vI (x4 + 1)), none] [] τ14 Q) ∧ (¬ r15 = x3 → Q (some (vB false)) τ14))))))))) ∧ (b7 = false → V0 E (d + 1) qX11_isSure 5 [some (vR 140), some (vI x1), some (vI x2), some (vI x3), some (vI (x4 + 1)), none] [] τ6 Q))))))) : V0 E (d + 1) qX11_isSure 5 [some (vR 140), some (vI x1), some (vI x2), some (vI x3), some (vI x4), none] [] τ Q := by
  refine u_iload (i := 4) (pc' := 7) dX11_isSure_5 rfl rfl ?_
  refine u_aload_n (i := 0) (pc' := 8) dX11_isSure_7 rfl rfl rfl ?_
  refine u_invV (q' := qX11_formsAll) (As := []) (st := [vI x4]) (pc' := 11) dX11_isSure_8 rfl gX11_formsAll wm_1882 rfl rfl (by decide) kd_140 wm_1884 wp_137 rfl (Nat.le_of_ble_eq_true rfl) (M0.mono h (fun v τ1 h => ?_))
  obtain ⟨r2, rfl, h⟩ := h
  show V0 E (d + 1) qX11_isSure 11 [some (vR 140), some (vI x1), some (vI x2), some (vI x3), some (vI x4), none] [vI r2, vI x4] τ1 Q
  obtain ⟨c3, c4, h⟩ := h
  refine u_icmp_ge (tgt := 79) (pc' := 14) dX11_isSure_11 rfl (by decide) c3 c4 (fun hb => ?_) (fun hb => ?_)
  · have h := h.1 hb
    refine u_iload_n (i := 3) (pc' := 80) dX11_isSure_79 rfl rfl rfl ?_
    refine u_iconst (pc' := 81) dX11_isSure_80 rfl ?_
    obtain ⟨c5, h⟩ := h
    refine u_icmp_eq (tgt := 88) (pc' := 84) dX11_isSure_81 rfl (by decide) c5 ⟨by decide, by decide⟩ (fun hb => ?_) (fun hb => ?_)
    · have h := h.1 hb
      refine u_iconst (pc' := 89) dX11_isSure_88 rfl ?_
      exact u_zret (b := false) dX11_isSure_89 rfl rfl h
    · have h := h.2 hb
      refine u_iconst (pc' := 85) dX11_isSure_84 rfl ?_
      refine u_goto (tgt := 89) dX11_isSure_85 (by decide) ?_
      exact u_zret (b := true) dX11_isSure_89 rfl rfl h
  · have h := h.2 hb
    refine u_aload_n (i := 0) (pc' := 15) dX11_isSure_14 rfl rfl rfl ?_
    refine u_iload_n (i := 1) (pc' := 16) dX11_isSure_15 rfl rfl rfl ?_
    refine u_iload_n (i := 2) (pc' := 17) dX11_isSure_16 rfl rfl rfl ?_
    refine u_iload (i := 4) (pc' := 19) dX11_isSure_17 rfl rfl ?_
    refine u_invV (q' := qX11_fitsForm) (As := [vI x1, vI x2, vI x4]) (st := []) (pc' := 22) dX11_isSure_19 rfl gX11_fitsForm wm_1886 rfl rfl (by decide) kd_140 wm_1888 wp_138 rfl (Nat.le_of_ble_eq_true rfl) (M0.mono h (fun v τ6 h => ?_))
    obtain ⟨b7, rfl, h⟩ := h
    show V0 E (d + 1) qX11_isSure 22 [some (vR 140), some (vI x1), some (vI x2), some (vI x3), some (vI x4), none] [vB b7] τ6 Q
    refine u_if_ne (tgt := 28) (pc' := 25) dX11_isSure_22 rfl (by decide) (bI_R _) (fun hb => ?_) (fun hb => ?_)
    · have h := h.1 (bI_n0.mp hb)
      refine u_aload_n (i := 0) (pc' := 29) dX11_isSure_28 rfl rfl rfl ?_
      refine u_iload_n (i := 1) (pc' := 30) dX11_isSure_29 rfl rfl rfl ?_
      refine u_iload_n (i := 2) (pc' := 31) dX11_isSure_30 rfl rfl rfl ?_
      refine u_iadd (pc' := 32) dX11_isSure_31 rfl ?_
      refine u_iconst (pc' := 33) dX11_isSure_32 rfl ?_
      refine u_isub (pc' := 34) dX11_isSure_33 rfl ?_
      refine u_aload_n (i := 0) (pc' := 35) dX11_isSure_34 rfl rfl rfl ?_
      refine u_iload (i := 4) (pc' := 37) dX11_isSure_35 rfl rfl ?_
      refine u_invV (q' := qX11_formA) (As := [vI x4]) (st := [vI ((x1 + x2) - 1), vR 140]) (pc' := 40) dX11_isSure_37 rfl gX11_formA wm_1890 rfl rfl (by decide) kd_140 wm_1892 wp_139 rfl (Nat.le_of_ble_eq_true rfl) (M0.mono h (fun v τ8 h => ?_))
      obtain ⟨r9, rfl, h⟩ := h
      show V0 E (d + 1) qX11_isSure 40 [some (vR 140), some (vI x1), some (vI x2), some (vI x3), some (vI x4), none] [vI r9, vI ((x1 + x2) - 1), vR 140] τ8 Q
      refine u_aload_n (i := 0) (pc' := 41) dX11_isSure_40 rfl rfl rfl ?_
      refine u_iload (i := 4) (pc' := 43) dX11_isSure_41 rfl rfl ?_
      refine u_invV (q' := qX11_formB) (As := [vI x4]) (st := [vI r9, vI ((x1 + x2) - 1), vR 140]) (pc' := 46) dX11_isSure_43 rfl gX11_formB wm_1894 rfl rfl (by decide) kd_140 wm_1896 wp_140 rfl (Nat.le_of_ble_eq_true rfl) (M0.mono h (fun v τ10 h => ?_))
      obtain ⟨r11, rfl, h⟩ := h
      show V0 E (d + 1) qX11_isSure 46 [some (vR 140), some (vI x1), some (vI x2), some (vI x3), some (vI x4), none] [vI r11, vI r9, vI ((x1 + x2) - 1), vR 140] τ10 Q
      refine u_aload_n (i := 0) (pc' := 47) dX11_isSure_46 rfl rfl rfl ?_
      refine u_iload (i := 4) (pc' := 49) dX11_isSure_47 rfl rfl ?_
      refine u_invV (q' := qX11_formC) (As := [vI x4]) (st := [vI r11, vI r9, vI ((x1 + x2) - 1), vR 140]) (pc' := 52) dX11_isSure_49 rfl gX11_formC wm_1898 rfl rfl (by decide) kd_140 wm_1900 wp_141 rfl (Nat.le_of_ble_eq_true rfl) (M0.mono h (fun v τ12 h => ?_))
      obtain ⟨r13, rfl, h⟩ := h
      show V0 E (d + 1) qX11_isSure 52 [some (vR 140), some (vI x1), some (vI x2), some (vI x3), some (vI x4), none] [vI r13, vI r11, vI r9, vI ((x1 + x2) - 1), vR 140] τ12 Q
      refine u_invV (q' := qX11_formed) (As := [vI ((x1 + x2) - 1), vI r9, vI r11, vI r13]) (st := []) (pc' := 55) dX11_isSure_52 rfl gX11_formed wm_1906 rfl rfl (by decide) kd_140 wm_1908 wp_143 rfl (Nat.le_of_ble_eq_true rfl) (M0.mono h (fun v τ14 h => ?_))
      obtain ⟨r15, rfl, h⟩ := h
      show V0 E (d + 1) qX11_isSure 55 [some (vR 140), some (vI x1), some (vI x2), some (vI x3), some (vI x4), none] [vI r15] τ14 Q
      refine s_istore (i := 5) (ls' := [some (vR 140), some (vI x1), some (vI x2), some (vI x3), some (vI x4), some (vI r15)]) (pc' := 57) dX11_isSure_55 rfl (Nat.le_of_ble_eq_true rfl) rfl rfl ?_
      refine u_iload_n (i := 3) (pc' := 58) dX11_isSure_57 rfl rfl rfl ?_
      refine u_iconst (pc' := 59) dX11_isSure_58 rfl ?_
      obtain ⟨c16, h⟩ := h
      refine u_icmp_eq (tgt := 70) (pc' := 62) dX11_isSure_59 rfl (by decide) c16 ⟨by decide, by decide⟩ (fun hb => ?_) (fun hb => ?_)
      · have h := h.1 hb
        refine u_iload (i := 5) (pc' := 72) dX11_isSure_70 rfl rfl ?_
        refine s_istore_n (i := 3) (ls' := [some (vR 140), some (vI x1), some (vI x2), some (vI r15), some (vI x4), some (vI r15)]) (pc' := 73) dX11_isSure_72 rfl rfl (Nat.le_of_ble_eq_true rfl) rfl rfl ?_
        refine s_iinc (i := 4) (ls' := [some (vR 140), some (vI x1), some (vI x2), some (vI r15), some (vI (x4 + 1)), some (vI r15)]) (pc' := 76) dX11_isSure_73 rfl rfl (Nat.le_of_ble_eq_true rfl) rfl rfl ?_
        refine u_goto (tgt := 5) dX11_isSure_76 (by decide) ?_
        exact u_less (ls' := [some (vR 140), some (vI x1), some (vI x2), some (vI r15), some (vI (x4 + 1)), none]) ⟨rfl, ⟨rfl, ⟨rfl, ⟨rfl, ⟨rfl, trivial⟩⟩⟩⟩⟩ h
      · have h := h.2 hb
        refine u_iload (i := 5) (pc' := 64) dX11_isSure_62 rfl rfl ?_
        refine u_iload_n (i := 3) (pc' := 65) dX11_isSure_64 rfl rfl rfl ?_
        obtain ⟨c17, h⟩ := h
        refine u_icmp_eq (tgt := 70) (pc' := 68) dX11_isSure_65 rfl (by decide) c17 c16 (fun hb => ?_) (fun hb => ?_)
        · have h := h.1 hb
          refine u_iload (i := 5) (pc' := 72) dX11_isSure_70 rfl rfl ?_
          refine s_istore_n (i := 3) (ls' := [some (vR 140), some (vI x1), some (vI x2), some (vI r15), some (vI x4), some (vI r15)]) (pc' := 73) dX11_isSure_72 rfl rfl (Nat.le_of_ble_eq_true rfl) rfl rfl ?_
          refine s_iinc (i := 4) (ls' := [some (vR 140), some (vI x1), some (vI x2), some (vI r15), some (vI (x4 + 1)), some (vI r15)]) (pc' := 76) dX11_isSure_73 rfl rfl (Nat.le_of_ble_eq_true rfl) rfl rfl ?_
          refine u_goto (tgt := 5) dX11_isSure_76 (by decide) ?_
          exact u_less (ls' := [some (vR 140), some (vI x1), some (vI x2), some (vI r15), some (vI (x4 + 1)), none]) ⟨rfl, ⟨rfl, ⟨rfl, ⟨rfl, ⟨rfl, trivial⟩⟩⟩⟩⟩ h
        · have h := h.2 hb
          refine u_iconst (pc' := 69) dX11_isSure_68 rfl ?_
          exact u_zret (b := false) dX11_isSure_69 rfl rfl h
    · have h := h.2 (bI_0.mp hb)
      refine u_goto (tgt := 73) dX11_isSure_25 (by decide) ?_
      refine s_iinc (i := 4) (ls' := [some (vR 140), some (vI x1), some (vI x2), some (vI x3), some (vI (x4 + 1)), none]) (pc' := 76) dX11_isSure_73 rfl rfl (Nat.le_of_ble_eq_true rfl) rfl rfl ?_
      refine u_goto (tgt := 5) dX11_isSure_76 (by decide) ?_
      exact u_less (ls' := [some (vR 140), some (vI x1), some (vI x2), some (vI x3), some (vI (x4 + 1)), none]) ⟨rfl, ⟨rfl, ⟨rfl, ⟨rfl, ⟨rfl, trivial⟩⟩⟩⟩⟩ h
set_option maxRecDepth 20000 in
theorem bX11_right_0 {E : mm_Env} {d : Nat} {τ : mm_Mem} {Q : mm_Q0} {a0 : Int} {a1 : Int} {a2 : Int} (h : M0 E d qX11_canHear [vR 140, vI a0, vI a1, vI a2] τ (fun v τ1 => ∃ b2 : Bool, v = some (vB b2) ∧ ((b2 = false → Q (some (vI (-1))) τ1) ∧ (b2 = true → inR (a1 + a2) ∧ (((a1 + a2) < 1000 → V0 E (d + 1) qX11_right 33 [some (vR 140), none, none, some (vI a2), some (vI ((1000 * a0) + a1)), some (vI 0)] [] τ1 Q) ∧ (¬ (a1 + a2) < 1000 → Q (some (vI (-1))) τ1)))))) : V0 E (d + 1) qX11_right 0 [some (vR 140), some (vI a0), some (vI a1), some (vI a2), none, none] [] τ Q := by
  refine u_aload_n (i := 0) (pc' := 1) dX11_right_0 rfl rfl rfl ?_
  refine u_iload_n (i := 1) (pc' := 2) dX11_right_1 rfl rfl rfl ?_
  refine u_iload_n (i := 2) (pc' := 3) dX11_right_2 rfl rfl rfl ?_
  refine u_iload_n (i := 3) (pc' := 4) dX11_right_3 rfl rfl rfl ?_
  refine u_invV (q' := qX11_canHear) (As := [vI a0, vI a1, vI a2]) (st := []) (pc' := 7) dX11_right_4 rfl gX11_canHear wm_1878 rfl rfl (by decide) kd_140 wm_1880 wp_136 rfl (Nat.le_of_ble_eq_true rfl) (M0.mono h (fun v τ1 h => ?_))
  obtain ⟨b2, rfl, h⟩ := h
  show V0 E (d + 1) qX11_right 7 [some (vR 140), some (vI a0), some (vI a1), some (vI a2), none, none] [vB b2] τ1 Q
  refine u_if_eq (tgt := 19) (pc' := 10) dX11_right_7 rfl (by decide) (bI_R _) (fun hb => ?_) (fun hb => ?_)
  · have h := h.1 (bI_0.mp hb)
    refine u_iconst (pc' := 20) dX11_right_19 rfl ?_
    exact u_iret dX11_right_20 rfl h
  · have h := h.2 (bI_n0.mp hb)
    refine u_iload_n (i := 2) (pc' := 11) dX11_right_10 rfl rfl rfl ?_
    refine u_iload_n (i := 3) (pc' := 12) dX11_right_11 rfl rfl rfl ?_
    refine u_iadd (pc' := 13) dX11_right_12 rfl ?_
    refine u_sipush (pc' := 16) dX11_right_13 rfl (by decide) ?_
    obtain ⟨c3, h⟩ := h
    refine u_icmp_lt (tgt := 21) (pc' := 19) dX11_right_16 rfl (by decide) c3 ⟨by decide, by decide⟩ (fun hb => ?_) (fun hb => ?_)
    · have h := h.1 hb
      refine u_sipush (pc' := 24) dX11_right_21 rfl (by decide) ?_
      refine u_iload_n (i := 1) (pc' := 25) dX11_right_24 rfl rfl rfl ?_
      refine u_imul (pc' := 26) dX11_right_25 rfl ?_
      refine u_iload_n (i := 2) (pc' := 27) dX11_right_26 rfl rfl rfl ?_
      refine u_iadd (pc' := 28) dX11_right_27 rfl ?_
      refine s_istore (i := 4) (ls' := [some (vR 140), some (vI a0), some (vI a1), some (vI a2), some (vI ((1000 * a0) + a1)), none]) (pc' := 30) dX11_right_28 rfl (Nat.le_of_ble_eq_true rfl) rfl rfl ?_
      refine u_iconst (pc' := 31) dX11_right_30 rfl ?_
      refine s_istore (i := 5) (ls' := [some (vR 140), some (vI a0), some (vI a1), some (vI a2), some (vI ((1000 * a0) + a1)), some (vI 0)]) (pc' := 33) dX11_right_31 rfl (Nat.le_of_ble_eq_true rfl) rfl rfl ?_
      exact u_less (ls' := [some (vR 140), none, none, some (vI a2), some (vI ((1000 * a0) + a1)), some (vI 0)]) ⟨rfl, ⟨rfl, ⟨rfl, ⟨rfl, trivial⟩⟩⟩⟩ h
    · have h := h.2 hb
      refine u_iconst (pc' := 20) dX11_right_19 rfl ?_
      exact u_iret dX11_right_20 rfl h
theorem mX11_right {E : mm_Env} {d : Nat} {τ : mm_Mem} {Q : mm_Q0} {a0 : Int} {a1 : Int} {a2 : Int} (h : M0 E d qX11_canHear [vR 140, vI a0, vI a1, vI a2] τ (fun v τ1 => ∃ b2 : Bool, v = some (vB b2) ∧ ((b2 = false → Q (some (vI (-1))) τ1) ∧ (b2 = true → inR (a1 + a2) ∧ (((a1 + a2) < 1000 → V0 E (d + 1) qX11_right 33 [some (vR 140), none, none, some (vI a2), some (vI ((1000 * a0) + a1)), some (vI 0)] [] τ1 Q) ∧ (¬ (a1 + a2) < 1000 → Q (some (vI (-1))) τ1)))))) : M0 E (d + 1) qX11_right [vR 140, vI a0, vI a1, vI a2] τ Q := M0_of rfl (Nat.le_of_ble_eq_true rfl) [some (vR 140), some (vI a0), some (vI a1), some (vI a2), none, none] rfl (bX11_right_0  h)
set_option maxRecDepth 20000 in
theorem bX11_right_33 {E : mm_Env} {d : Nat} {τ : mm_Mem} {Q : mm_Q0} {x3 : Int} {x4 : Int} {x5 : Int} (h : M0 E d qX11_formsAll [vR 140] τ (fun v τ1 => ∃ r2 : Int, v = some (vI r2) ∧ inR x5 ∧ inR r2 ∧ ((r2 ≤ x5 → Q (some (vI (-1))) τ1) ∧ (¬ r2 ≤ x5 → M0 E d qX11_fitsForm [vR 140, vI x4, vI x3, vI x5] τ1 (fun v τ5 => ∃ b6 : Bool, v = some (vB b6) ∧ ((b6 = false → V0 E (d + 1) qX11_right 33 [some (vR 140), none, none, some (vI x3), some (vI x4), some (vI (x5 + 1))] [] τ5 Q) ∧ (b6 = true → M0 E d qX11_formA [vR 140, vI x5] τ5 (fun v τ7 => ∃ r8 : Int, v = some (vI r8) ∧ M0 E d qX11_formB [vR 140, vI x5] τ7 (fun v τ9 => ∃ r10 : Int, v = some (vI r10) ∧ M0 E d qX11_formC [vR 140, vI x5] τ9 (fun v τ11 => ∃ r12 : Int, v = some (vI r12) ∧ M0 E d qX11_formed [vR 140, vI ((x4 + x3) - 1), vI r8, vI r10, vI r12] τ11 (fun v τ13 => ∃ r14 : Int, v = some (vI r14) ∧ 0 ≤ (x4 + x3) ∧ (x4 + x3) < 3000 ∧ inR r14 ∧ ((r14 ≠ (τ13 178 (x4 + x3).toNat) → Q (some (vI 0)) τ13) ∧ (r14 = (τ13 178 (x4 + x3).toNat) → Q (some (vI 1)) τ13))))))))))))) : V0 E (d + 1) qX11_right 33 [some (vR 140), none, none, some (vI x3), some (vI x4), some (vI x5)] [] τ Q := by
  refine u_iload (i := 5) (pc' := 35) dX11_right_33 rfl rfl ?_
  refine u_aload_n (i := 0) (pc' := 36) dX11_right_35 rfl rfl rfl ?_
  refine u_invV (q' := qX11_formsAll) (As := []) (st := [vI x5]) (pc' := 39) dX11_right_36 rfl gX11_formsAll wm_1882 rfl rfl (by decide) kd_140 wm_1884 wp_137 rfl (Nat.le_of_ble_eq_true rfl) (M0.mono h (fun v τ1 h => ?_))
  obtain ⟨r2, rfl, h⟩ := h
  show V0 E (d + 1) qX11_right 39 [some (vR 140), none, none, some (vI x3), some (vI x4), some (vI x5)] [vI r2, vI x5] τ1 Q
  obtain ⟨c3, c4, h⟩ := h
  refine u_icmp_ge (tgt := 106) (pc' := 42) dX11_right_39 rfl (by decide) c3 c4 (fun hb => ?_) (fun hb => ?_)
  · have h := h.1 hb
    refine u_iconst (pc' := 107) dX11_right_106 rfl ?_
    exact u_iret dX11_right_107 rfl h
  · have h := h.2 hb
    refine u_aload_n (i := 0) (pc' := 43) dX11_right_42 rfl rfl rfl ?_
    refine u_iload (i := 4) (pc' := 45) dX11_right_43 rfl rfl ?_
    refine u_iload_n (i := 3) (pc' := 46) dX11_right_45 rfl rfl rfl ?_
    refine u_iload (i := 5) (pc' := 48) dX11_right_46 rfl rfl ?_
    refine u_invV (q' := qX11_fitsForm) (As := [vI x4, vI x3, vI x5]) (st := []) (pc' := 51) dX11_right_48 rfl gX11_fitsForm wm_1886 rfl rfl (by decide) kd_140 wm_1888 wp_138 rfl (Nat.le_of_ble_eq_true rfl) (M0.mono h (fun v τ5 h => ?_))
    obtain ⟨b6, rfl, h⟩ := h
    show V0 E (d + 1) qX11_right 51 [some (vR 140), none, none, some (vI x3), some (vI x4), some (vI x5)] [vB b6] τ5 Q
    refine u_if_eq (tgt := 100) (pc' := 54) dX11_right_51 rfl (by decide) (bI_R _) (fun hb => ?_) (fun hb => ?_)
    · have h := h.1 (bI_0.mp hb)
      refine s_iinc (i := 5) (ls' := [some (vR 140), none, none, some (vI x3), some (vI x4), some (vI (x5 + 1))]) (pc' := 103) dX11_right_100 rfl rfl (Nat.le_of_ble_eq_true rfl) rfl rfl ?_
      refine u_goto (tgt := 33) dX11_right_103 (by decide) ?_
      exact u_less (ls' := [some (vR 140), none, none, some (vI x3), some (vI x4), some (vI (x5 + 1))]) ⟨rfl, ⟨rfl, ⟨rfl, ⟨rfl, trivial⟩⟩⟩⟩ h
    · have h := h.2 (bI_n0.mp hb)
      refine u_aload_n (i := 0) (pc' := 55) dX11_right_54 rfl rfl rfl ?_
      refine u_iload (i := 4) (pc' := 57) dX11_right_55 rfl rfl ?_
      refine u_iload_n (i := 3) (pc' := 58) dX11_right_57 rfl rfl rfl ?_
      refine u_iadd (pc' := 59) dX11_right_58 rfl ?_
      refine u_iconst (pc' := 60) dX11_right_59 rfl ?_
      refine u_isub (pc' := 61) dX11_right_60 rfl ?_
      refine u_aload_n (i := 0) (pc' := 62) dX11_right_61 rfl rfl rfl ?_
      refine u_iload (i := 5) (pc' := 64) dX11_right_62 rfl rfl ?_
      refine u_invV (q' := qX11_formA) (As := [vI x5]) (st := [vI ((x4 + x3) - 1), vR 140]) (pc' := 67) dX11_right_64 rfl gX11_formA wm_1890 rfl rfl (by decide) kd_140 wm_1892 wp_139 rfl (Nat.le_of_ble_eq_true rfl) (M0.mono h (fun v τ7 h => ?_))
      obtain ⟨r8, rfl, h⟩ := h
      show V0 E (d + 1) qX11_right 67 [some (vR 140), none, none, some (vI x3), some (vI x4), some (vI x5)] [vI r8, vI ((x4 + x3) - 1), vR 140] τ7 Q
      refine u_aload_n (i := 0) (pc' := 68) dX11_right_67 rfl rfl rfl ?_
      refine u_iload (i := 5) (pc' := 70) dX11_right_68 rfl rfl ?_
      refine u_invV (q' := qX11_formB) (As := [vI x5]) (st := [vI r8, vI ((x4 + x3) - 1), vR 140]) (pc' := 73) dX11_right_70 rfl gX11_formB wm_1894 rfl rfl (by decide) kd_140 wm_1896 wp_140 rfl (Nat.le_of_ble_eq_true rfl) (M0.mono h (fun v τ9 h => ?_))
      obtain ⟨r10, rfl, h⟩ := h
      show V0 E (d + 1) qX11_right 73 [some (vR 140), none, none, some (vI x3), some (vI x4), some (vI x5)] [vI r10, vI r8, vI ((x4 + x3) - 1), vR 140] τ9 Q
      refine u_aload_n (i := 0) (pc' := 74) dX11_right_73 rfl rfl rfl ?_
      refine u_iload (i := 5) (pc' := 76) dX11_right_74 rfl rfl ?_
      refine u_invV (q' := qX11_formC) (As := [vI x5]) (st := [vI r10, vI r8, vI ((x4 + x3) - 1), vR 140]) (pc' := 79) dX11_right_76 rfl gX11_formC wm_1898 rfl rfl (by decide) kd_140 wm_1900 wp_141 rfl (Nat.le_of_ble_eq_true rfl) (M0.mono h (fun v τ11 h => ?_))
      obtain ⟨r12, rfl, h⟩ := h
      show V0 E (d + 1) qX11_right 79 [some (vR 140), none, none, some (vI x3), some (vI x4), some (vI x5)] [vI r12, vI r10, vI r8, vI ((x4 + x3) - 1), vR 140] τ11 Q
      refine u_invV (q' := qX11_formed) (As := [vI ((x4 + x3) - 1), vI r8, vI r10, vI r12]) (st := []) (pc' := 82) dX11_right_79 rfl gX11_formed wm_1906 rfl rfl (by decide) kd_140 wm_1908 wp_143 rfl (Nat.le_of_ble_eq_true rfl) (M0.mono h (fun v τ13 h => ?_))
      obtain ⟨r14, rfl, h⟩ := h
      show V0 E (d + 1) qX11_right 82 [some (vR 140), none, none, some (vI x3), some (vI x4), some (vI x5)] [vI r14] τ13 Q
      refine u_aload_n (i := 0) (pc' := 83) dX11_right_82 rfl rfl rfl ?_
      refine u_getR (a := 178) (pc' := 86) dX11_right_83 rfl fl_TuneDoorModel_180 rfl (by decide) kd_140 rfl ?_
      refine u_iload (i := 4) (pc' := 88) dX11_right_86 rfl rfl ?_
      refine u_iload_n (i := 3) (pc' := 89) dX11_right_88 rfl rfl rfl ?_
      refine u_iadd (pc' := 90) dX11_right_89 rfl ?_
      obtain ⟨c15, c16, h⟩ := h
      refine u_iaload (k := (x4 + x3).toNat) (z := (τ13 178 (x4 + x3).toNat)) (pc' := 91) dX11_right_90 rfl (by decide) kd_178 c15 c16 (by decide) rfl rfl (fun r17 => ?_)
      obtain ⟨c18, h⟩ := h
      refine u_icmp_ne (tgt := 98) (pc' := 94) dX11_right_91 rfl (by decide) c18 r17 (fun hb => ?_) (fun hb => ?_)
      · have h := h.1 hb
        refine u_iconst (pc' := 99) dX11_right_98 rfl ?_
        exact u_iret dX11_right_99 rfl h
      · have h := h.2 hb
        refine u_iconst (pc' := 95) dX11_right_94 rfl ?_
        refine u_goto (tgt := 99) dX11_right_95 (by decide) ?_
        exact u_iret dX11_right_99 rfl h
set_option maxRecDepth 20000 in
theorem bX11_same_0 {E : mm_Env} {d : Nat} {τ : mm_Mem} {Q : mm_Q0} {a0 : Int} {a1 : Int} {a2 : Int} (h : M0 E d qX11_isTune [vR 140, vI a0] τ (fun v τ1 => ∃ b2 : Bool, v = some (vB b2) ∧ ((b2 = false → Q (some (vI (-1))) τ1) ∧ (b2 = true → M0 E d qX11_isTune [vR 140, vI a1] τ1 (fun v τ3 => ∃ b4 : Bool, v = some (vB b4) ∧ ((b4 = false → Q (some (vI (-1))) τ3) ∧ (b4 = true → inR a0 ∧ inR a1 ∧ ((a0 = a1 → Q (some (vI (-1))) τ3) ∧ (¬ a0 = a1 → inR a2 ∧ ((a2 = 0 → V0 E (d + 1) qX11_same 35 [some (vR 140), some (vI a0), some (vI a1), some (vI a2), some (vI 0), none] [] τ3 Q) ∧ (¬ a2 = 0 → ((a2 = 1 → V0 E (d + 1) qX11_same 35 [some (vR 140), some (vI a0), some (vI a1), some (vI a2), some (vI 0), none] [] τ3 Q) ∧ (¬ a2 = 1 → Q (some (vI (-1))) τ3))))))))))))) : V0 E (d + 1) qX11_same 0 [some (vR 140), some (vI a0), some (vI a1), some (vI a2), none, none] [] τ Q := by
  refine u_aload_n (i := 0) (pc' := 1) dX11_same_0 rfl rfl rfl ?_
  refine u_iload_n (i := 1) (pc' := 2) dX11_same_1 rfl rfl rfl ?_
  refine u_invV (q' := qX11_isTune) (As := [vI a0]) (st := []) (pc' := 5) dX11_same_2 rfl gX11_isTune wm_1712 rfl rfl (by decide) kd_140 wm_1714 wp_114 rfl (Nat.le_of_ble_eq_true rfl) (M0.mono h (fun v τ1 h => ?_))
  obtain ⟨b2, rfl, h⟩ := h
  show V0 E (d + 1) qX11_same 5 [some (vR 140), some (vI a0), some (vI a1), some (vI a2), none, none] [vB b2] τ1 Q
  refine u_if_eq (tgt := 30) (pc' := 8) dX11_same_5 rfl (by decide) (bI_R _) (fun hb => ?_) (fun hb => ?_)
  · have h := h.1 (bI_0.mp hb)
    refine u_iconst (pc' := 31) dX11_same_30 rfl ?_
    exact u_iret dX11_same_31 rfl h
  · have h := h.2 (bI_n0.mp hb)
    refine u_aload_n (i := 0) (pc' := 9) dX11_same_8 rfl rfl rfl ?_
    refine u_iload_n (i := 2) (pc' := 10) dX11_same_9 rfl rfl rfl ?_
    refine u_invV (q' := qX11_isTune) (As := [vI a1]) (st := []) (pc' := 13) dX11_same_10 rfl gX11_isTune wm_1712 rfl rfl (by decide) kd_140 wm_1714 wp_114 rfl (Nat.le_of_ble_eq_true rfl) (M0.mono h (fun v τ3 h => ?_))
    obtain ⟨b4, rfl, h⟩ := h
    show V0 E (d + 1) qX11_same 13 [some (vR 140), some (vI a0), some (vI a1), some (vI a2), none, none] [vB b4] τ3 Q
    refine u_if_eq (tgt := 30) (pc' := 16) dX11_same_13 rfl (by decide) (bI_R _) (fun hb => ?_) (fun hb => ?_)
    · have h := h.1 (bI_0.mp hb)
      refine u_iconst (pc' := 31) dX11_same_30 rfl ?_
      exact u_iret dX11_same_31 rfl h
    · have h := h.2 (bI_n0.mp hb)
      refine u_iload_n (i := 1) (pc' := 17) dX11_same_16 rfl rfl rfl ?_
      refine u_iload_n (i := 2) (pc' := 18) dX11_same_17 rfl rfl rfl ?_
      obtain ⟨c5, c6, h⟩ := h
      refine u_icmp_eq (tgt := 30) (pc' := 21) dX11_same_18 rfl (by decide) c5 c6 (fun hb => ?_) (fun hb => ?_)
      · have h := h.1 hb
        refine u_iconst (pc' := 31) dX11_same_30 rfl ?_
        exact u_iret dX11_same_31 rfl h
      · have h := h.2 hb
        refine u_iload_n (i := 3) (pc' := 22) dX11_same_21 rfl rfl rfl ?_
        obtain ⟨c7, h⟩ := h
        refine u_if_eq (tgt := 32) (pc' := 25) dX11_same_22 rfl (by decide) c7 (fun hb => ?_) (fun hb => ?_)
        · have h := h.1 hb
          refine u_iconst (pc' := 33) dX11_same_32 rfl ?_
          refine s_istore (i := 4) (ls' := [some (vR 140), some (vI a0), some (vI a1), some (vI a2), some (vI 0), none]) (pc' := 35) dX11_same_33 rfl (Nat.le_of_ble_eq_true rfl) rfl rfl ?_
          exact u_less (ls' := [some (vR 140), some (vI a0), some (vI a1), some (vI a2), some (vI 0), none]) ⟨rfl, ⟨rfl, ⟨rfl, ⟨rfl, ⟨rfl, trivial⟩⟩⟩⟩⟩ h
        · have h := h.2 hb
          refine u_iload_n (i := 3) (pc' := 26) dX11_same_25 rfl rfl rfl ?_
          refine u_iconst (pc' := 27) dX11_same_26 rfl ?_
          refine u_icmp_eq (tgt := 32) (pc' := 30) dX11_same_27 rfl (by decide) c7 ⟨by decide, by decide⟩ (fun hb => ?_) (fun hb => ?_)
          · have h := h.1 hb
            refine u_iconst (pc' := 33) dX11_same_32 rfl ?_
            refine s_istore (i := 4) (ls' := [some (vR 140), some (vI a0), some (vI a1), some (vI a2), some (vI 0), none]) (pc' := 35) dX11_same_33 rfl (Nat.le_of_ble_eq_true rfl) rfl rfl ?_
            exact u_less (ls' := [some (vR 140), some (vI a0), some (vI a1), some (vI a2), some (vI 0), none]) ⟨rfl, ⟨rfl, ⟨rfl, ⟨rfl, ⟨rfl, trivial⟩⟩⟩⟩⟩ h
          · have h := h.2 hb
            refine u_iconst (pc' := 31) dX11_same_30 rfl ?_
            exact u_iret dX11_same_31 rfl h
theorem mX11_same {E : mm_Env} {d : Nat} {τ : mm_Mem} {Q : mm_Q0} {a0 : Int} {a1 : Int} {a2 : Int} (h : M0 E d qX11_isTune [vR 140, vI a0] τ (fun v τ1 => ∃ b2 : Bool, v = some (vB b2) ∧ ((b2 = false → Q (some (vI (-1))) τ1) ∧ (b2 = true → M0 E d qX11_isTune [vR 140, vI a1] τ1 (fun v τ3 => ∃ b4 : Bool, v = some (vB b4) ∧ ((b4 = false → Q (some (vI (-1))) τ3) ∧ (b4 = true → inR a0 ∧ inR a1 ∧ ((a0 = a1 → Q (some (vI (-1))) τ3) ∧ (¬ a0 = a1 → inR a2 ∧ ((a2 = 0 → V0 E (d + 1) qX11_same 35 [some (vR 140), some (vI a0), some (vI a1), some (vI a2), some (vI 0), none] [] τ3 Q) ∧ (¬ a2 = 0 → ((a2 = 1 → V0 E (d + 1) qX11_same 35 [some (vR 140), some (vI a0), some (vI a1), some (vI a2), some (vI 0), none] [] τ3 Q) ∧ (¬ a2 = 1 → Q (some (vI (-1))) τ3))))))))))))) : M0 E (d + 1) qX11_same [vR 140, vI a0, vI a1, vI a2] τ Q := M0_of rfl (Nat.le_of_ble_eq_true rfl) [some (vR 140), some (vI a0), some (vI a1), some (vI a2), none, none] rfl (bX11_same_0  h)
set_option maxRecDepth 20000 in
theorem bX11_same_35 {E : mm_Env} {d : Nat} {τ : mm_Mem} {Q : mm_Q0} {x1 : Int} {x2 : Int} {x3 : Int} {x4 : Int} (h : inR x4 ∧ ((999 ≤ x4 → Q (some (vI (-1))) τ) ∧ (¬ 999 ≤ x4 → V0 E (d + 1) qX11_same 46 [some (vR 140), some (vI x1), some (vI x2), some (vI x3), some (vI x4), some (vI 0)] [] τ Q))) : V0 E (d + 1) qX11_same 35 [some (vR 140), some (vI x1), some (vI x2), some (vI x3), some (vI x4), none] [] τ Q := by
  refine u_iload (i := 4) (pc' := 37) dX11_same_35 rfl rfl ?_
  refine u_sipush (pc' := 40) dX11_same_37 rfl (by decide) ?_
  obtain ⟨c1, h⟩ := h
  refine u_icmp_ge (tgt := 107) (pc' := 43) dX11_same_40 rfl (by decide) c1 ⟨by decide, by decide⟩ (fun hb => ?_) (fun hb => ?_)
  · have h := h.1 hb
    refine u_iconst (pc' := 108) dX11_same_107 rfl ?_
    exact u_iret dX11_same_108 rfl h
  · have h := h.2 hb
    refine u_iconst (pc' := 44) dX11_same_43 rfl ?_
    refine s_istore (i := 5) (ls' := [some (vR 140), some (vI x1), some (vI x2), some (vI x3), some (vI x4), some (vI 0)]) (pc' := 46) dX11_same_44 rfl (Nat.le_of_ble_eq_true rfl) rfl rfl ?_
    exact u_less (ls' := [some (vR 140), some (vI x1), some (vI x2), some (vI x3), some (vI x4), some (vI 0)]) ⟨rfl, ⟨rfl, ⟨rfl, ⟨rfl, ⟨rfl, ⟨rfl, trivial⟩⟩⟩⟩⟩⟩ h
set_option maxRecDepth 20000 in
theorem bX11_same_46 {E : mm_Env} {d : Nat} {τ : mm_Mem} {Q : mm_Q0} {x1 : Int} {x2 : Int} {x3 : Int} {x4 : Int} {x5 : Int} (h : inR x5 ∧ ((999 ≤ x5 → V0 E (d + 1) qX11_same 35 [some (vR 140), some (vI x1), some (vI x2), some (vI x3), some (vI (x4 + 1)), none] [] τ Q) ∧ (¬ 999 ≤ x5 → 0 ≤ ((1000 * x1) + x4) ∧ ((1000 * x1) + x4) < 3000 ∧ 0 ≤ ((1000 * x2) + x5) ∧ ((1000 * x2) + x5) < 3000 ∧ (((τ 178 ((1000 * x1) + x4).toNat) ≠ (τ 178 ((1000 * x2) + x5).toNat) → V0 E (d + 1) qX11_same 46 [some (vR 140), some (vI x1), some (vI x2), some (vI x3), some (vI x4), some (vI (x5 + 1))] [] τ Q) ∧ ((τ 178 ((1000 * x1) + x4).toNat) = (τ 178 ((1000 * x2) + x5).toNat) → inR x3 ∧ ((x3 ≠ 0 → Q (some (vI x5)) τ) ∧ (x3 = 0 → Q (some (vI x4)) τ))))))) : V0 E (d + 1) qX11_same 46 [some (vR 140), some (vI x1), some (vI x2), some (vI x3), some (vI x4), some (vI x5)] [] τ Q := by
  refine u_iload (i := 5) (pc' := 48) dX11_same_46 rfl rfl ?_
  refine u_sipush (pc' := 51) dX11_same_48 rfl (by decide) ?_
  obtain ⟨c1, h⟩ := h
  refine u_icmp_ge (tgt := 101) (pc' := 54) dX11_same_51 rfl (by decide) c1 ⟨by decide, by decide⟩ (fun hb => ?_) (fun hb => ?_)
  · have h := h.1 hb
    refine s_iinc (i := 4) (ls' := [some (vR 140), some (vI x1), some (vI x2), some (vI x3), some (vI (x4 + 1)), some (vI x5)]) (pc' := 104) dX11_same_101 rfl rfl (Nat.le_of_ble_eq_true rfl) rfl rfl ?_
    refine u_goto (tgt := 35) dX11_same_104 (by decide) ?_
    exact u_less (ls' := [some (vR 140), some (vI x1), some (vI x2), some (vI x3), some (vI (x4 + 1)), none]) ⟨rfl, ⟨rfl, ⟨rfl, ⟨rfl, ⟨rfl, trivial⟩⟩⟩⟩⟩ h
  · have h := h.2 hb
    refine u_aload_n (i := 0) (pc' := 55) dX11_same_54 rfl rfl rfl ?_
    refine u_getR (a := 178) (pc' := 58) dX11_same_55 rfl fl_TuneDoorModel_180 rfl (by decide) kd_140 rfl ?_
    refine u_sipush (pc' := 61) dX11_same_58 rfl (by decide) ?_
    refine u_iload_n (i := 1) (pc' := 62) dX11_same_61 rfl rfl rfl ?_
    refine u_imul (pc' := 63) dX11_same_62 rfl ?_
    refine u_iload (i := 4) (pc' := 65) dX11_same_63 rfl rfl ?_
    refine u_iadd (pc' := 66) dX11_same_65 rfl ?_
    obtain ⟨c2, c3, h⟩ := h
    refine u_iaload (k := ((1000 * x1) + x4).toNat) (z := (τ 178 ((1000 * x1) + x4).toNat)) (pc' := 67) dX11_same_66 rfl (by decide) kd_178 c2 c3 (by decide) rfl rfl (fun r4 => ?_)
    refine u_aload_n (i := 0) (pc' := 68) dX11_same_67 rfl rfl rfl ?_
    refine u_getR (a := 178) (pc' := 71) dX11_same_68 rfl fl_TuneDoorModel_180 rfl (by decide) kd_140 rfl ?_
    refine u_sipush (pc' := 74) dX11_same_71 rfl (by decide) ?_
    refine u_iload_n (i := 2) (pc' := 75) dX11_same_74 rfl rfl rfl ?_
    refine u_imul (pc' := 76) dX11_same_75 rfl ?_
    refine u_iload (i := 5) (pc' := 78) dX11_same_76 rfl rfl ?_
    refine u_iadd (pc' := 79) dX11_same_78 rfl ?_
    obtain ⟨c5, c6, h⟩ := h
    refine u_iaload (k := ((1000 * x2) + x5).toNat) (z := (τ 178 ((1000 * x2) + x5).toNat)) (pc' := 80) dX11_same_79 rfl (by decide) kd_178 c5 c6 (by decide) rfl rfl (fun r7 => ?_)
    refine u_icmp_ne (tgt := 95) (pc' := 83) dX11_same_80 rfl (by decide) r4 r7 (fun hb => ?_) (fun hb => ?_)
    · have h := h.1 hb
      refine s_iinc (i := 5) (ls' := [some (vR 140), some (vI x1), some (vI x2), some (vI x3), some (vI x4), some (vI (x5 + 1))]) (pc' := 98) dX11_same_95 rfl rfl (Nat.le_of_ble_eq_true rfl) rfl rfl ?_
      refine u_goto (tgt := 46) dX11_same_98 (by decide) ?_
      exact u_less (ls' := [some (vR 140), some (vI x1), some (vI x2), some (vI x3), some (vI x4), some (vI (x5 + 1))]) ⟨rfl, ⟨rfl, ⟨rfl, ⟨rfl, ⟨rfl, ⟨rfl, trivial⟩⟩⟩⟩⟩⟩ h
    · have h := h.2 hb
      refine u_iload_n (i := 3) (pc' := 84) dX11_same_83 rfl rfl rfl ?_
      obtain ⟨c8, h⟩ := h
      refine u_if_ne (tgt := 92) (pc' := 87) dX11_same_84 rfl (by decide) c8 (fun hb => ?_) (fun hb => ?_)
      · have h := h.1 hb
        refine u_iload (i := 5) (pc' := 94) dX11_same_92 rfl rfl ?_
        exact u_iret dX11_same_94 rfl h
      · have h := h.2 hb
        refine u_iload (i := 4) (pc' := 89) dX11_same_87 rfl rfl ?_
        refine u_goto (tgt := 94) dX11_same_89 (by decide) ?_
        exact u_iret dX11_same_94 rfl h
set_option maxRecDepth 20000 in
theorem bX11_tells_0 {E : mm_Env} {d : Nat} {τ : mm_Mem} {Q : mm_Q0} {a0 : Int} {a1 : Int} {a2 : Int} (h : M0 E d qX11_isTune [vR 140, vI a0] τ (fun v τ1 => ∃ b2 : Bool, v = some (vB b2) ∧ ((b2 = false → Q (some (vI (-1))) τ1) ∧ (b2 = true → M0 E d qX11_isTune [vR 140, vI a1] τ1 (fun v τ3 => ∃ b4 : Bool, v = some (vB b4) ∧ ((b4 = false → Q (some (vI (-1))) τ3) ∧ (b4 = true → inR a0 ∧ inR a1 ∧ ((a0 = a1 → Q (some (vI (-1))) τ3) ∧ (¬ a0 = a1 → M0 E d qX11_isWhistle [vI a2] τ3 (fun v τ7 => ∃ b8 : Bool, v = some (vB b8) ∧ ((b8 = true → V0 E (d + 1) qX11_tells 33 [some (vR 140), some (vI a0), some (vI a1), some (vI a2), some (vI a2)] [] τ7 Q) ∧ (b8 = false → Q (some (vI (-1))) τ7)))))))))))) : V0 E (d + 1) qX11_tells 0 [some (vR 140), some (vI a0), some (vI a1), some (vI a2), none] [] τ Q := by
  refine u_aload_n (i := 0) (pc' := 1) dX11_tells_0 rfl rfl rfl ?_
  refine u_iload_n (i := 1) (pc' := 2) dX11_tells_1 rfl rfl rfl ?_
  refine u_invV (q' := qX11_isTune) (As := [vI a0]) (st := []) (pc' := 5) dX11_tells_2 rfl gX11_isTune wm_1712 rfl rfl (by decide) kd_140 wm_1714 wp_114 rfl (Nat.le_of_ble_eq_true rfl) (M0.mono h (fun v τ1 h => ?_))
  obtain ⟨b2, rfl, h⟩ := h
  show V0 E (d + 1) qX11_tells 5 [some (vR 140), some (vI a0), some (vI a1), some (vI a2), none] [vB b2] τ1 Q
  refine u_if_eq (tgt := 28) (pc' := 8) dX11_tells_5 rfl (by decide) (bI_R _) (fun hb => ?_) (fun hb => ?_)
  · have h := h.1 (bI_0.mp hb)
    refine u_iconst (pc' := 29) dX11_tells_28 rfl ?_
    exact u_iret dX11_tells_29 rfl h
  · have h := h.2 (bI_n0.mp hb)
    refine u_aload_n (i := 0) (pc' := 9) dX11_tells_8 rfl rfl rfl ?_
    refine u_iload_n (i := 2) (pc' := 10) dX11_tells_9 rfl rfl rfl ?_
    refine u_invV (q' := qX11_isTune) (As := [vI a1]) (st := []) (pc' := 13) dX11_tells_10 rfl gX11_isTune wm_1712 rfl rfl (by decide) kd_140 wm_1714 wp_114 rfl (Nat.le_of_ble_eq_true rfl) (M0.mono h (fun v τ3 h => ?_))
    obtain ⟨b4, rfl, h⟩ := h
    show V0 E (d + 1) qX11_tells 13 [some (vR 140), some (vI a0), some (vI a1), some (vI a2), none] [vB b4] τ3 Q
    refine u_if_eq (tgt := 28) (pc' := 16) dX11_tells_13 rfl (by decide) (bI_R _) (fun hb => ?_) (fun hb => ?_)
    · have h := h.1 (bI_0.mp hb)
      refine u_iconst (pc' := 29) dX11_tells_28 rfl ?_
      exact u_iret dX11_tells_29 rfl h
    · have h := h.2 (bI_n0.mp hb)
      refine u_iload_n (i := 1) (pc' := 17) dX11_tells_16 rfl rfl rfl ?_
      refine u_iload_n (i := 2) (pc' := 18) dX11_tells_17 rfl rfl rfl ?_
      obtain ⟨c5, c6, h⟩ := h
      refine u_icmp_eq (tgt := 28) (pc' := 21) dX11_tells_18 rfl (by decide) c5 c6 (fun hb => ?_) (fun hb => ?_)
      · have h := h.1 hb
        refine u_iconst (pc' := 29) dX11_tells_28 rfl ?_
        exact u_iret dX11_tells_29 rfl h
      · have h := h.2 hb
        refine u_iload_n (i := 3) (pc' := 22) dX11_tells_21 rfl rfl rfl ?_
        refine u_invS (q' := qX11_isWhistle) (As := [vI a2]) (st := []) (pc' := 25) dX11_tells_22 rfl gX11_isWhistle wm_1716 wm_1717 rfl (Nat.le_of_ble_eq_true rfl) (M0.mono h (fun v τ7 h => ?_))
        obtain ⟨b8, rfl, h⟩ := h
        show V0 E (d + 1) qX11_tells 25 [some (vR 140), some (vI a0), some (vI a1), some (vI a2), none] [vB b8] τ7 Q
        refine u_if_ne (tgt := 30) (pc' := 28) dX11_tells_25 rfl (by decide) (bI_R _) (fun hb => ?_) (fun hb => ?_)
        · have h := h.1 (bI_n0.mp hb)
          refine u_iload_n (i := 3) (pc' := 31) dX11_tells_30 rfl rfl rfl ?_
          refine s_istore (i := 4) (ls' := [some (vR 140), some (vI a0), some (vI a1), some (vI a2), some (vI a2)]) (pc' := 33) dX11_tells_31 rfl (Nat.le_of_ble_eq_true rfl) rfl rfl ?_
          exact u_less (ls' := [some (vR 140), some (vI a0), some (vI a1), some (vI a2), some (vI a2)]) ⟨rfl, ⟨rfl, ⟨rfl, ⟨rfl, ⟨rfl, trivial⟩⟩⟩⟩⟩ h
        · have h := h.2 (bI_0.mp hb)
          refine u_iconst (pc' := 29) dX11_tells_28 rfl ?_
          exact u_iret dX11_tells_29 rfl h
theorem mX11_tells {E : mm_Env} {d : Nat} {τ : mm_Mem} {Q : mm_Q0} {a0 : Int} {a1 : Int} {a2 : Int} (h : M0 E d qX11_isTune [vR 140, vI a0] τ (fun v τ1 => ∃ b2 : Bool, v = some (vB b2) ∧ ((b2 = false → Q (some (vI (-1))) τ1) ∧ (b2 = true → M0 E d qX11_isTune [vR 140, vI a1] τ1 (fun v τ3 => ∃ b4 : Bool, v = some (vB b4) ∧ ((b4 = false → Q (some (vI (-1))) τ3) ∧ (b4 = true → inR a0 ∧ inR a1 ∧ ((a0 = a1 → Q (some (vI (-1))) τ3) ∧ (¬ a0 = a1 → M0 E d qX11_isWhistle [vI a2] τ3 (fun v τ7 => ∃ b8 : Bool, v = some (vB b8) ∧ ((b8 = true → V0 E (d + 1) qX11_tells 33 [some (vR 140), some (vI a0), some (vI a1), some (vI a2), some (vI a2)] [] τ7 Q) ∧ (b8 = false → Q (some (vI (-1))) τ7)))))))))))) : M0 E (d + 1) qX11_tells [vR 140, vI a0, vI a1, vI a2] τ Q := M0_of rfl (Nat.le_of_ble_eq_true rfl) [some (vR 140), some (vI a0), some (vI a1), some (vI a2), none] rfl (bX11_tells_0  h)
set_option maxRecDepth 20000 in
theorem bX11_tells_33 {E : mm_Env} {d : Nat} {τ : mm_Mem} {Q : mm_Q0} {x1 : Int} {x2 : Int} {x3 : Int} {x4 : Int} (h : inR x4 ∧ ((1000 ≤ x4 → Q (some (vI (-1))) τ) ∧ (¬ 1000 ≤ x4 → 0 ≤ ((1000 * x1) + x4) ∧ ((1000 * x1) + x4) < 3000 ∧ 0 ≤ ((1000 * x2) + x4) ∧ ((1000 * x2) + x4) < 3000 ∧ (((τ 178 ((1000 * x1) + x4).toNat) = (τ 178 ((1000 * x2) + x4).toNat) → V0 E (d + 1) qX11_tells 33 [some (vR 140), some (vI x1), some (vI x2), some (vI x3), some (vI (x4 + 1))] [] τ Q) ∧ (¬ (τ 178 ((1000 * x1) + x4).toNat) = (τ 178 ((1000 * x2) + x4).toNat) → Q (some (vI ((x4 - x3) + 1))) τ))))) : V0 E (d + 1) qX11_tells 33 [some (vR 140), some (vI x1), some (vI x2), some (vI x3), some (vI x4)] [] τ Q := by
  refine u_iload (i := 4) (pc' := 35) dX11_tells_33 rfl rfl ?_
  refine u_sipush (pc' := 38) dX11_tells_35 rfl (by decide) ?_
  obtain ⟨c1, h⟩ := h
  refine u_icmp_ge (tgt := 83) (pc' := 41) dX11_tells_38 rfl (by decide) c1 ⟨by decide, by decide⟩ (fun hb => ?_) (fun hb => ?_)
  · have h := h.1 hb
    refine u_iconst (pc' := 84) dX11_tells_83 rfl ?_
    exact u_iret dX11_tells_84 rfl h
  · have h := h.2 hb
    refine u_aload_n (i := 0) (pc' := 42) dX11_tells_41 rfl rfl rfl ?_
    refine u_getR (a := 178) (pc' := 45) dX11_tells_42 rfl fl_TuneDoorModel_180 rfl (by decide) kd_140 rfl ?_
    refine u_sipush (pc' := 48) dX11_tells_45 rfl (by decide) ?_
    refine u_iload_n (i := 1) (pc' := 49) dX11_tells_48 rfl rfl rfl ?_
    refine u_imul (pc' := 50) dX11_tells_49 rfl ?_
    refine u_iload (i := 4) (pc' := 52) dX11_tells_50 rfl rfl ?_
    refine u_iadd (pc' := 53) dX11_tells_52 rfl ?_
    obtain ⟨c2, c3, h⟩ := h
    refine u_iaload (k := ((1000 * x1) + x4).toNat) (z := (τ 178 ((1000 * x1) + x4).toNat)) (pc' := 54) dX11_tells_53 rfl (by decide) kd_178 c2 c3 (by decide) rfl rfl (fun r4 => ?_)
    refine u_aload_n (i := 0) (pc' := 55) dX11_tells_54 rfl rfl rfl ?_
    refine u_getR (a := 178) (pc' := 58) dX11_tells_55 rfl fl_TuneDoorModel_180 rfl (by decide) kd_140 rfl ?_
    refine u_sipush (pc' := 61) dX11_tells_58 rfl (by decide) ?_
    refine u_iload_n (i := 2) (pc' := 62) dX11_tells_61 rfl rfl rfl ?_
    refine u_imul (pc' := 63) dX11_tells_62 rfl ?_
    refine u_iload (i := 4) (pc' := 65) dX11_tells_63 rfl rfl ?_
    refine u_iadd (pc' := 66) dX11_tells_65 rfl ?_
    obtain ⟨c5, c6, h⟩ := h
    refine u_iaload (k := ((1000 * x2) + x4).toNat) (z := (τ 178 ((1000 * x2) + x4).toNat)) (pc' := 67) dX11_tells_66 rfl (by decide) kd_178 c5 c6 (by decide) rfl rfl (fun r7 => ?_)
    refine u_icmp_eq (tgt := 77) (pc' := 70) dX11_tells_67 rfl (by decide) r4 r7 (fun hb => ?_) (fun hb => ?_)
    · have h := h.1 hb
      refine s_iinc (i := 4) (ls' := [some (vR 140), some (vI x1), some (vI x2), some (vI x3), some (vI (x4 + 1))]) (pc' := 80) dX11_tells_77 rfl rfl (Nat.le_of_ble_eq_true rfl) rfl rfl ?_
      refine u_goto (tgt := 33) dX11_tells_80 (by decide) ?_
      exact u_less (ls' := [some (vR 140), some (vI x1), some (vI x2), some (vI x3), some (vI (x4 + 1))]) ⟨rfl, ⟨rfl, ⟨rfl, ⟨rfl, ⟨rfl, trivial⟩⟩⟩⟩⟩ h
    · have h := h.2 hb
      refine u_iload (i := 4) (pc' := 72) dX11_tells_70 rfl rfl ?_
      refine u_iload_n (i := 3) (pc' := 73) dX11_tells_72 rfl rfl rfl ?_
      refine u_isub (pc' := 74) dX11_tells_73 rfl ?_
      refine u_iconst (pc' := 75) dX11_tells_74 rfl ?_
      refine u_iadd (pc' := 76) dX11_tells_75 rfl ?_
      exact u_iret dX11_tells_76 rfl h
set_option maxRecDepth 20000 in
theorem bX11_bird_0 {E : mm_Env} {d : Nat} {τ : mm_Mem} {Q : mm_Q0} {a0 : Int} {a1 : Int} {a2 : Int} {a3 : Int} (h : M0 E d qX11_isDoor [vR 140, vI a0] τ (fun v τ1 => ∃ b2 : Bool, v = some (vB b2) ∧ ((b2 = false → Q (some (vI (-1))) τ1) ∧ (b2 = true → M0 E d qX11_isTune [vR 140, vI a1] τ1 (fun v τ3 => ∃ b4 : Bool, v = some (vB b4) ∧ ((b4 = false → Q (some (vI (-1))) τ3) ∧ (b4 = true → M0 E d qX11_isWhistle [vI a2] τ3 (fun v τ5 => ∃ b6 : Bool, v = some (vB b6) ∧ ((b6 = false → Q (some (vI (-1))) τ5) ∧ (b6 = true → M0 E d qX11_is [vI a3, vI 1, vI 100] τ5 (fun v τ7 => ∃ b8 : Bool, v = some (vB b8) ∧ ((b8 = true → M0 E d qX11_keeps [vR 140] τ7 (fun v τ9 => v = none ∧ V0 E (d + 1) qX11_bird 46 [some (vR 140), some (vI a0), some (vI a1), some (vI a2), some (vI a3), some (vI 0), some (vI 0)] [] τ9 Q)) ∧ (b8 = false → Q (some (vI (-1))) τ7))))))))))))) : V0 E (d + 1) qX11_bird 0 [some (vR 140), some (vI a0), some (vI a1), some (vI a2), some (vI a3), none, none] [] τ Q := by
  refine u_aload_n (i := 0) (pc' := 1) dX11_bird_0 rfl rfl rfl ?_
  refine u_iload_n (i := 1) (pc' := 2) dX11_bird_1 rfl rfl rfl ?_
  refine u_invV (q' := qX11_isDoor) (As := [vI a0]) (st := []) (pc' := 5) dX11_bird_2 rfl gX11_isDoor wm_1684 rfl rfl (by decide) kd_140 wm_1686 wp_109 rfl (Nat.le_of_ble_eq_true rfl) (M0.mono h (fun v τ1 h => ?_))
  obtain ⟨b2, rfl, h⟩ := h
  show V0 E (d + 1) qX11_bird 5 [some (vR 140), some (vI a0), some (vI a1), some (vI a2), some (vI a3), none, none] [vB b2] τ1 Q
  refine u_if_eq (tgt := 34) (pc' := 8) dX11_bird_5 rfl (by decide) (bI_R _) (fun hb => ?_) (fun hb => ?_)
  · have h := h.1 (bI_0.mp hb)
    refine u_iconst (pc' := 35) dX11_bird_34 rfl ?_
    exact u_iret dX11_bird_35 rfl h
  · have h := h.2 (bI_n0.mp hb)
    refine u_aload_n (i := 0) (pc' := 9) dX11_bird_8 rfl rfl rfl ?_
    refine u_iload_n (i := 2) (pc' := 10) dX11_bird_9 rfl rfl rfl ?_
    refine u_invV (q' := qX11_isTune) (As := [vI a1]) (st := []) (pc' := 13) dX11_bird_10 rfl gX11_isTune wm_1712 rfl rfl (by decide) kd_140 wm_1714 wp_114 rfl (Nat.le_of_ble_eq_true rfl) (M0.mono h (fun v τ3 h => ?_))
    obtain ⟨b4, rfl, h⟩ := h
    show V0 E (d + 1) qX11_bird 13 [some (vR 140), some (vI a0), some (vI a1), some (vI a2), some (vI a3), none, none] [vB b4] τ3 Q
    refine u_if_eq (tgt := 34) (pc' := 16) dX11_bird_13 rfl (by decide) (bI_R _) (fun hb => ?_) (fun hb => ?_)
    · have h := h.1 (bI_0.mp hb)
      refine u_iconst (pc' := 35) dX11_bird_34 rfl ?_
      exact u_iret dX11_bird_35 rfl h
    · have h := h.2 (bI_n0.mp hb)
      refine u_iload_n (i := 3) (pc' := 17) dX11_bird_16 rfl rfl rfl ?_
      refine u_invS (q' := qX11_isWhistle) (As := [vI a2]) (st := []) (pc' := 20) dX11_bird_17 rfl gX11_isWhistle wm_1716 wm_1717 rfl (Nat.le_of_ble_eq_true rfl) (M0.mono h (fun v τ5 h => ?_))
      obtain ⟨b6, rfl, h⟩ := h
      show V0 E (d + 1) qX11_bird 20 [some (vR 140), some (vI a0), some (vI a1), some (vI a2), some (vI a3), none, none] [vB b6] τ5 Q
      refine u_if_eq (tgt := 34) (pc' := 23) dX11_bird_20 rfl (by decide) (bI_R _) (fun hb => ?_) (fun hb => ?_)
      · have h := h.1 (bI_0.mp hb)
        refine u_iconst (pc' := 35) dX11_bird_34 rfl ?_
        exact u_iret dX11_bird_35 rfl h
      · have h := h.2 (bI_n0.mp hb)
        refine u_iload (i := 4) (pc' := 25) dX11_bird_23 rfl rfl ?_
        refine u_iconst (pc' := 26) dX11_bird_25 rfl ?_
        refine u_bipush (pc' := 28) dX11_bird_26 rfl (by decide) ?_
        refine u_invS (q' := qX11_is) (As := [vI a3, vI 1, vI 100]) (st := []) (pc' := 31) dX11_bird_28 rfl gX11_is wm_1495 wm_1496 rfl (Nat.le_of_ble_eq_true rfl) (M0.mono h (fun v τ7 h => ?_))
        obtain ⟨b8, rfl, h⟩ := h
        show V0 E (d + 1) qX11_bird 31 [some (vR 140), some (vI a0), some (vI a1), some (vI a2), some (vI a3), none, none] [vB b8] τ7 Q
        refine u_if_ne (tgt := 36) (pc' := 34) dX11_bird_31 rfl (by decide) (bI_R _) (fun hb => ?_) (fun hb => ?_)
        · have h := h.1 (bI_n0.mp hb)
          refine u_aload_n (i := 0) (pc' := 37) dX11_bird_36 rfl rfl rfl ?_
          refine u_invV (q' := qX11_keeps) (As := []) (st := []) (pc' := 40) dX11_bird_37 rfl gX11_keeps wm_1803 rfl rfl (by decide) kd_140 wm_1805 wp_126 rfl (Nat.le_of_ble_eq_true rfl) (M0.mono h (fun v τ9 h => ?_))
          obtain ⟨rfl, h⟩ := h
          show V0 E (d + 1) qX11_bird 40 [some (vR 140), some (vI a0), some (vI a1), some (vI a2), some (vI a3), none, none] [] τ9 Q
          refine u_iconst (pc' := 41) dX11_bird_40 rfl ?_
          refine s_istore (i := 5) (ls' := [some (vR 140), some (vI a0), some (vI a1), some (vI a2), some (vI a3), some (vI 0), none]) (pc' := 43) dX11_bird_41 rfl (Nat.le_of_ble_eq_true rfl) rfl rfl ?_
          refine u_iconst (pc' := 44) dX11_bird_43 rfl ?_
          refine s_istore (i := 6) (ls' := [some (vR 140), some (vI a0), some (vI a1), some (vI a2), some (vI a3), some (vI 0), some (vI 0)]) (pc' := 46) dX11_bird_44 rfl (Nat.le_of_ble_eq_true rfl) rfl rfl ?_
          exact u_less (ls' := [some (vR 140), some (vI a0), some (vI a1), some (vI a2), some (vI a3), some (vI 0), some (vI 0)]) ⟨rfl, ⟨rfl, ⟨rfl, ⟨rfl, ⟨rfl, ⟨rfl, ⟨rfl, trivial⟩⟩⟩⟩⟩⟩⟩ h
        · have h := h.2 (bI_0.mp hb)
          refine u_iconst (pc' := 35) dX11_bird_34 rfl ?_
          exact u_iret dX11_bird_35 rfl h
theorem mX11_bird {E : mm_Env} {d : Nat} {τ : mm_Mem} {Q : mm_Q0} {a0 : Int} {a1 : Int} {a2 : Int} {a3 : Int} (h : M0 E d qX11_isDoor [vR 140, vI a0] τ (fun v τ1 => ∃ b2 : Bool, v = some (vB b2) ∧ ((b2 = false → Q (some (vI (-1))) τ1) ∧ (b2 = true → M0 E d qX11_isTune [vR 140, vI a1] τ1 (fun v τ3 => ∃ b4 : Bool, v = some (vB b4) ∧ ((b4 = false → Q (some (vI (-1))) τ3) ∧ (b4 = true → M0 E d qX11_isWhistle [vI a2] τ3 (fun v τ5 => ∃ b6 : Bool, v = some (vB b6) ∧ ((b6 = false → Q (some (vI (-1))) τ5) ∧ (b6 = true → M0 E d qX11_is [vI a3, vI 1, vI 100] τ5 (fun v τ7 => ∃ b8 : Bool, v = some (vB b8) ∧ ((b8 = true → M0 E d qX11_keeps [vR 140] τ7 (fun v τ9 => v = none ∧ V0 E (d + 1) qX11_bird 46 [some (vR 140), some (vI a0), some (vI a1), some (vI a2), some (vI a3), some (vI 0), some (vI 0)] [] τ9 Q)) ∧ (b8 = false → Q (some (vI (-1))) τ7))))))))))))) : M0 E (d + 1) qX11_bird [vR 140, vI a0, vI a1, vI a2, vI a3] τ Q := M0_of rfl (Nat.le_of_ble_eq_true rfl) [some (vR 140), some (vI a0), some (vI a1), some (vI a2), some (vI a3), none, none] rfl (bX11_bird_0  h)
set_option maxRecDepth 20000 in
theorem bX11_bird_46 {E : mm_Env} {d : Nat} {τ : mm_Mem} {Q : mm_Q0} {x1 : Int} {x2 : Int} {x3 : Int} {x4 : Int} {x5 : Int} {x6 : Int} (h : inR x6 ∧ inR x4 ∧ ((x4 ≤ x6 → M0 E d qX11_back [vR 140] τ (fun v τ3 => v = none ∧ Q (some (vI x5)) τ3)) ∧ (¬ x4 ≤ x6 → M0 E d qX11_whistles [vR 140, vI x2, vI x3] τ (fun v τ4 => v = none ∧ M0 E d qX11_hears [vR 140, vI x1] τ4 (fun v τ5 => ∃ r6 : Int, v = some (vI r6) ∧ inR r6 ∧ ((r6 = (-1) → V0 E (d + 1) qX11_bird 46 [some (vR 140), some (vI x1), some (vI x2), some (vI x3), some (vI x4), some (vI (x5 + 0)), some (vI (x6 + 1))] [] τ5 Q) ∧ (¬ r6 = (-1) → V0 E (d + 1) qX11_bird 46 [some (vR 140), some (vI x1), some (vI x2), some (vI x3), some (vI x4), some (vI (x5 + 1)), some (vI (x6 + 1))] [] τ5 Q))))))) : V0 E (d + 1) qX11_bird 46 [some (vR 140), some (vI x1), some (vI x2), some (vI x3), some (vI x4), some (vI x5), some (vI x6)] [] τ Q := by
  refine u_iload (i := 6) (pc' := 48) dX11_bird_46 rfl rfl ?_
  refine u_iload (i := 4) (pc' := 50) dX11_bird_48 rfl rfl ?_
  obtain ⟨c1, c2, h⟩ := h
  refine u_icmp_ge (tgt := 84) (pc' := 53) dX11_bird_50 rfl (by decide) c1 c2 (fun hb => ?_) (fun hb => ?_)
  · have h := h.1 hb
    refine u_aload_n (i := 0) (pc' := 85) dX11_bird_84 rfl rfl rfl ?_
    refine u_invV (q' := qX11_back) (As := []) (st := []) (pc' := 88) dX11_bird_85 rfl gX11_back wm_1811 rfl rfl (by decide) kd_140 wm_1813 wp_128 rfl (Nat.le_of_ble_eq_true rfl) (M0.mono h (fun v τ3 h => ?_))
    obtain ⟨rfl, h⟩ := h
    show V0 E (d + 1) qX11_bird 88 [some (vR 140), some (vI x1), some (vI x2), some (vI x3), some (vI x4), some (vI x5), some (vI x6)] [] τ3 Q
    refine u_iload (i := 5) (pc' := 90) dX11_bird_88 rfl rfl ?_
    exact u_iret dX11_bird_90 rfl h
  · have h := h.2 hb
    refine u_aload_n (i := 0) (pc' := 54) dX11_bird_53 rfl rfl rfl ?_
    refine u_iload_n (i := 2) (pc' := 55) dX11_bird_54 rfl rfl rfl ?_
    refine u_iload_n (i := 3) (pc' := 56) dX11_bird_55 rfl rfl rfl ?_
    refine u_invV (q' := qX11_whistles) (As := [vI x2, vI x3]) (st := []) (pc' := 59) dX11_bird_56 rfl gX11_whistles wm_1747 rfl rfl (by decide) kd_140 wm_1749 wp_117 rfl (Nat.le_of_ble_eq_true rfl) (M0.mono h (fun v τ4 h => ?_))
    obtain ⟨rfl, h⟩ := h
    show V0 E (d + 1) qX11_bird 59 [some (vR 140), some (vI x1), some (vI x2), some (vI x3), some (vI x4), some (vI x5), some (vI x6)] [] τ4 Q
    refine u_iload (i := 5) (pc' := 61) dX11_bird_59 rfl rfl ?_
    refine u_aload_n (i := 0) (pc' := 62) dX11_bird_61 rfl rfl rfl ?_
    refine u_iload_n (i := 1) (pc' := 63) dX11_bird_62 rfl rfl rfl ?_
    refine u_invV (q' := qX11_hears) (As := [vI x1]) (st := [vI x5]) (pc' := 66) dX11_bird_63 rfl gX11_hears wm_1759 rfl rfl (by decide) kd_140 wm_1761 wp_120 rfl (Nat.le_of_ble_eq_true rfl) (M0.mono h (fun v τ5 h => ?_))
    obtain ⟨r6, rfl, h⟩ := h
    show V0 E (d + 1) qX11_bird 66 [some (vR 140), some (vI x1), some (vI x2), some (vI x3), some (vI x4), some (vI x5), some (vI x6)] [vI r6, vI x5] τ5 Q
    refine u_iconst (pc' := 67) dX11_bird_66 rfl ?_
    obtain ⟨c7, h⟩ := h
    refine u_icmp_eq (tgt := 74) (pc' := 70) dX11_bird_67 rfl (by decide) c7 ⟨by decide, by decide⟩ (fun hb => ?_) (fun hb => ?_)
    · have h := h.1 hb
      refine u_iconst (pc' := 75) dX11_bird_74 rfl ?_
      refine u_iadd (pc' := 76) dX11_bird_75 rfl ?_
      refine s_istore (i := 5) (ls' := [some (vR 140), some (vI x1), some (vI x2), some (vI x3), some (vI x4), some (vI (x5 + 0)), some (vI x6)]) (pc' := 78) dX11_bird_76 rfl (Nat.le_of_ble_eq_true rfl) rfl rfl ?_
      refine s_iinc (i := 6) (ls' := [some (vR 140), some (vI x1), some (vI x2), some (vI x3), some (vI x4), some (vI (x5 + 0)), some (vI (x6 + 1))]) (pc' := 81) dX11_bird_78 rfl rfl (Nat.le_of_ble_eq_true rfl) rfl rfl ?_
      refine u_goto (tgt := 46) dX11_bird_81 (by decide) ?_
      exact u_less (ls' := [some (vR 140), some (vI x1), some (vI x2), some (vI x3), some (vI x4), some (vI (x5 + 0)), some (vI (x6 + 1))]) ⟨rfl, ⟨rfl, ⟨rfl, ⟨rfl, ⟨rfl, ⟨rfl, ⟨rfl, trivial⟩⟩⟩⟩⟩⟩⟩ h
    · have h := h.2 hb
      refine u_iconst (pc' := 71) dX11_bird_70 rfl ?_
      refine u_goto (tgt := 75) dX11_bird_71 (by decide) ?_
      refine u_iadd (pc' := 76) dX11_bird_75 rfl ?_
      refine s_istore (i := 5) (ls' := [some (vR 140), some (vI x1), some (vI x2), some (vI x3), some (vI x4), some (vI (x5 + 1)), some (vI x6)]) (pc' := 78) dX11_bird_76 rfl (Nat.le_of_ble_eq_true rfl) rfl rfl ?_
      refine s_iinc (i := 6) (ls' := [some (vR 140), some (vI x1), some (vI x2), some (vI x3), some (vI x4), some (vI (x5 + 1)), some (vI (x6 + 1))]) (pc' := 81) dX11_bird_78 rfl rfl (Nat.le_of_ble_eq_true rfl) rfl rfl ?_
      refine u_goto (tgt := 46) dX11_bird_81 (by decide) ?_
      exact u_less (ls' := [some (vR 140), some (vI x1), some (vI x2), some (vI x3), some (vI x4), some (vI (x5 + 1)), some (vI (x6 + 1))]) ⟨rfl, ⟨rfl, ⟨rfl, ⟨rfl, ⟨rfl, ⟨rfl, ⟨rfl, trivial⟩⟩⟩⟩⟩⟩⟩ h
set_option maxRecDepth 20000 in
theorem bX11_nights_0 {E : mm_Env} {d : Nat} {τ : mm_Mem} {Q : mm_Q0} {a0 : Int} (h : M0 E d qX11_is [vI a0, vI 1, vI 60] τ (fun v τ1 => ∃ b2 : Bool, v = some (vB b2) ∧ ((b2 = false → M0 E d qX11_refuses [vR 140, vI 3] τ1 (fun v τ3 => ∃ r4 : Int, v = some (vI r4) ∧ Q (some (vI r4)) τ3)) ∧ (b2 = true → 0 ≤ (τ1 140 12) ∧ (τ1 140 12) < 2 ∧ (((τ1 157 (τ1 140 12).toNat) ≠ 0 → V0 E (d + 1) qX11_nights 32 [some (vR 140), some (vI a0), some (vI 0), some (vI 0)] [] τ1 Q) ∧ ((τ1 157 (τ1 140 12).toNat) = 0 → M0 E d qX11_refuses [vR 140, vI 3] τ1 (fun v τ9 => ∃ r10 : Int, v = some (vI r10) ∧ Q (some (vI r10)) τ9))))))) : V0 E (d + 1) qX11_nights 0 [some (vR 140), some (vI a0), none, none] [] τ Q := by
  refine u_iload_n (i := 1) (pc' := 1) dX11_nights_0 rfl rfl rfl ?_
  refine u_iconst (pc' := 2) dX11_nights_1 rfl ?_
  refine u_bipush (pc' := 4) dX11_nights_2 rfl (by decide) ?_
  refine u_invS (q' := qX11_is) (As := [vI a0, vI 1, vI 60]) (st := []) (pc' := 7) dX11_nights_4 rfl gX11_is wm_1495 wm_1496 rfl (Nat.le_of_ble_eq_true rfl) (M0.mono h (fun v τ1 h => ?_))
  obtain ⟨b2, rfl, h⟩ := h
  show V0 E (d + 1) qX11_nights 7 [some (vR 140), some (vI a0), none, none] [vB b2] τ1 Q
  refine u_if_eq (tgt := 22) (pc' := 10) dX11_nights_7 rfl (by decide) (bI_R _) (fun hb => ?_) (fun hb => ?_)
  · have h := h.1 (bI_0.mp hb)
    refine u_aload_n (i := 0) (pc' := 23) dX11_nights_22 rfl rfl rfl ?_
    refine u_iconst (pc' := 24) dX11_nights_23 rfl ?_
    refine u_invV (q' := qX11_refuses) (As := [vI 3]) (st := []) (pc' := 27) dX11_nights_24 rfl gX11_refuses wm_1452 rfl rfl (by decide) kd_140 wm_1454 wp_72 rfl (Nat.le_of_ble_eq_true rfl) (M0.mono h (fun v τ3 h => ?_))
    obtain ⟨r4, rfl, h⟩ := h
    show V0 E (d + 1) qX11_nights 27 [some (vR 140), some (vI a0), none, none] [vI r4] τ3 Q
    exact u_iret dX11_nights_27 rfl h
  · have h := h.2 (bI_n0.mp hb)
    refine u_aload_n (i := 0) (pc' := 11) dX11_nights_10 rfl rfl rfl ?_
    refine u_getR (a := 157) (pc' := 14) dX11_nights_11 rfl fl_TuneDoorModel_97 rfl (by decide) kd_140 rfl ?_
    refine u_aload_n (i := 0) (pc' := 15) dX11_nights_14 rfl rfl rfl ?_
    refine u_getI (z := (τ1 140 12)) (pc' := 18) dX11_nights_15 rfl fl_TuneDoorModel_48 rfl (by decide) (by decide) kd_140 rfl (fun r5 => ?_)
    obtain ⟨c6, c7, h⟩ := h
    refine u_iaload (k := (τ1 140 12).toNat) (z := (τ1 157 (τ1 140 12).toNat)) (pc' := 19) dX11_nights_18 rfl (by decide) kd_157 c6 c7 (by decide) rfl rfl (fun r8 => ?_)
    refine u_if_ne (tgt := 28) (pc' := 22) dX11_nights_19 rfl (by decide) r8 (fun hb => ?_) (fun hb => ?_)
    · have h := h.1 hb
      refine u_iconst (pc' := 29) dX11_nights_28 rfl ?_
      refine s_istore_n (i := 2) (ls' := [some (vR 140), some (vI a0), some (vI 0), none]) (pc' := 30) dX11_nights_29 rfl rfl (Nat.le_of_ble_eq_true rfl) rfl rfl ?_
      refine u_iconst (pc' := 31) dX11_nights_30 rfl ?_
      refine s_istore_n (i := 3) (ls' := [some (vR 140), some (vI a0), some (vI 0), some (vI 0)]) (pc' := 32) dX11_nights_31 rfl rfl (Nat.le_of_ble_eq_true rfl) rfl rfl ?_
      exact u_less (ls' := [some (vR 140), some (vI a0), some (vI 0), some (vI 0)]) ⟨rfl, ⟨rfl, ⟨rfl, ⟨rfl, trivial⟩⟩⟩⟩ h
    · have h := h.2 hb
      refine u_aload_n (i := 0) (pc' := 23) dX11_nights_22 rfl rfl rfl ?_
      refine u_iconst (pc' := 24) dX11_nights_23 rfl ?_
      refine u_invV (q' := qX11_refuses) (As := [vI 3]) (st := []) (pc' := 27) dX11_nights_24 rfl gX11_refuses wm_1452 rfl rfl (by decide) kd_140 wm_1454 wp_72 rfl (Nat.le_of_ble_eq_true rfl) (M0.mono h (fun v τ9 h => ?_))
      obtain ⟨r10, rfl, h⟩ := h
      show V0 E (d + 1) qX11_nights 27 [some (vR 140), some (vI a0), none, none] [vI r10] τ9 Q
      exact u_iret dX11_nights_27 rfl h
theorem mX11_nights {E : mm_Env} {d : Nat} {τ : mm_Mem} {Q : mm_Q0} {a0 : Int} (h : M0 E d qX11_is [vI a0, vI 1, vI 60] τ (fun v τ1 => ∃ b2 : Bool, v = some (vB b2) ∧ ((b2 = false → M0 E d qX11_refuses [vR 140, vI 3] τ1 (fun v τ3 => ∃ r4 : Int, v = some (vI r4) ∧ Q (some (vI r4)) τ3)) ∧ (b2 = true → 0 ≤ (τ1 140 12) ∧ (τ1 140 12) < 2 ∧ (((τ1 157 (τ1 140 12).toNat) ≠ 0 → V0 E (d + 1) qX11_nights 32 [some (vR 140), some (vI a0), some (vI 0), some (vI 0)] [] τ1 Q) ∧ ((τ1 157 (τ1 140 12).toNat) = 0 → M0 E d qX11_refuses [vR 140, vI 3] τ1 (fun v τ9 => ∃ r10 : Int, v = some (vI r10) ∧ Q (some (vI r10)) τ9))))))) : M0 E (d + 1) qX11_nights [vR 140, vI a0] τ Q := M0_of rfl (Nat.le_of_ble_eq_true rfl) [some (vR 140), some (vI a0), none, none] rfl (bX11_nights_0  h)
set_option maxRecDepth 20000 in
theorem bX11_nights_32 {E : mm_Env} {d : Nat} {τ : mm_Mem} {Q : mm_Q0} {x1 : Int} {x2 : Int} {x3 : Int} (h : inR x3 ∧ inR x1 ∧ ((x1 ≤ x3 → Q (some (vI x2)) τ) ∧ (¬ x1 ≤ x3 → M0 E d qX11_night [vR 140] τ (fun v τ3 => ∃ r4 : Int, v = some (vI r4) ∧ V0 E (d + 1) qX11_nights 32 [some (vR 140), some (vI x1), some (vI (x2 + r4)), some (vI (x3 + 1))] [] τ3 Q)))) : V0 E (d + 1) qX11_nights 32 [some (vR 140), some (vI x1), some (vI x2), some (vI x3)] [] τ Q := by
  refine u_iload_n (i := 3) (pc' := 33) dX11_nights_32 rfl rfl rfl ?_
  refine u_iload_n (i := 1) (pc' := 34) dX11_nights_33 rfl rfl rfl ?_
  obtain ⟨c1, c2, h⟩ := h
  refine u_icmp_ge (tgt := 50) (pc' := 37) dX11_nights_34 rfl (by decide) c1 c2 (fun hb => ?_) (fun hb => ?_)
  · have h := h.1 hb
    refine u_iload_n (i := 2) (pc' := 51) dX11_nights_50 rfl rfl rfl ?_
    exact u_iret dX11_nights_51 rfl h
  · have h := h.2 hb
    refine u_iload_n (i := 2) (pc' := 38) dX11_nights_37 rfl rfl rfl ?_
    refine u_aload_n (i := 0) (pc' := 39) dX11_nights_38 rfl rfl rfl ?_
    refine u_invV (q' := qX11_night) (As := []) (st := [vI x2]) (pc' := 42) dX11_nights_39 rfl gX11_night wm_1938 rfl rfl (by decide) kd_140 wm_1940 wp_145 rfl (Nat.le_of_ble_eq_true rfl) (M0.mono h (fun v τ3 h => ?_))
    obtain ⟨r4, rfl, h⟩ := h
    show V0 E (d + 1) qX11_nights 42 [some (vR 140), some (vI x1), some (vI x2), some (vI x3)] [vI r4, vI x2] τ3 Q
    refine u_iadd (pc' := 43) dX11_nights_42 rfl ?_
    refine s_istore_n (i := 2) (ls' := [some (vR 140), some (vI x1), some (vI (x2 + r4)), some (vI x3)]) (pc' := 44) dX11_nights_43 rfl rfl (Nat.le_of_ble_eq_true rfl) rfl rfl ?_
    refine s_iinc (i := 3) (ls' := [some (vR 140), some (vI x1), some (vI (x2 + r4)), some (vI (x3 + 1))]) (pc' := 47) dX11_nights_44 rfl rfl (Nat.le_of_ble_eq_true rfl) rfl rfl ?_
    refine u_goto (tgt := 32) dX11_nights_47 (by decide) ?_
    exact u_less (ls' := [some (vR 140), some (vI x1), some (vI (x2 + r4)), some (vI (x3 + 1))]) ⟨rfl, ⟨rfl, ⟨rfl, ⟨rfl, trivial⟩⟩⟩⟩ h
set_option maxRecDepth 20000 in
theorem bX11_night_0 {E : mm_Env} {d : Nat} {τ : mm_Mem} {Q : mm_Q0}  (h : 0 ≤ (τ 140 12) ∧ (τ 140 12) < 2 ∧ M0 E d qX11_drawn [vR 140, vI (τ 157 (τ 140 12).toNat)] τ (fun v τ5 => ∃ r6 : Int, v = some (vI r6) ∧ M0 E d qX11_drawn [vR 140, vI 100] τ5 (fun v τ7 => ∃ r8 : Int, v = some (vI r8) ∧ M0 E d qX11_person4 [vR 140, vI r6] τ7 (fun v τ9 => ∃ r10 : Int, v = some (vI r10) ∧ 0 ≤ r10 ∧ r10 < 8 ∧ inR r8 ∧ (((τ9 161 r10.toNat) ≤ r8 → M0 E d qX11_canCome [vR 140, vI r6] τ9 (fun v τ15 => ∃ b16 : Bool, v = some (vB b16) ∧ ((b16 = false → V0 E (d + 1) qX11_night 85 [some (vR 140), some (vI r6), some (vB b16), none, none] [] τ15 Q) ∧ (b16 = true → M0 E d qX11_person4 [vR 140, vI r6] τ15 (fun v τ17 => ∃ r18 : Int, v = some (vI r18) ∧ 0 ≤ r18 ∧ r18 < 8 ∧ 0 ≤ r6 ∧ r6 < 4 ∧ M0 E d qX11_whistles [vR 140, vI (τ17 160 r18.toNat), vI (τ17 179 r6.toNat)] τ17 (fun v τ25 => v = none ∧ V0 E (d + 1) qX11_night 85 [some (vR 140), some (vI r6), some (vB b16), none, none] [] τ25 Q)))))) ∧ (¬ (τ9 161 r10.toNat) ≤ r8 → 0 ≤ r6 ∧ r6 < 4 ∧ ((1000 ≤ (τ9 179 r6.toNat) → M0 E d qX11_canCome [vR 140, vI r6] τ9 (fun v τ29 => ∃ b30 : Bool, v = some (vB b30) ∧ ((b30 = false → V0 E (d + 1) qX11_night 85 [some (vR 140), some (vI r6), some (vB b30), none, none] [] τ29 Q) ∧ (b30 = true → M0 E d qX11_person4 [vR 140, vI r6] τ29 (fun v τ31 => ∃ r32 : Int, v = some (vI r32) ∧ 0 ≤ r32 ∧ r32 < 8 ∧ 0 ≤ r6 ∧ r6 < 4 ∧ M0 E d qX11_whistles [vR 140, vI (τ31 160 r32.toNat), vI (τ31 179 r6.toNat)] τ31 (fun v τ39 => v = none ∧ V0 E (d + 1) qX11_night 85 [some (vR 140), some (vI r6), some (vB b30), none, none] [] τ39 Q)))))) ∧ (¬ 1000 ≤ (τ9 179 r6.toNat) → 0 ≤ r6 ∧ r6 < 4 ∧ 0 ≤ r6 ∧ r6 < 4 ∧ inR ((τ9 179 r6.toNat) + 1) ∧ M0 E d qX11_canCome [vR 140, vI r6] (wr τ9 179 r6.toNat ((τ9 179 r6.toNat) + 1)) (fun v τ46 => ∃ b47 : Bool, v = some (vB b47) ∧ ((b47 = false → V0 E (d + 1) qX11_night 85 [some (vR 140), some (vI r6), some (vB b47), none, none] [] τ46 Q) ∧ (b47 = true → M0 E d qX11_person4 [vR 140, vI r6] τ46 (fun v τ48 => ∃ r49 : Int, v = some (vI r49) ∧ 0 ≤ r49 ∧ r49 < 8 ∧ 0 ≤ r6 ∧ r6 < 4 ∧ M0 E d qX11_whistles [vR 140, vI (τ48 160 r49.toNat), vI (τ48 179 r6.toNat)] τ48 (fun v τ56 => v = none ∧ V0 E (d + 1) qX11_night 85 [some (vR 140), some (vI r6), some (vB b47), none, none] [] τ56 Q))))))))))))) : V0 E (d + 1) qX11_night 0 [some (vR 140), none, none, none, none] [] τ Q := by
  refine u_aload_n (i := 0) (pc' := 1) dX11_night_0 rfl rfl rfl ?_
  refine u_aload_n (i := 0) (pc' := 2) dX11_night_1 rfl rfl rfl ?_
  refine u_getR (a := 157) (pc' := 5) dX11_night_2 rfl fl_TuneDoorModel_97 rfl (by decide) kd_140 rfl ?_
  refine u_aload_n (i := 0) (pc' := 6) dX11_night_5 rfl rfl rfl ?_
  refine u_getI (z := (τ 140 12)) (pc' := 9) dX11_night_6 rfl fl_TuneDoorModel_48 rfl (by decide) (by decide) kd_140 rfl (fun r1 => ?_)
  obtain ⟨c2, c3, h⟩ := h
  refine u_iaload (k := (τ 140 12).toNat) (z := (τ 157 (τ 140 12).toNat)) (pc' := 10) dX11_night_9 rfl (by decide) kd_157 c2 c3 (by decide) rfl rfl (fun r4 => ?_)
  refine u_invV (q' := qX11_drawn) (As := [vI (τ 157 (τ 140 12).toNat)]) (st := []) (pc' := 13) dX11_night_10 rfl gX11_drawn wm_1942 rfl rfl (by decide) kd_140 wm_1944 wp_146 rfl (Nat.le_of_ble_eq_true rfl) (M0.mono h (fun v τ5 h => ?_))
  obtain ⟨r6, rfl, h⟩ := h
  show V0 E (d + 1) qX11_night 13 [some (vR 140), none, none, none, none] [vI r6] τ5 Q
  refine s_istore_n (i := 1) (ls' := [some (vR 140), some (vI r6), none, none, none]) (pc' := 14) dX11_night_13 rfl rfl (Nat.le_of_ble_eq_true rfl) rfl rfl ?_
  refine u_aload_n (i := 0) (pc' := 15) dX11_night_14 rfl rfl rfl ?_
  refine u_bipush (pc' := 17) dX11_night_15 rfl (by decide) ?_
  refine u_invV (q' := qX11_drawn) (As := [vI 100]) (st := []) (pc' := 20) dX11_night_17 rfl gX11_drawn wm_1942 rfl rfl (by decide) kd_140 wm_1944 wp_146 rfl (Nat.le_of_ble_eq_true rfl) (M0.mono h (fun v τ7 h => ?_))
  obtain ⟨r8, rfl, h⟩ := h
  show V0 E (d + 1) qX11_night 20 [some (vR 140), some (vI r6), none, none, none] [vI r8] τ7 Q
  refine u_aload_n (i := 0) (pc' := 21) dX11_night_20 rfl rfl rfl ?_
  refine u_getR (a := 161) (pc' := 24) dX11_night_21 rfl fl_TuneDoorModel_109 rfl (by decide) kd_140 rfl ?_
  refine u_aload_n (i := 0) (pc' := 25) dX11_night_24 rfl rfl rfl ?_
  refine u_iload_n (i := 1) (pc' := 26) dX11_night_25 rfl rfl rfl ?_
  refine u_invV (q' := qX11_person4) (As := [vI r6]) (st := [vR 161, vI r8]) (pc' := 29) dX11_night_26 rfl gX11_person4 wm_1692 rfl rfl (by decide) kd_140 wm_1694 wp_111 rfl (Nat.le_of_ble_eq_true rfl) (M0.mono h (fun v τ9 h => ?_))
  obtain ⟨r10, rfl, h⟩ := h
  show V0 E (d + 1) qX11_night 29 [some (vR 140), some (vI r6), none, none, none] [vI r10, vR 161, vI r8] τ9 Q
  obtain ⟨c11, c12, h⟩ := h
  refine u_iaload (k := r10.toNat) (z := (τ9 161 r10.toNat)) (pc' := 30) dX11_night_29 rfl (by decide) kd_161 c11 c12 (by decide) rfl rfl (fun r13 => ?_)
  obtain ⟨c14, h⟩ := h
  refine u_icmp_ge (tgt := 55) (pc' := 33) dX11_night_30 rfl (by decide) c14 r13 (fun hb => ?_) (fun hb => ?_)
  · have h := h.1 hb
    refine u_aload_n (i := 0) (pc' := 56) dX11_night_55 rfl rfl rfl ?_
    refine u_iload_n (i := 1) (pc' := 57) dX11_night_56 rfl rfl rfl ?_
    refine u_invV (q' := qX11_canCome) (As := [vI r6]) (st := []) (pc' := 60) dX11_night_57 rfl gX11_canCome wm_1739 rfl rfl (by decide) kd_140 wm_1741 wp_115 rfl (Nat.le_of_ble_eq_true rfl) (M0.mono h (fun v τ15 h => ?_))
    obtain ⟨b16, rfl, h⟩ := h
    show V0 E (d + 1) qX11_night 60 [some (vR 140), some (vI r6), none, none, none] [vB b16] τ15 Q
    refine s_istore_n (i := 2) (ls' := [some (vR 140), some (vI r6), some (vB b16), none, none]) (pc' := 61) dX11_night_60 rfl rfl (Nat.le_of_ble_eq_true rfl) rfl rfl ?_
    refine u_iload_n (i := 2) (pc' := 62) dX11_night_61 rfl rfl rfl ?_
    refine u_if_eq (tgt := 85) (pc' := 65) dX11_night_62 rfl (by decide) (bI_R _) (fun hb => ?_) (fun hb => ?_)
    · have h := h.1 (bI_0.mp hb)
      exact u_less (ls' := [some (vR 140), some (vI r6), some (vB b16), none, none]) ⟨rfl, ⟨rfl, ⟨rfl, trivial⟩⟩⟩ h
    · have h := h.2 (bI_n0.mp hb)
      refine u_aload_n (i := 0) (pc' := 66) dX11_night_65 rfl rfl rfl ?_
      refine u_aload_n (i := 0) (pc' := 67) dX11_night_66 rfl rfl rfl ?_
      refine u_getR (a := 160) (pc' := 70) dX11_night_67 rfl fl_TuneDoorModel_106 rfl (by decide) kd_140 rfl ?_
      refine u_aload_n (i := 0) (pc' := 71) dX11_night_70 rfl rfl rfl ?_
      refine u_iload_n (i := 1) (pc' := 72) dX11_night_71 rfl rfl rfl ?_
      refine u_invV (q' := qX11_person4) (As := [vI r6]) (st := [vR 160, vR 140]) (pc' := 75) dX11_night_72 rfl gX11_person4 wm_1692 rfl rfl (by decide) kd_140 wm_1694 wp_111 rfl (Nat.le_of_ble_eq_true rfl) (M0.mono h (fun v τ17 h => ?_))
      obtain ⟨r18, rfl, h⟩ := h
      show V0 E (d + 1) qX11_night 75 [some (vR 140), some (vI r6), some (vB b16), none, none] [vI r18, vR 160, vR 140] τ17 Q
      obtain ⟨c19, c20, h⟩ := h
      refine u_iaload (k := r18.toNat) (z := (τ17 160 r18.toNat)) (pc' := 76) dX11_night_75 rfl (by decide) kd_160 c19 c20 (by decide) rfl rfl (fun r21 => ?_)
      refine u_aload_n (i := 0) (pc' := 77) dX11_night_76 rfl rfl rfl ?_
      refine u_getR (a := 179) (pc' := 80) dX11_night_77 rfl fl_TuneDoorModel_183 rfl (by decide) kd_140 rfl ?_
      refine u_iload_n (i := 1) (pc' := 81) dX11_night_80 rfl rfl rfl ?_
      obtain ⟨c22, c23, h⟩ := h
      refine u_iaload (k := r6.toNat) (z := (τ17 179 r6.toNat)) (pc' := 82) dX11_night_81 rfl (by decide) kd_179 c22 c23 (by decide) rfl rfl (fun r24 => ?_)
      refine u_invV (q' := qX11_whistles) (As := [vI (τ17 160 r18.toNat), vI (τ17 179 r6.toNat)]) (st := []) (pc' := 85) dX11_night_82 rfl gX11_whistles wm_1747 rfl rfl (by decide) kd_140 wm_1749 wp_117 rfl (Nat.le_of_ble_eq_true rfl) (M0.mono h (fun v τ25 h => ?_))
      obtain ⟨rfl, h⟩ := h
      show V0 E (d + 1) qX11_night 85 [some (vR 140), some (vI r6), some (vB b16), none, none] [] τ25 Q
      exact u_less (ls' := [some (vR 140), some (vI r6), some (vB b16), none, none]) ⟨rfl, ⟨rfl, ⟨rfl, trivial⟩⟩⟩ h
  · have h := h.2 hb
    refine u_aload_n (i := 0) (pc' := 34) dX11_night_33 rfl rfl rfl ?_
    refine u_getR (a := 179) (pc' := 37) dX11_night_34 rfl fl_TuneDoorModel_183 rfl (by decide) kd_140 rfl ?_
    refine u_iload_n (i := 1) (pc' := 38) dX11_night_37 rfl rfl rfl ?_
    obtain ⟨c26, c27, h⟩ := h
    refine u_iaload (k := r6.toNat) (z := (τ9 179 r6.toNat)) (pc' := 39) dX11_night_38 rfl (by decide) kd_179 c26 c27 (by decide) rfl rfl (fun r28 => ?_)
    refine u_sipush (pc' := 42) dX11_night_39 rfl (by decide) ?_
    refine u_icmp_ge (tgt := 55) (pc' := 45) dX11_night_42 rfl (by decide) r28 ⟨by decide, by decide⟩ (fun hb => ?_) (fun hb => ?_)
    · have h := h.1 hb
      refine u_aload_n (i := 0) (pc' := 56) dX11_night_55 rfl rfl rfl ?_
      refine u_iload_n (i := 1) (pc' := 57) dX11_night_56 rfl rfl rfl ?_
      refine u_invV (q' := qX11_canCome) (As := [vI r6]) (st := []) (pc' := 60) dX11_night_57 rfl gX11_canCome wm_1739 rfl rfl (by decide) kd_140 wm_1741 wp_115 rfl (Nat.le_of_ble_eq_true rfl) (M0.mono h (fun v τ29 h => ?_))
      obtain ⟨b30, rfl, h⟩ := h
      show V0 E (d + 1) qX11_night 60 [some (vR 140), some (vI r6), none, none, none] [vB b30] τ29 Q
      refine s_istore_n (i := 2) (ls' := [some (vR 140), some (vI r6), some (vB b30), none, none]) (pc' := 61) dX11_night_60 rfl rfl (Nat.le_of_ble_eq_true rfl) rfl rfl ?_
      refine u_iload_n (i := 2) (pc' := 62) dX11_night_61 rfl rfl rfl ?_
      refine u_if_eq (tgt := 85) (pc' := 65) dX11_night_62 rfl (by decide) (bI_R _) (fun hb => ?_) (fun hb => ?_)
      · have h := h.1 (bI_0.mp hb)
        exact u_less (ls' := [some (vR 140), some (vI r6), some (vB b30), none, none]) ⟨rfl, ⟨rfl, ⟨rfl, trivial⟩⟩⟩ h
      · have h := h.2 (bI_n0.mp hb)
        refine u_aload_n (i := 0) (pc' := 66) dX11_night_65 rfl rfl rfl ?_
        refine u_aload_n (i := 0) (pc' := 67) dX11_night_66 rfl rfl rfl ?_
        refine u_getR (a := 160) (pc' := 70) dX11_night_67 rfl fl_TuneDoorModel_106 rfl (by decide) kd_140 rfl ?_
        refine u_aload_n (i := 0) (pc' := 71) dX11_night_70 rfl rfl rfl ?_
        refine u_iload_n (i := 1) (pc' := 72) dX11_night_71 rfl rfl rfl ?_
        refine u_invV (q' := qX11_person4) (As := [vI r6]) (st := [vR 160, vR 140]) (pc' := 75) dX11_night_72 rfl gX11_person4 wm_1692 rfl rfl (by decide) kd_140 wm_1694 wp_111 rfl (Nat.le_of_ble_eq_true rfl) (M0.mono h (fun v τ31 h => ?_))
        obtain ⟨r32, rfl, h⟩ := h
        show V0 E (d + 1) qX11_night 75 [some (vR 140), some (vI r6), some (vB b30), none, none] [vI r32, vR 160, vR 140] τ31 Q
        obtain ⟨c33, c34, h⟩ := h
        refine u_iaload (k := r32.toNat) (z := (τ31 160 r32.toNat)) (pc' := 76) dX11_night_75 rfl (by decide) kd_160 c33 c34 (by decide) rfl rfl (fun r35 => ?_)
        refine u_aload_n (i := 0) (pc' := 77) dX11_night_76 rfl rfl rfl ?_
        refine u_getR (a := 179) (pc' := 80) dX11_night_77 rfl fl_TuneDoorModel_183 rfl (by decide) kd_140 rfl ?_
        refine u_iload_n (i := 1) (pc' := 81) dX11_night_80 rfl rfl rfl ?_
        obtain ⟨c36, c37, h⟩ := h
        refine u_iaload (k := r6.toNat) (z := (τ31 179 r6.toNat)) (pc' := 82) dX11_night_81 rfl (by decide) kd_179 c36 c37 (by decide) rfl rfl (fun r38 => ?_)
        refine u_invV (q' := qX11_whistles) (As := [vI (τ31 160 r32.toNat), vI (τ31 179 r6.toNat)]) (st := []) (pc' := 85) dX11_night_82 rfl gX11_whistles wm_1747 rfl rfl (by decide) kd_140 wm_1749 wp_117 rfl (Nat.le_of_ble_eq_true rfl) (M0.mono h (fun v τ39 h => ?_))
        obtain ⟨rfl, h⟩ := h
        show V0 E (d + 1) qX11_night 85 [some (vR 140), some (vI r6), some (vB b30), none, none] [] τ39 Q
        exact u_less (ls' := [some (vR 140), some (vI r6), some (vB b30), none, none]) ⟨rfl, ⟨rfl, ⟨rfl, trivial⟩⟩⟩ h
    · have h := h.2 hb
      refine u_aload_n (i := 0) (pc' := 46) dX11_night_45 rfl rfl rfl ?_
      refine u_getR (a := 179) (pc' := 49) dX11_night_46 rfl fl_TuneDoorModel_183 rfl (by decide) kd_140 rfl ?_
      refine u_iload_n (i := 1) (pc' := 50) dX11_night_49 rfl rfl rfl ?_
      refine u_dup2 (pc' := 51) dX11_night_50 rfl (fun _ hh => by cases hh) (fun _ hh => by cases hh) ?_
      obtain ⟨c40, c41, h⟩ := h
      refine u_iaload (k := r6.toNat) (z := (τ9 179 r6.toNat)) (pc' := 52) dX11_night_51 rfl (by decide) kd_179 c40 c41 (by decide) rfl rfl (fun r42 => ?_)
      refine u_iconst (pc' := 53) dX11_night_52 rfl ?_
      refine u_iadd (pc' := 54) dX11_night_53 rfl ?_
      obtain ⟨c43, c44, c45, h⟩ := h
      refine u_iastore (k := r6.toNat) (pc' := 55) dX11_night_54 rfl (by decide) kd_179 c43 c44 (by decide) rfl c45 ?_
      refine u_aload_n (i := 0) (pc' := 56) dX11_night_55 rfl rfl rfl ?_
      refine u_iload_n (i := 1) (pc' := 57) dX11_night_56 rfl rfl rfl ?_
      refine u_invV (q' := qX11_canCome) (As := [vI r6]) (st := []) (pc' := 60) dX11_night_57 rfl gX11_canCome wm_1739 rfl rfl (by decide) kd_140 wm_1741 wp_115 rfl (Nat.le_of_ble_eq_true rfl) (M0.mono h (fun v τ46 h => ?_))
      obtain ⟨b47, rfl, h⟩ := h
      show V0 E (d + 1) qX11_night 60 [some (vR 140), some (vI r6), none, none, none] [vB b47] τ46 Q
      refine s_istore_n (i := 2) (ls' := [some (vR 140), some (vI r6), some (vB b47), none, none]) (pc' := 61) dX11_night_60 rfl rfl (Nat.le_of_ble_eq_true rfl) rfl rfl ?_
      refine u_iload_n (i := 2) (pc' := 62) dX11_night_61 rfl rfl rfl ?_
      refine u_if_eq (tgt := 85) (pc' := 65) dX11_night_62 rfl (by decide) (bI_R _) (fun hb => ?_) (fun hb => ?_)
      · have h := h.1 (bI_0.mp hb)
        exact u_less (ls' := [some (vR 140), some (vI r6), some (vB b47), none, none]) ⟨rfl, ⟨rfl, ⟨rfl, trivial⟩⟩⟩ h
      · have h := h.2 (bI_n0.mp hb)
        refine u_aload_n (i := 0) (pc' := 66) dX11_night_65 rfl rfl rfl ?_
        refine u_aload_n (i := 0) (pc' := 67) dX11_night_66 rfl rfl rfl ?_
        refine u_getR (a := 160) (pc' := 70) dX11_night_67 rfl fl_TuneDoorModel_106 rfl (by decide) kd_140 rfl ?_
        refine u_aload_n (i := 0) (pc' := 71) dX11_night_70 rfl rfl rfl ?_
        refine u_iload_n (i := 1) (pc' := 72) dX11_night_71 rfl rfl rfl ?_
        refine u_invV (q' := qX11_person4) (As := [vI r6]) (st := [vR 160, vR 140]) (pc' := 75) dX11_night_72 rfl gX11_person4 wm_1692 rfl rfl (by decide) kd_140 wm_1694 wp_111 rfl (Nat.le_of_ble_eq_true rfl) (M0.mono h (fun v τ48 h => ?_))
        obtain ⟨r49, rfl, h⟩ := h
        show V0 E (d + 1) qX11_night 75 [some (vR 140), some (vI r6), some (vB b47), none, none] [vI r49, vR 160, vR 140] τ48 Q
        obtain ⟨c50, c51, h⟩ := h
        refine u_iaload (k := r49.toNat) (z := (τ48 160 r49.toNat)) (pc' := 76) dX11_night_75 rfl (by decide) kd_160 c50 c51 (by decide) rfl rfl (fun r52 => ?_)
        refine u_aload_n (i := 0) (pc' := 77) dX11_night_76 rfl rfl rfl ?_
        refine u_getR (a := 179) (pc' := 80) dX11_night_77 rfl fl_TuneDoorModel_183 rfl (by decide) kd_140 rfl ?_
        refine u_iload_n (i := 1) (pc' := 81) dX11_night_80 rfl rfl rfl ?_
        obtain ⟨c53, c54, h⟩ := h
        refine u_iaload (k := r6.toNat) (z := (τ48 179 r6.toNat)) (pc' := 82) dX11_night_81 rfl (by decide) kd_179 c53 c54 (by decide) rfl rfl (fun r55 => ?_)
        refine u_invV (q' := qX11_whistles) (As := [vI (τ48 160 r49.toNat), vI (τ48 179 r6.toNat)]) (st := []) (pc' := 85) dX11_night_82 rfl gX11_whistles wm_1747 rfl rfl (by decide) kd_140 wm_1749 wp_117 rfl (Nat.le_of_ble_eq_true rfl) (M0.mono h (fun v τ56 h => ?_))
        obtain ⟨rfl, h⟩ := h
        show V0 E (d + 1) qX11_night 85 [some (vR 140), some (vI r6), some (vB b47), none, none] [] τ56 Q
        exact u_less (ls' := [some (vR 140), some (vI r6), some (vB b47), none, none]) ⟨rfl, ⟨rfl, ⟨rfl, trivial⟩⟩⟩ h
theorem mX11_night {E : mm_Env} {d : Nat} {τ : mm_Mem} {Q : mm_Q0}  (h : 0 ≤ (τ 140 12) ∧ (τ 140 12) < 2 ∧ M0 E d qX11_drawn [vR 140, vI (τ 157 (τ 140 12).toNat)] τ (fun v τ5 => ∃ r6 : Int, v = some (vI r6) ∧ M0 E d qX11_drawn [vR 140, vI 100] τ5 (fun v τ7 => ∃ r8 : Int, v = some (vI r8) ∧ M0 E d qX11_person4 [vR 140, vI r6] τ7 (fun v τ9 => ∃ r10 : Int, v = some (vI r10) ∧ 0 ≤ r10 ∧ r10 < 8 ∧ inR r8 ∧ (((τ9 161 r10.toNat) ≤ r8 → M0 E d qX11_canCome [vR 140, vI r6] τ9 (fun v τ15 => ∃ b16 : Bool, v = some (vB b16) ∧ ((b16 = false → V0 E (d + 1) qX11_night 85 [some (vR 140), some (vI r6), some (vB b16), none, none] [] τ15 Q) ∧ (b16 = true → M0 E d qX11_person4 [vR 140, vI r6] τ15 (fun v τ17 => ∃ r18 : Int, v = some (vI r18) ∧ 0 ≤ r18 ∧ r18 < 8 ∧ 0 ≤ r6 ∧ r6 < 4 ∧ M0 E d qX11_whistles [vR 140, vI (τ17 160 r18.toNat), vI (τ17 179 r6.toNat)] τ17 (fun v τ25 => v = none ∧ V0 E (d + 1) qX11_night 85 [some (vR 140), some (vI r6), some (vB b16), none, none] [] τ25 Q)))))) ∧ (¬ (τ9 161 r10.toNat) ≤ r8 → 0 ≤ r6 ∧ r6 < 4 ∧ ((1000 ≤ (τ9 179 r6.toNat) → M0 E d qX11_canCome [vR 140, vI r6] τ9 (fun v τ29 => ∃ b30 : Bool, v = some (vB b30) ∧ ((b30 = false → V0 E (d + 1) qX11_night 85 [some (vR 140), some (vI r6), some (vB b30), none, none] [] τ29 Q) ∧ (b30 = true → M0 E d qX11_person4 [vR 140, vI r6] τ29 (fun v τ31 => ∃ r32 : Int, v = some (vI r32) ∧ 0 ≤ r32 ∧ r32 < 8 ∧ 0 ≤ r6 ∧ r6 < 4 ∧ M0 E d qX11_whistles [vR 140, vI (τ31 160 r32.toNat), vI (τ31 179 r6.toNat)] τ31 (fun v τ39 => v = none ∧ V0 E (d + 1) qX11_night 85 [some (vR 140), some (vI r6), some (vB b30), none, none] [] τ39 Q)))))) ∧ (¬ 1000 ≤ (τ9 179 r6.toNat) → 0 ≤ r6 ∧ r6 < 4 ∧ 0 ≤ r6 ∧ r6 < 4 ∧ inR ((τ9 179 r6.toNat) + 1) ∧ M0 E d qX11_canCome [vR 140, vI r6] (wr τ9 179 r6.toNat ((τ9 179 r6.toNat) + 1)) (fun v τ46 => ∃ b47 : Bool, v = some (vB b47) ∧ ((b47 = false → V0 E (d + 1) qX11_night 85 [some (vR 140), some (vI r6), some (vB b47), none, none] [] τ46 Q) ∧ (b47 = true → M0 E d qX11_person4 [vR 140, vI r6] τ46 (fun v τ48 => ∃ r49 : Int, v = some (vI r49) ∧ 0 ≤ r49 ∧ r49 < 8 ∧ 0 ≤ r6 ∧ r6 < 4 ∧ M0 E d qX11_whistles [vR 140, vI (τ48 160 r49.toNat), vI (τ48 179 r6.toNat)] τ48 (fun v τ56 => v = none ∧ V0 E (d + 1) qX11_night 85 [some (vR 140), some (vI r6), some (vB b47), none, none] [] τ56 Q))))))))))))) : M0 E (d + 1) qX11_night [vR 140] τ Q := M0_of rfl (Nat.le_of_ble_eq_true rfl) [some (vR 140), none, none, none, none] rfl (bX11_night_0  h)
set_option maxRecDepth 20000 in
theorem bX11_night_85 {E : mm_Env} {d : Nat} {τ : mm_Mem} {Q : mm_Q0} {x1 : Int} {x2 : Bool} (h : M0 E d qX11_drawn [vR 140, vI 100] τ (fun v τ1 => ∃ r2 : Int, v = some (vI r2) ∧ M0 E d qX11_person4 [vR 140, vI x1] τ1 (fun v τ3 => ∃ r4 : Int, v = some (vI r4) ∧ 0 ≤ r4 ∧ r4 < 8 ∧ inR r2 ∧ (((τ3 162 r4.toNat) ≤ r2 → ((x2 = false → Q (some (vI 0)) τ3) ∧ (x2 = true → M0 E d qX11_comes [vR 140, vI x1] τ3 (fun v τ9 => ∃ r10 : Int, v = some (vI r10) ∧ inR r10 ∧ ((r10 = (-1) → Q (some (vI 0)) τ9) ∧ (¬ r10 = (-1) → Q (some (vI 1)) τ9)))))) ∧ (¬ (τ3 162 r4.toNat) ≤ r2 → 0 ≤ (τ3 140 12) ∧ (τ3 140 12) < 2 ∧ M0 E d qX11_drawn [vR 140, vI (τ3 143 (τ3 140 12).toNat)] τ3 (fun v τ16 => ∃ r17 : Int, v = some (vI r17) ∧ 0 ≤ (τ16 140 12) ∧ (τ16 140 12) < 2 ∧ M0 E d qX11_drawn [vR 140, vI ((τ16 142 (τ16 140 12).toNat) - 1)] τ16 (fun v τ22 => ∃ r23 : Int, v = some (vI r23) ∧ ((x2 = false → V0 E (d + 1) qX11_night 166 [some (vR 140), some (vI x1), some (vB x2), none, none] [] τ22 Q) ∧ (x2 = true → 0 ≤ r17 ∧ r17 < 5 ∧ 0 ≤ (τ22 140 12) ∧ (τ22 140 12) < 2 ∧ inR ((τ22 188 r17.toNat) + (r23 + 1)) ∧ (τ22 142 (τ22 140 12).toNat) ≠ 0 ∧ 0 ≤ r17 ∧ r17 < 5 ∧ inR (Int.tmod ((τ22 188 r17.toNat) + (r23 + 1)) (τ22 142 (τ22 140 12).toNat)) ∧ V0 E (d + 1) qX11_night 166 [some (vR 140), some (vI x1), some (vB x2), none, none] [] (wr τ22 188 r17.toNat (Int.tmod ((τ22 188 r17.toNat) + (r23 + 1)) (τ22 142 (τ22 140 12).toNat))) Q))))))))) : V0 E (d + 1) qX11_night 85 [some (vR 140), some (vI x1), some (vB x2), none, none] [] τ Q := by
  refine u_aload_n (i := 0) (pc' := 86) dX11_night_85 rfl rfl rfl ?_
  refine u_bipush (pc' := 88) dX11_night_86 rfl (by decide) ?_
  refine u_invV (q' := qX11_drawn) (As := [vI 100]) (st := []) (pc' := 91) dX11_night_88 rfl gX11_drawn wm_1942 rfl rfl (by decide) kd_140 wm_1944 wp_146 rfl (Nat.le_of_ble_eq_true rfl) (M0.mono h (fun v τ1 h => ?_))
  obtain ⟨r2, rfl, h⟩ := h
  show V0 E (d + 1) qX11_night 91 [some (vR 140), some (vI x1), some (vB x2), none, none] [vI r2] τ1 Q
  refine u_aload_n (i := 0) (pc' := 92) dX11_night_91 rfl rfl rfl ?_
  refine u_getR (a := 162) (pc' := 95) dX11_night_92 rfl fl_TuneDoorModel_112 rfl (by decide) kd_140 rfl ?_
  refine u_aload_n (i := 0) (pc' := 96) dX11_night_95 rfl rfl rfl ?_
  refine u_iload_n (i := 1) (pc' := 97) dX11_night_96 rfl rfl rfl ?_
  refine u_invV (q' := qX11_person4) (As := [vI x1]) (st := [vR 162, vI r2]) (pc' := 100) dX11_night_97 rfl gX11_person4 wm_1692 rfl rfl (by decide) kd_140 wm_1694 wp_111 rfl (Nat.le_of_ble_eq_true rfl) (M0.mono h (fun v τ3 h => ?_))
  obtain ⟨r4, rfl, h⟩ := h
  show V0 E (d + 1) qX11_night 100 [some (vR 140), some (vI x1), some (vB x2), none, none] [vI r4, vR 162, vI r2] τ3 Q
  obtain ⟨c5, c6, h⟩ := h
  refine u_iaload (k := r4.toNat) (z := (τ3 162 r4.toNat)) (pc' := 101) dX11_night_100 rfl (by decide) kd_162 c5 c6 (by decide) rfl rfl (fun r7 => ?_)
  obtain ⟨c8, h⟩ := h
  refine u_icmp_ge (tgt := 174) (pc' := 104) dX11_night_101 rfl (by decide) c8 r7 (fun hb => ?_) (fun hb => ?_)
  · have h := h.1 hb
    refine u_iload_n (i := 2) (pc' := 175) dX11_night_174 rfl rfl rfl ?_
    refine u_if_eq (tgt := 191) (pc' := 178) dX11_night_175 rfl (by decide) (bI_R _) (fun hb => ?_) (fun hb => ?_)
    · have h := h.1 (bI_0.mp hb)
      refine u_iconst (pc' := 192) dX11_night_191 rfl ?_
      exact u_iret dX11_night_192 rfl h
    · have h := h.2 (bI_n0.mp hb)
      refine u_aload_n (i := 0) (pc' := 179) dX11_night_178 rfl rfl rfl ?_
      refine u_iload_n (i := 1) (pc' := 180) dX11_night_179 rfl rfl rfl ?_
      refine u_invV (q' := qX11_comes) (As := [vI x1]) (st := []) (pc' := 183) dX11_night_180 rfl gX11_comes wm_1751 rfl rfl (by decide) kd_140 wm_1753 wp_118 rfl (Nat.le_of_ble_eq_true rfl) (M0.mono h (fun v τ9 h => ?_))
      obtain ⟨r10, rfl, h⟩ := h
      show V0 E (d + 1) qX11_night 183 [some (vR 140), some (vI x1), some (vB x2), none, none] [vI r10] τ9 Q
      refine u_iconst (pc' := 184) dX11_night_183 rfl ?_
      obtain ⟨c11, h⟩ := h
      refine u_icmp_eq (tgt := 191) (pc' := 187) dX11_night_184 rfl (by decide) c11 ⟨by decide, by decide⟩ (fun hb => ?_) (fun hb => ?_)
      · have h := h.1 hb
        refine u_iconst (pc' := 192) dX11_night_191 rfl ?_
        exact u_iret dX11_night_192 rfl h
      · have h := h.2 hb
        refine u_iconst (pc' := 188) dX11_night_187 rfl ?_
        refine u_goto (tgt := 192) dX11_night_188 (by decide) ?_
        exact u_iret dX11_night_192 rfl h
  · have h := h.2 hb
    refine u_aload_n (i := 0) (pc' := 105) dX11_night_104 rfl rfl rfl ?_
    refine u_aload_n (i := 0) (pc' := 106) dX11_night_105 rfl rfl rfl ?_
    refine u_getR (a := 143) (pc' := 109) dX11_night_106 rfl fl_TuneDoorModel_54 rfl (by decide) kd_140 rfl ?_
    refine u_aload_n (i := 0) (pc' := 110) dX11_night_109 rfl rfl rfl ?_
    refine u_getI (z := (τ3 140 12)) (pc' := 113) dX11_night_110 rfl fl_TuneDoorModel_48 rfl (by decide) (by decide) kd_140 rfl (fun r12 => ?_)
    obtain ⟨c13, c14, h⟩ := h
    refine u_iaload (k := (τ3 140 12).toNat) (z := (τ3 143 (τ3 140 12).toNat)) (pc' := 114) dX11_night_113 rfl (by decide) kd_143 c13 c14 (by decide) rfl rfl (fun r15 => ?_)
    refine u_invV (q' := qX11_drawn) (As := [vI (τ3 143 (τ3 140 12).toNat)]) (st := []) (pc' := 117) dX11_night_114 rfl gX11_drawn wm_1942 rfl rfl (by decide) kd_140 wm_1944 wp_146 rfl (Nat.le_of_ble_eq_true rfl) (M0.mono h (fun v τ16 h => ?_))
    obtain ⟨r17, rfl, h⟩ := h
    show V0 E (d + 1) qX11_night 117 [some (vR 140), some (vI x1), some (vB x2), none, none] [vI r17] τ16 Q
    refine s_istore_n (i := 3) (ls' := [some (vR 140), some (vI x1), some (vB x2), some (vI r17), none]) (pc' := 118) dX11_night_117 rfl rfl (Nat.le_of_ble_eq_true rfl) rfl rfl ?_
    refine u_aload_n (i := 0) (pc' := 119) dX11_night_118 rfl rfl rfl ?_
    refine u_aload_n (i := 0) (pc' := 120) dX11_night_119 rfl rfl rfl ?_
    refine u_getR (a := 142) (pc' := 123) dX11_night_120 rfl fl_TuneDoorModel_51 rfl (by decide) kd_140 rfl ?_
    refine u_aload_n (i := 0) (pc' := 124) dX11_night_123 rfl rfl rfl ?_
    refine u_getI (z := (τ16 140 12)) (pc' := 127) dX11_night_124 rfl fl_TuneDoorModel_48 rfl (by decide) (by decide) kd_140 rfl (fun r18 => ?_)
    obtain ⟨c19, c20, h⟩ := h
    refine u_iaload (k := (τ16 140 12).toNat) (z := (τ16 142 (τ16 140 12).toNat)) (pc' := 128) dX11_night_127 rfl (by decide) kd_142 c19 c20 (by decide) rfl rfl (fun r21 => ?_)
    refine u_iconst (pc' := 129) dX11_night_128 rfl ?_
    refine u_isub (pc' := 130) dX11_night_129 rfl ?_
    refine u_invV (q' := qX11_drawn) (As := [vI ((τ16 142 (τ16 140 12).toNat) - 1)]) (st := []) (pc' := 133) dX11_night_130 rfl gX11_drawn wm_1942 rfl rfl (by decide) kd_140 wm_1944 wp_146 rfl (Nat.le_of_ble_eq_true rfl) (M0.mono h (fun v τ22 h => ?_))
    obtain ⟨r23, rfl, h⟩ := h
    show V0 E (d + 1) qX11_night 133 [some (vR 140), some (vI x1), some (vB x2), some (vI r17), none] [vI r23] τ22 Q
    refine u_iconst (pc' := 134) dX11_night_133 rfl ?_
    refine u_iadd (pc' := 135) dX11_night_134 rfl ?_
    refine s_istore (i := 4) (ls' := [some (vR 140), some (vI x1), some (vB x2), some (vI r17), some (vI (r23 + 1))]) (pc' := 137) dX11_night_135 rfl (Nat.le_of_ble_eq_true rfl) rfl rfl ?_
    refine u_iload_n (i := 2) (pc' := 138) dX11_night_137 rfl rfl rfl ?_
    refine u_if_eq (tgt := 166) (pc' := 141) dX11_night_138 rfl (by decide) (bI_R _) (fun hb => ?_) (fun hb => ?_)
    · have h := h.1 (bI_0.mp hb)
      exact u_less (ls' := [some (vR 140), some (vI x1), some (vB x2), none, none]) ⟨rfl, ⟨rfl, ⟨rfl, trivial⟩⟩⟩ h
    · have h := h.2 (bI_n0.mp hb)
      refine u_aload_n (i := 0) (pc' := 142) dX11_night_141 rfl rfl rfl ?_
      refine u_getR (a := 188) (pc' := 145) dX11_night_142 rfl fl_TuneDoorModel_210 rfl (by decide) kd_140 rfl ?_
      refine u_iload_n (i := 3) (pc' := 146) dX11_night_145 rfl rfl rfl ?_
      refine u_aload_n (i := 0) (pc' := 147) dX11_night_146 rfl rfl rfl ?_
      refine u_getR (a := 188) (pc' := 150) dX11_night_147 rfl fl_TuneDoorModel_210 rfl (by decide) kd_140 rfl ?_
      refine u_iload_n (i := 3) (pc' := 151) dX11_night_150 rfl rfl rfl ?_
      obtain ⟨c24, c25, h⟩ := h
      refine u_iaload (k := r17.toNat) (z := (τ22 188 r17.toNat)) (pc' := 152) dX11_night_151 rfl (by decide) kd_188 c24 c25 (by decide) rfl rfl (fun r26 => ?_)
      refine u_iload (i := 4) (pc' := 154) dX11_night_152 rfl rfl ?_
      refine u_iadd (pc' := 155) dX11_night_154 rfl ?_
      refine u_aload_n (i := 0) (pc' := 156) dX11_night_155 rfl rfl rfl ?_
      refine u_getR (a := 142) (pc' := 159) dX11_night_156 rfl fl_TuneDoorModel_51 rfl (by decide) kd_140 rfl ?_
      refine u_aload_n (i := 0) (pc' := 160) dX11_night_159 rfl rfl rfl ?_
      refine u_getI (z := (τ22 140 12)) (pc' := 163) dX11_night_160 rfl fl_TuneDoorModel_48 rfl (by decide) (by decide) kd_140 rfl (fun r27 => ?_)
      obtain ⟨c28, c29, h⟩ := h
      refine u_iaload (k := (τ22 140 12).toNat) (z := (τ22 142 (τ22 140 12).toNat)) (pc' := 164) dX11_night_163 rfl (by decide) kd_142 c28 c29 (by decide) rfl rfl (fun r30 => ?_)
      obtain ⟨c31, c32, h⟩ := h
      refine u_irem (pc' := 165) dX11_night_164 rfl c31 r30 c32 ?_
      obtain ⟨c33, c34, c35, h⟩ := h
      refine u_iastore (k := r17.toNat) (pc' := 166) dX11_night_165 rfl (by decide) kd_188 c33 c34 (by decide) rfl c35 ?_
      exact u_less (ls' := [some (vR 140), some (vI x1), some (vB x2), none, none]) ⟨rfl, ⟨rfl, ⟨rfl, trivial⟩⟩⟩ h
set_option maxRecDepth 20000 in
theorem bX11_night_166 {E : mm_Env} {d : Nat} {τ : mm_Mem} {Q : mm_Q0} {x1 : Int} {x2 : Bool} (h : ((x2 = false → ((x2 = false → Q (some (vI 0)) τ) ∧ (x2 = true → M0 E d qX11_comes [vR 140, vI x1] τ (fun v τ1 => ∃ r2 : Int, v = some (vI r2) ∧ inR r2 ∧ ((r2 = (-1) → Q (some (vI 0)) τ1) ∧ (¬ r2 = (-1) → Q (some (vI 1)) τ1)))))) ∧ (x2 = true → M0 E d qX11_numbers [vR 140] τ (fun v τ4 => v = none ∧ ((x2 = false → Q (some (vI 0)) τ4) ∧ (x2 = true → M0 E d qX11_comes [vR 140, vI x1] τ4 (fun v τ5 => ∃ r6 : Int, v = some (vI r6) ∧ inR r6 ∧ ((r6 = (-1) → Q (some (vI 0)) τ5) ∧ (¬ r6 = (-1) → Q (some (vI 1)) τ5))))))))) : V0 E (d + 1) qX11_night 166 [some (vR 140), some (vI x1), some (vB x2), none, none] [] τ Q := by
  refine u_iload_n (i := 2) (pc' := 167) dX11_night_166 rfl rfl rfl ?_
  refine u_if_eq (tgt := 174) (pc' := 170) dX11_night_167 rfl (by decide) (bI_R _) (fun hb => ?_) (fun hb => ?_)
  · have h := h.1 (bI_0.mp hb)
    refine u_iload_n (i := 2) (pc' := 175) dX11_night_174 rfl rfl rfl ?_
    refine u_if_eq (tgt := 191) (pc' := 178) dX11_night_175 rfl (by decide) (bI_R _) (fun hb => ?_) (fun hb => ?_)
    · have h := h.1 (bI_0.mp hb)
      refine u_iconst (pc' := 192) dX11_night_191 rfl ?_
      exact u_iret dX11_night_192 rfl h
    · have h := h.2 (bI_n0.mp hb)
      refine u_aload_n (i := 0) (pc' := 179) dX11_night_178 rfl rfl rfl ?_
      refine u_iload_n (i := 1) (pc' := 180) dX11_night_179 rfl rfl rfl ?_
      refine u_invV (q' := qX11_comes) (As := [vI x1]) (st := []) (pc' := 183) dX11_night_180 rfl gX11_comes wm_1751 rfl rfl (by decide) kd_140 wm_1753 wp_118 rfl (Nat.le_of_ble_eq_true rfl) (M0.mono h (fun v τ1 h => ?_))
      obtain ⟨r2, rfl, h⟩ := h
      show V0 E (d + 1) qX11_night 183 [some (vR 140), some (vI x1), some (vB x2), none, none] [vI r2] τ1 Q
      refine u_iconst (pc' := 184) dX11_night_183 rfl ?_
      obtain ⟨c3, h⟩ := h
      refine u_icmp_eq (tgt := 191) (pc' := 187) dX11_night_184 rfl (by decide) c3 ⟨by decide, by decide⟩ (fun hb => ?_) (fun hb => ?_)
      · have h := h.1 hb
        refine u_iconst (pc' := 192) dX11_night_191 rfl ?_
        exact u_iret dX11_night_192 rfl h
      · have h := h.2 hb
        refine u_iconst (pc' := 188) dX11_night_187 rfl ?_
        refine u_goto (tgt := 192) dX11_night_188 (by decide) ?_
        exact u_iret dX11_night_192 rfl h
  · have h := h.2 (bI_n0.mp hb)
    refine u_aload_n (i := 0) (pc' := 171) dX11_night_170 rfl rfl rfl ?_
    refine u_invV (q' := qX11_numbers) (As := []) (st := []) (pc' := 174) dX11_night_171 rfl gX11_numbers wm_1783 rfl rfl (by decide) kd_140 wm_1785 wp_125 rfl (Nat.le_of_ble_eq_true rfl) (M0.mono h (fun v τ4 h => ?_))
    obtain ⟨rfl, h⟩ := h
    show V0 E (d + 1) qX11_night 174 [some (vR 140), some (vI x1), some (vB x2), none, none] [] τ4 Q
    refine u_iload_n (i := 2) (pc' := 175) dX11_night_174 rfl rfl rfl ?_
    refine u_if_eq (tgt := 191) (pc' := 178) dX11_night_175 rfl (by decide) (bI_R _) (fun hb => ?_) (fun hb => ?_)
    · have h := h.1 (bI_0.mp hb)
      refine u_iconst (pc' := 192) dX11_night_191 rfl ?_
      exact u_iret dX11_night_192 rfl h
    · have h := h.2 (bI_n0.mp hb)
      refine u_aload_n (i := 0) (pc' := 179) dX11_night_178 rfl rfl rfl ?_
      refine u_iload_n (i := 1) (pc' := 180) dX11_night_179 rfl rfl rfl ?_
      refine u_invV (q' := qX11_comes) (As := [vI x1]) (st := []) (pc' := 183) dX11_night_180 rfl gX11_comes wm_1751 rfl rfl (by decide) kd_140 wm_1753 wp_118 rfl (Nat.le_of_ble_eq_true rfl) (M0.mono h (fun v τ5 h => ?_))
      obtain ⟨r6, rfl, h⟩ := h
      show V0 E (d + 1) qX11_night 183 [some (vR 140), some (vI x1), some (vB x2), none, none] [vI r6] τ5 Q
      refine u_iconst (pc' := 184) dX11_night_183 rfl ?_
      obtain ⟨c7, h⟩ := h
      refine u_icmp_eq (tgt := 191) (pc' := 187) dX11_night_184 rfl (by decide) c7 ⟨by decide, by decide⟩ (fun hb => ?_) (fun hb => ?_)
      · have h := h.1 hb
        refine u_iconst (pc' := 192) dX11_night_191 rfl ?_
        exact u_iret dX11_night_192 rfl h
      · have h := h.2 hb
        refine u_iconst (pc' := 188) dX11_night_187 rfl ?_
        refine u_goto (tgt := 192) dX11_night_188 (by decide) ?_
        exact u_iret dX11_night_192 rfl h
set_option maxRecDepth 20000 in
theorem bX11_drawn_0 {E : mm_Env} {d : Nat} {τ : mm_Mem} {Q : mm_Q0} {a0 : Int} (h : inL ((1103515245 * (τ 140 71)) + 12345) ∧ inL (Int.tmod ((1103515245 * (τ 140 71)) + 12345) 2147483648) ∧ inR a0 ∧ inL (Int.tdiv (Int.tmod ((1103515245 * (τ 140 71)) + 12345) 2147483648) 64) ∧ a0 ≠ 0 ∧ inL (Int.tmod (Int.tdiv (Int.tmod ((1103515245 * (τ 140 71)) + 12345) 2147483648) 64) a0) ∧ Q (some (vI (Int.tmod (Int.tdiv (Int.tmod ((1103515245 * (τ 140 71)) + 12345) 2147483648) 64) a0))) (wr τ 140 71 (Int.tmod ((1103515245 * (τ 140 71)) + 12345) 2147483648))) : V0 E d qX11_drawn 0 [some (vR 140), some (vI a0)] [] τ Q := by
  refine u_aload_n (i := 0) (pc' := 1) dX11_drawn_0 rfl rfl rfl ?_
  refine u_ldc2 (z := 1103515245) (pc' := 4) dX11_drawn_1 rfl wm_1946 (by decide) ?_
  refine u_aload_n (i := 0) (pc' := 5) dX11_drawn_4 rfl rfl rfl ?_
  refine u_getL (z := (τ 140 71)) (pc' := 8) dX11_drawn_5 rfl fl_TuneDoorModel_228 rfl rfl (by decide) kd_140 rfl ?_
  refine u_lmul (pc' := 9) dX11_drawn_8 rfl ?_
  refine u_ldc2 (z := 12345) (pc' := 12) dX11_drawn_9 rfl wm_1947 (by decide) ?_
  refine u_ladd (pc' := 13) dX11_drawn_12 rfl ?_
  refine u_ldc2 (z := 2147483648) (pc' := 16) dX11_drawn_13 rfl wm_1948 (by decide) ?_
  obtain ⟨c1, h⟩ := h
  refine u_lrem (pc' := 17) dX11_drawn_16 rfl c1 ⟨by decide, by decide⟩ (by decide) ?_
  refine u_putL (pc' := 20) dX11_drawn_17 rfl fl_TuneDoorModel_228 rfl rfl rfl (by decide) kd_140 ?_
  refine u_aload_n (i := 0) (pc' := 21) dX11_drawn_20 rfl rfl rfl ?_
  refine u_getL (z := (Int.tmod ((1103515245 * (τ 140 71)) + 12345) 2147483648)) (pc' := 24) dX11_drawn_21 rfl fl_TuneDoorModel_228 rfl rfl (by decide) kd_140 rfl ?_
  refine u_ldc2 (z := 64) (pc' := 27) dX11_drawn_24 rfl wm_1949 (by decide) ?_
  obtain ⟨c2, h⟩ := h
  refine u_ldiv (pc' := 28) dX11_drawn_27 rfl c2 ⟨by decide, by decide⟩ (by decide) ?_
  refine u_iload_n (i := 1) (pc' := 29) dX11_drawn_28 rfl rfl rfl ?_
  obtain ⟨c3, h⟩ := h
  refine u_i2l (pc' := 30) dX11_drawn_29 rfl c3 ?_
  obtain ⟨c4, c5, h⟩ := h
  refine u_lrem (pc' := 31) dX11_drawn_30 rfl c4 (inL_R c3) c5 ?_
  obtain ⟨c6, h⟩ := h
  refine u_l2i (pc' := 32) dX11_drawn_31 rfl c6 ?_
  exact u_iret dX11_drawn_32 rfl h
theorem mX11_drawn {E : mm_Env} {d : Nat} {τ : mm_Mem} {Q : mm_Q0} {a0 : Int} (h : inL ((1103515245 * (τ 140 71)) + 12345) ∧ inL (Int.tmod ((1103515245 * (τ 140 71)) + 12345) 2147483648) ∧ inR a0 ∧ inL (Int.tdiv (Int.tmod ((1103515245 * (τ 140 71)) + 12345) 2147483648) 64) ∧ a0 ≠ 0 ∧ inL (Int.tmod (Int.tdiv (Int.tmod ((1103515245 * (τ 140 71)) + 12345) 2147483648) 64) a0) ∧ Q (some (vI (Int.tmod (Int.tdiv (Int.tmod ((1103515245 * (τ 140 71)) + 12345) 2147483648) 64) a0))) (wr τ 140 71 (Int.tmod ((1103515245 * (τ 140 71)) + 12345) 2147483648))) : M0 E d qX11_drawn [vR 140, vI a0] τ Q := M0_of rfl (Nat.le_of_ble_eq_true rfl) [some (vR 140), some (vI a0)] rfl (bX11_drawn_0  h)
set_option maxRecDepth 20000 in
theorem bX11_seed_0 {E : mm_Env} {d : Nat} {τ : mm_Mem} {Q : mm_Q0} {a0 : Int} (h : inR a0 ∧ ((0 ≤ a0 → Q (some (vB true)) (wr τ 140 71 a0)) ∧ (¬ 0 ≤ a0 → M0 E d qX11_refuses [vR 140, vI 4] τ (fun v τ2 => ∃ r3 : Int, v = some (vI r3) ∧ inR r3 ∧ ((r3 < 0 → Q (some (vB false)) τ2) ∧ (¬ r3 < 0 → Q (some (vB true)) τ2)))))) : V0 E (d + 1) qX11_seed 0 [some (vR 140), some (vI a0)] [] τ Q := by
  refine u_iload_n (i := 1) (pc' := 1) dX11_seed_0 rfl rfl rfl ?_
  obtain ⟨c1, h⟩ := h
  refine u_if_ge (tgt := 18) (pc' := 4) dX11_seed_1 rfl (by decide) c1 (fun hb => ?_) (fun hb => ?_)
  · have h := h.1 hb
    refine u_aload_n (i := 0) (pc' := 19) dX11_seed_18 rfl rfl rfl ?_
    refine u_iload_n (i := 1) (pc' := 20) dX11_seed_19 rfl rfl rfl ?_
    refine u_i2l (pc' := 21) dX11_seed_20 rfl c1 ?_
    refine u_putL (pc' := 24) dX11_seed_21 rfl fl_TuneDoorModel_228 rfl rfl rfl (by decide) kd_140 ?_
    refine u_iconst (pc' := 25) dX11_seed_24 rfl ?_
    exact u_zret (b := true) dX11_seed_25 rfl rfl h
  · have h := h.2 hb
    refine u_aload_n (i := 0) (pc' := 5) dX11_seed_4 rfl rfl rfl ?_
    refine u_iconst (pc' := 6) dX11_seed_5 rfl ?_
    refine u_invV (q' := qX11_refuses) (As := [vI 4]) (st := []) (pc' := 9) dX11_seed_6 rfl gX11_refuses wm_1452 rfl rfl (by decide) kd_140 wm_1454 wp_72 rfl (Nat.le_of_ble_eq_true rfl) (M0.mono h (fun v τ2 h => ?_))
    obtain ⟨r3, rfl, h⟩ := h
    show V0 E (d + 1) qX11_seed 9 [some (vR 140), some (vI a0)] [vI r3] τ2 Q
    obtain ⟨c4, h⟩ := h
    refine u_if_lt (tgt := 16) (pc' := 12) dX11_seed_9 rfl (by decide) c4 (fun hb => ?_) (fun hb => ?_)
    · have h := h.1 hb
      refine u_iconst (pc' := 17) dX11_seed_16 rfl ?_
      exact u_zret (b := false) dX11_seed_17 rfl rfl h
    · have h := h.2 hb
      refine u_iconst (pc' := 13) dX11_seed_12 rfl ?_
      refine u_goto (tgt := 17) dX11_seed_13 (by decide) ?_
      exact u_zret (b := true) dX11_seed_17 rfl rfl h
theorem mX11_seed {E : mm_Env} {d : Nat} {τ : mm_Mem} {Q : mm_Q0} {a0 : Int} (h : inR a0 ∧ ((0 ≤ a0 → Q (some (vB true)) (wr τ 140 71 a0)) ∧ (¬ 0 ≤ a0 → M0 E d qX11_refuses [vR 140, vI 4] τ (fun v τ2 => ∃ r3 : Int, v = some (vI r3) ∧ inR r3 ∧ ((r3 < 0 → Q (some (vB false)) τ2) ∧ (¬ r3 < 0 → Q (some (vB true)) τ2)))))) : M0 E (d + 1) qX11_seed [vR 140, vI a0] τ Q := M0_of rfl (Nat.le_of_ble_eq_true rfl) [some (vR 140), some (vI a0)] rfl (bX11_seed_0  h)
set_option maxRecDepth 20000 in
theorem bX11_image_0 {E : mm_Env} {d : Nat} {τ : mm_Mem} {Q : mm_Q0}  (h : V0 E (d + 1) qX11_image 7 [some (vR 140), some (vI 0), none, none, none] [] (wr τ 140 73 0) Q) : V0 E (d + 1) qX11_image 0 [some (vR 140), none, none, none, none] [] τ Q := by
  refine u_aload_n (i := 0) (pc' := 1) dX11_image_0 rfl rfl rfl ?_
  refine u_iconst (pc' := 2) dX11_image_1 rfl ?_
  refine u_putI (pc' := 5) dX11_image_2 rfl fl_TuneDoorModel_234 rfl rfl (by decide) (by decide) kd_140 ⟨by decide, by decide⟩ ?_
  refine u_iconst (pc' := 6) dX11_image_5 rfl ?_
  refine s_istore_n (i := 1) (ls' := [some (vR 140), some (vI 0), none, none, none]) (pc' := 7) dX11_image_6 rfl rfl (Nat.le_of_ble_eq_true rfl) rfl rfl ?_
  exact u_less (ls' := [some (vR 140), some (vI 0), none, none, none]) ⟨rfl, ⟨rfl, trivial⟩⟩ h
theorem mX11_image {E : mm_Env} {d : Nat} {τ : mm_Mem} {Q : mm_Q0}  (h : V0 E (d + 1) qX11_image 7 [some (vR 140), some (vI 0), none, none, none] [] (wr τ 140 73 0) Q) : M0 E (d + 1) qX11_image [vR 140] τ Q := M0_of rfl (Nat.le_of_ble_eq_true rfl) [some (vR 140), none, none, none, none] rfl (bX11_image_0  h)
set_option maxRecDepth 20000 in
theorem bX11_image_7 {E : mm_Env} {d : Nat} {τ : mm_Mem} {Q : mm_Q0} {x1 : Int} (h : 0 ≤ (τ 140 12) ∧ (τ 140 12) < 2 ∧ inR x1 ∧ (((τ 157 (τ 140 12).toNat) ≤ x1 → V0 E (d + 1) qX11_image 38 [some (vR 140), some (vI 0), none, none, none] [] τ Q) ∧ (¬ (τ 157 (τ 140 12).toNat) ≤ x1 → 0 ≤ x1 ∧ x1 < 4 ∧ M0 E d qX11_writes2 [vR 140, vI (τ 179 x1.toNat)] τ (fun v τ9 => v = none ∧ V0 E (d + 1) qX11_image 7 [some (vR 140), some (vI (x1 + 1)), none, none, none] [] τ9 Q)))) : V0 E (d + 1) qX11_image 7 [some (vR 140), some (vI x1), none, none, none] [] τ Q := by
  refine u_iload_n (i := 1) (pc' := 8) dX11_image_7 rfl rfl rfl ?_
  refine u_aload_n (i := 0) (pc' := 9) dX11_image_8 rfl rfl rfl ?_
  refine u_getR (a := 157) (pc' := 12) dX11_image_9 rfl fl_TuneDoorModel_97 rfl (by decide) kd_140 rfl ?_
  refine u_aload_n (i := 0) (pc' := 13) dX11_image_12 rfl rfl rfl ?_
  refine u_getI (z := (τ 140 12)) (pc' := 16) dX11_image_13 rfl fl_TuneDoorModel_48 rfl (by decide) (by decide) kd_140 rfl (fun r1 => ?_)
  obtain ⟨c2, c3, h⟩ := h
  refine u_iaload (k := (τ 140 12).toNat) (z := (τ 157 (τ 140 12).toNat)) (pc' := 17) dX11_image_16 rfl (by decide) kd_157 c2 c3 (by decide) rfl rfl (fun r4 => ?_)
  obtain ⟨c5, h⟩ := h
  refine u_icmp_ge (tgt := 36) (pc' := 20) dX11_image_17 rfl (by decide) c5 r4 (fun hb => ?_) (fun hb => ?_)
  · have h := h.1 hb
    refine u_iconst (pc' := 37) dX11_image_36 rfl ?_
    refine s_istore_n (i := 1) (ls' := [some (vR 140), some (vI 0), none, none, none]) (pc' := 38) dX11_image_37 rfl rfl (Nat.le_of_ble_eq_true rfl) rfl rfl ?_
    exact u_less (ls' := [some (vR 140), some (vI 0), none, none, none]) ⟨rfl, ⟨rfl, trivial⟩⟩ h
  · have h := h.2 hb
    refine u_aload_n (i := 0) (pc' := 21) dX11_image_20 rfl rfl rfl ?_
    refine u_aload_n (i := 0) (pc' := 22) dX11_image_21 rfl rfl rfl ?_
    refine u_getR (a := 179) (pc' := 25) dX11_image_22 rfl fl_TuneDoorModel_183 rfl (by decide) kd_140 rfl ?_
    refine u_iload_n (i := 1) (pc' := 26) dX11_image_25 rfl rfl rfl ?_
    obtain ⟨c6, c7, h⟩ := h
    refine u_iaload (k := x1.toNat) (z := (τ 179 x1.toNat)) (pc' := 27) dX11_image_26 rfl (by decide) kd_179 c6 c7 (by decide) rfl rfl (fun r8 => ?_)
    refine u_invV (q' := qX11_writes2) (As := [vI (τ 179 x1.toNat)]) (st := []) (pc' := 30) dX11_image_27 rfl gX11_writes2 wm_1958 rfl rfl (by decide) kd_140 wm_1960 wp_147 rfl (Nat.le_of_ble_eq_true rfl) (M0.mono h (fun v τ9 h => ?_))
    obtain ⟨rfl, h⟩ := h
    show V0 E (d + 1) qX11_image 30 [some (vR 140), some (vI x1), none, none, none] [] τ9 Q
    refine s_iinc (i := 1) (ls' := [some (vR 140), some (vI (x1 + 1)), none, none, none]) (pc' := 33) dX11_image_30 rfl rfl (Nat.le_of_ble_eq_true rfl) rfl rfl ?_
    refine u_goto (tgt := 7) dX11_image_33 (by decide) ?_
    exact u_less (ls' := [some (vR 140), some (vI (x1 + 1)), none, none, none]) ⟨rfl, ⟨rfl, trivial⟩⟩ h
set_option maxRecDepth 20000 in
theorem bX11_image_38 {E : mm_Env} {d : Nat} {τ : mm_Mem} {Q : mm_Q0} {x1 : Int} (h : 0 ≤ (τ 140 12) ∧ (τ 140 12) < 2 ∧ inR x1 ∧ (((τ 152 (τ 140 12).toNat) ≤ x1 → V0 E (d + 1) qX11_image 156 [some (vR 140), some (vI 33), some (vI 0), none, none] [] τ Q) ∧ (¬ (τ 152 (τ 140 12).toNat) ≤ x1 → V0 E (d + 1) qX11_image 53 [some (vR 140), some (vI x1), some (vI 0), none, none] [] τ Q))) : V0 E (d + 1) qX11_image 38 [some (vR 140), some (vI x1), none, none, none] [] τ Q := by
  refine u_iload_n (i := 1) (pc' := 39) dX11_image_38 rfl rfl rfl ?_
  refine u_aload_n (i := 0) (pc' := 40) dX11_image_39 rfl rfl rfl ?_
  refine u_getR (a := 152) (pc' := 43) dX11_image_40 rfl fl_TuneDoorModel_82 rfl (by decide) kd_140 rfl ?_
  refine u_aload_n (i := 0) (pc' := 44) dX11_image_43 rfl rfl rfl ?_
  refine u_getI (z := (τ 140 12)) (pc' := 47) dX11_image_44 rfl fl_TuneDoorModel_48 rfl (by decide) (by decide) kd_140 rfl (fun r1 => ?_)
  obtain ⟨c2, c3, h⟩ := h
  refine u_iaload (k := (τ 140 12).toNat) (z := (τ 152 (τ 140 12).toNat)) (pc' := 48) dX11_image_47 rfl (by decide) kd_152 c2 c3 (by decide) rfl rfl (fun r4 => ?_)
  obtain ⟨c5, h⟩ := h
  refine u_icmp_ge (tgt := 151) (pc' := 51) dX11_image_48 rfl (by decide) c5 r4 (fun hb => ?_) (fun hb => ?_)
  · have h := h.1 hb
    refine u_bipush (pc' := 153) dX11_image_151 rfl (by decide) ?_
    refine s_istore_n (i := 1) (ls' := [some (vR 140), some (vI 33), none, none, none]) (pc' := 154) dX11_image_153 rfl rfl (Nat.le_of_ble_eq_true rfl) rfl rfl ?_
    refine u_iconst (pc' := 155) dX11_image_154 rfl ?_
    refine s_istore_n (i := 2) (ls' := [some (vR 140), some (vI 33), some (vI 0), none, none]) (pc' := 156) dX11_image_155 rfl rfl (Nat.le_of_ble_eq_true rfl) rfl rfl ?_
    exact u_less (ls' := [some (vR 140), some (vI 33), some (vI 0), none, none]) ⟨rfl, ⟨rfl, ⟨rfl, trivial⟩⟩⟩ h
  · have h := h.2 hb
    refine u_iconst (pc' := 52) dX11_image_51 rfl ?_
    refine s_istore_n (i := 2) (ls' := [some (vR 140), some (vI x1), some (vI 0), none, none]) (pc' := 53) dX11_image_52 rfl rfl (Nat.le_of_ble_eq_true rfl) rfl rfl ?_
    exact u_less (ls' := [some (vR 140), some (vI x1), some (vI 0), none, none]) ⟨rfl, ⟨rfl, ⟨rfl, trivial⟩⟩⟩ h
set_option maxRecDepth 20000 in
theorem bX11_image_53 {E : mm_Env} {d : Nat} {τ : mm_Mem} {Q : mm_Q0} {x1 : Int} {x2 : Int} (h : 0 ≤ (τ 140 12) ∧ (τ 140 12) < 2 ∧ inR x2 ∧ (((τ 144 (τ 140 12).toNat) ≤ x2 → V0 E (d + 1) qX11_image 38 [some (vR 140), some (vI (x1 + 1)), none, none, none] [] τ Q) ∧ (¬ (τ 144 (τ 140 12).toNat) ≤ x2 → M0 E d qX11_isEar [vR 140, vI x1, vI x2] τ (fun v τ6 => ∃ b7 : Bool, v = some (vB b7) ∧ ((b7 = false → V0 E (d + 1) qX11_image 96 [some (vR 140), some (vI x1), some (vI x2), some (vI ((3 * x1) + x2)), some (vB b7)] [vI 0, vR 140] τ6 Q) ∧ (b7 = true → 0 ≤ ((3 * x1) + x2) ∧ ((3 * x1) + x2) < 12 ∧ V0 E (d + 1) qX11_image 96 [some (vR 140), some (vI x1), some (vI x2), some (vI ((3 * x1) + x2)), some (vB b7)] [vI (τ6 182 ((3 * x1) + x2).toNat), vR 140] τ6 Q)))))) : V0 E (d + 1) qX11_image 53 [some (vR 140), some (vI x1), some (vI x2), none, none] [] τ Q := by
  refine u_iload_n (i := 2) (pc' := 54) dX11_image_53 rfl rfl rfl ?_
  refine u_aload_n (i := 0) (pc' := 55) dX11_image_54 rfl rfl rfl ?_
  refine u_getR (a := 144) (pc' := 58) dX11_image_55 rfl fl_TuneDoorModel_57 rfl (by decide) kd_140 rfl ?_
  refine u_aload_n (i := 0) (pc' := 59) dX11_image_58 rfl rfl rfl ?_
  refine u_getI (z := (τ 140 12)) (pc' := 62) dX11_image_59 rfl fl_TuneDoorModel_48 rfl (by decide) (by decide) kd_140 rfl (fun r1 => ?_)
  obtain ⟨c2, c3, h⟩ := h
  refine u_iaload (k := (τ 140 12).toNat) (z := (τ 144 (τ 140 12).toNat)) (pc' := 63) dX11_image_62 rfl (by decide) kd_144 c2 c3 (by decide) rfl rfl (fun r4 => ?_)
  obtain ⟨c5, h⟩ := h
  refine u_icmp_ge (tgt := 145) (pc' := 66) dX11_image_63 rfl (by decide) c5 r4 (fun hb => ?_) (fun hb => ?_)
  · have h := h.1 hb
    refine s_iinc (i := 1) (ls' := [some (vR 140), some (vI (x1 + 1)), some (vI x2), none, none]) (pc' := 148) dX11_image_145 rfl rfl (Nat.le_of_ble_eq_true rfl) rfl rfl ?_
    refine u_goto (tgt := 38) dX11_image_148 (by decide) ?_
    exact u_less (ls' := [some (vR 140), some (vI (x1 + 1)), none, none, none]) ⟨rfl, ⟨rfl, trivial⟩⟩ h
  · have h := h.2 hb
    refine u_iconst (pc' := 67) dX11_image_66 rfl ?_
    refine u_iload_n (i := 1) (pc' := 68) dX11_image_67 rfl rfl rfl ?_
    refine u_imul (pc' := 69) dX11_image_68 rfl ?_
    refine u_iload_n (i := 2) (pc' := 70) dX11_image_69 rfl rfl rfl ?_
    refine u_iadd (pc' := 71) dX11_image_70 rfl ?_
    refine s_istore_n (i := 3) (ls' := [some (vR 140), some (vI x1), some (vI x2), some (vI ((3 * x1) + x2)), none]) (pc' := 72) dX11_image_71 rfl rfl (Nat.le_of_ble_eq_true rfl) rfl rfl ?_
    refine u_aload_n (i := 0) (pc' := 73) dX11_image_72 rfl rfl rfl ?_
    refine u_iload_n (i := 1) (pc' := 74) dX11_image_73 rfl rfl rfl ?_
    refine u_iload_n (i := 2) (pc' := 75) dX11_image_74 rfl rfl rfl ?_
    refine u_invV (q' := qX11_isEar) (As := [vI x1, vI x2]) (st := []) (pc' := 78) dX11_image_75 rfl gX11_isEar wm_1688 rfl rfl (by decide) kd_140 wm_1690 wp_110 rfl (Nat.le_of_ble_eq_true rfl) (M0.mono h (fun v τ6 h => ?_))
    obtain ⟨b7, rfl, h⟩ := h
    show V0 E (d + 1) qX11_image 78 [some (vR 140), some (vI x1), some (vI x2), some (vI ((3 * x1) + x2)), none] [vB b7] τ6 Q
    refine s_istore (i := 4) (ls' := [some (vR 140), some (vI x1), some (vI x2), some (vI ((3 * x1) + x2)), some (vB b7)]) (pc' := 80) dX11_image_78 rfl (Nat.le_of_ble_eq_true rfl) rfl rfl ?_
    refine u_aload_n (i := 0) (pc' := 81) dX11_image_80 rfl rfl rfl ?_
    refine u_iload (i := 4) (pc' := 83) dX11_image_81 rfl rfl ?_
    refine u_if_eq (tgt := 95) (pc' := 86) dX11_image_83 rfl (by decide) (bI_R _) (fun hb => ?_) (fun hb => ?_)
    · have h := h.1 (bI_0.mp hb)
      refine u_iconst (pc' := 96) dX11_image_95 rfl ?_
      exact u_less (ls' := [some (vR 140), some (vI x1), some (vI x2), some (vI ((3 * x1) + x2)), some (vB b7)]) ⟨rfl, ⟨rfl, ⟨rfl, ⟨rfl, ⟨rfl, trivial⟩⟩⟩⟩⟩ h
    · have h := h.2 (bI_n0.mp hb)
      refine u_aload_n (i := 0) (pc' := 87) dX11_image_86 rfl rfl rfl ?_
      refine u_getR (a := 182) (pc' := 90) dX11_image_87 rfl fl_TuneDoorModel_192 rfl (by decide) kd_140 rfl ?_
      refine u_iload_n (i := 3) (pc' := 91) dX11_image_90 rfl rfl rfl ?_
      obtain ⟨c8, c9, h⟩ := h
      refine u_iaload (k := ((3 * x1) + x2).toNat) (z := (τ6 182 ((3 * x1) + x2).toNat)) (pc' := 92) dX11_image_91 rfl (by decide) kd_182 c8 c9 (by decide) rfl rfl (fun r10 => ?_)
      refine u_goto (tgt := 96) dX11_image_92 (by decide) ?_
      exact u_less (ls' := [some (vR 140), some (vI x1), some (vI x2), some (vI ((3 * x1) + x2)), some (vB b7)]) ⟨rfl, ⟨rfl, ⟨rfl, ⟨rfl, ⟨rfl, trivial⟩⟩⟩⟩⟩ h
set_option maxRecDepth 20000 in
theorem bX11_image_96 {E : mm_Env} {d : Nat} {τ : mm_Mem} {Q : mm_Q0} {x1 : Int} {x2 : Int} {x3 : Int} {x4 : Bool} {y0 : Int} (h : M0 E d qX11_writes2 [vR 140, vI y0] τ (fun v τ1 => v = none ∧ ((x4 = false → M0 E d qX11_writes2 [vR 140, vI 0] τ1 (fun v τ2 => v = none ∧ ((x4 = false → M0 E d qX11_writes [vR 140, vI 0] τ2 (fun v τ3 => v = none ∧ V0 E (d + 1) qX11_image 53 [some (vR 140), some (vI x1), some (vI (x2 + 1)), none, none] [] τ3 Q)) ∧ (x4 = true → 0 ≤ x3 ∧ x3 < 12 ∧ M0 E d qX11_writes [vR 140, vI (τ2 184 x3.toNat)] τ2 (fun v τ7 => v = none ∧ V0 E (d + 1) qX11_image 53 [some (vR 140), some (vI x1), some (vI (x2 + 1)), none, none] [] τ7 Q))))) ∧ (x4 = true → 0 ≤ x3 ∧ x3 < 12 ∧ M0 E d qX11_writes2 [vR 140, vI ((τ1 183 x3.toNat) + 1)] τ1 (fun v τ11 => v = none ∧ ((x4 = false → M0 E d qX11_writes [vR 140, vI 0] τ11 (fun v τ12 => v = none ∧ V0 E (d + 1) qX11_image 53 [some (vR 140), some (vI x1), some (vI (x2 + 1)), none, none] [] τ12 Q)) ∧ (x4 = true → 0 ≤ x3 ∧ x3 < 12 ∧ M0 E d qX11_writes [vR 140, vI (τ11 184 x3.toNat)] τ11 (fun v τ16 => v = none ∧ V0 E (d + 1) qX11_image 53 [some (vR 140), some (vI x1), some (vI (x2 + 1)), none, none] [] τ16 Q)))))))) : V0 E (d + 1) qX11_image 96 [some (vR 140), some (vI x1), some (vI x2), some (vI x3), some (vB x4)] [vI y0, vR 140] τ Q := by
  refine u_invV (q' := qX11_writes2) (As := [vI y0]) (st := []) (pc' := 99) dX11_image_96 rfl gX11_writes2 wm_1958 rfl rfl (by decide) kd_140 wm_1960 wp_147 rfl (Nat.le_of_ble_eq_true rfl) (M0.mono h (fun v τ1 h => ?_))
  obtain ⟨rfl, h⟩ := h
  show V0 E (d + 1) qX11_image 99 [some (vR 140), some (vI x1), some (vI x2), some (vI x3), some (vB x4)] [] τ1 Q
  refine u_aload_n (i := 0) (pc' := 100) dX11_image_99 rfl rfl rfl ?_
  refine u_iload (i := 4) (pc' := 102) dX11_image_100 rfl rfl ?_
  refine u_if_eq (tgt := 116) (pc' := 105) dX11_image_102 rfl (by decide) (bI_R _) (fun hb => ?_) (fun hb => ?_)
  · have h := h.1 (bI_0.mp hb)
    refine u_iconst (pc' := 117) dX11_image_116 rfl ?_
    refine u_invV (q' := qX11_writes2) (As := [vI 0]) (st := []) (pc' := 120) dX11_image_117 rfl gX11_writes2 wm_1958 rfl rfl (by decide) kd_140 wm_1960 wp_147 rfl (Nat.le_of_ble_eq_true rfl) (M0.mono h (fun v τ2 h => ?_))
    obtain ⟨rfl, h⟩ := h
    show V0 E (d + 1) qX11_image 120 [some (vR 140), some (vI x1), some (vI x2), some (vI x3), some (vB x4)] [] τ2 Q
    refine u_aload_n (i := 0) (pc' := 121) dX11_image_120 rfl rfl rfl ?_
    refine u_iload (i := 4) (pc' := 123) dX11_image_121 rfl rfl ?_
    refine u_if_eq (tgt := 135) (pc' := 126) dX11_image_123 rfl (by decide) (bI_R _) (fun hb => ?_) (fun hb => ?_)
    · have h := h.1 (bI_0.mp hb)
      refine u_iconst (pc' := 136) dX11_image_135 rfl ?_
      refine u_invV (q' := qX11_writes) (As := [vI 0]) (st := []) (pc' := 139) dX11_image_136 rfl gX11_writes wm_1962 rfl rfl (by decide) kd_140 wm_1964 wp_148 rfl (Nat.le_of_ble_eq_true rfl) (M0.mono h (fun v τ3 h => ?_))
      obtain ⟨rfl, h⟩ := h
      show V0 E (d + 1) qX11_image 139 [some (vR 140), some (vI x1), some (vI x2), some (vI x3), some (vB x4)] [] τ3 Q
      refine s_iinc (i := 2) (ls' := [some (vR 140), some (vI x1), some (vI (x2 + 1)), some (vI x3), some (vB x4)]) (pc' := 142) dX11_image_139 rfl rfl (Nat.le_of_ble_eq_true rfl) rfl rfl ?_
      refine u_goto (tgt := 53) dX11_image_142 (by decide) ?_
      exact u_less (ls' := [some (vR 140), some (vI x1), some (vI (x2 + 1)), none, none]) ⟨rfl, ⟨rfl, ⟨rfl, trivial⟩⟩⟩ h
    · have h := h.2 (bI_n0.mp hb)
      refine u_aload_n (i := 0) (pc' := 127) dX11_image_126 rfl rfl rfl ?_
      refine u_getR (a := 184) (pc' := 130) dX11_image_127 rfl fl_TuneDoorModel_198 rfl (by decide) kd_140 rfl ?_
      refine u_iload_n (i := 3) (pc' := 131) dX11_image_130 rfl rfl rfl ?_
      obtain ⟨c4, c5, h⟩ := h
      refine u_iaload (k := x3.toNat) (z := (τ2 184 x3.toNat)) (pc' := 132) dX11_image_131 rfl (by decide) kd_184 c4 c5 (by decide) rfl rfl (fun r6 => ?_)
      refine u_goto (tgt := 136) dX11_image_132 (by decide) ?_
      refine u_invV (q' := qX11_writes) (As := [vI (τ2 184 x3.toNat)]) (st := []) (pc' := 139) dX11_image_136 rfl gX11_writes wm_1962 rfl rfl (by decide) kd_140 wm_1964 wp_148 rfl (Nat.le_of_ble_eq_true rfl) (M0.mono h (fun v τ7 h => ?_))
      obtain ⟨rfl, h⟩ := h
      show V0 E (d + 1) qX11_image 139 [some (vR 140), some (vI x1), some (vI x2), some (vI x3), some (vB x4)] [] τ7 Q
      refine s_iinc (i := 2) (ls' := [some (vR 140), some (vI x1), some (vI (x2 + 1)), some (vI x3), some (vB x4)]) (pc' := 142) dX11_image_139 rfl rfl (Nat.le_of_ble_eq_true rfl) rfl rfl ?_
      refine u_goto (tgt := 53) dX11_image_142 (by decide) ?_
      exact u_less (ls' := [some (vR 140), some (vI x1), some (vI (x2 + 1)), none, none]) ⟨rfl, ⟨rfl, ⟨rfl, trivial⟩⟩⟩ h
  · have h := h.2 (bI_n0.mp hb)
    refine u_aload_n (i := 0) (pc' := 106) dX11_image_105 rfl rfl rfl ?_
    refine u_getR (a := 183) (pc' := 109) dX11_image_106 rfl fl_TuneDoorModel_195 rfl (by decide) kd_140 rfl ?_
    refine u_iload_n (i := 3) (pc' := 110) dX11_image_109 rfl rfl rfl ?_
    obtain ⟨c8, c9, h⟩ := h
    refine u_iaload (k := x3.toNat) (z := (τ1 183 x3.toNat)) (pc' := 111) dX11_image_110 rfl (by decide) kd_183 c8 c9 (by decide) rfl rfl (fun r10 => ?_)
    refine u_iconst (pc' := 112) dX11_image_111 rfl ?_
    refine u_iadd (pc' := 113) dX11_image_112 rfl ?_
    refine u_goto (tgt := 117) dX11_image_113 (by decide) ?_
    refine u_invV (q' := qX11_writes2) (As := [vI ((τ1 183 x3.toNat) + 1)]) (st := []) (pc' := 120) dX11_image_117 rfl gX11_writes2 wm_1958 rfl rfl (by decide) kd_140 wm_1960 wp_147 rfl (Nat.le_of_ble_eq_true rfl) (M0.mono h (fun v τ11 h => ?_))
    obtain ⟨rfl, h⟩ := h
    show V0 E (d + 1) qX11_image 120 [some (vR 140), some (vI x1), some (vI x2), some (vI x3), some (vB x4)] [] τ11 Q
    refine u_aload_n (i := 0) (pc' := 121) dX11_image_120 rfl rfl rfl ?_
    refine u_iload (i := 4) (pc' := 123) dX11_image_121 rfl rfl ?_
    refine u_if_eq (tgt := 135) (pc' := 126) dX11_image_123 rfl (by decide) (bI_R _) (fun hb => ?_) (fun hb => ?_)
    · have h := h.1 (bI_0.mp hb)
      refine u_iconst (pc' := 136) dX11_image_135 rfl ?_
      refine u_invV (q' := qX11_writes) (As := [vI 0]) (st := []) (pc' := 139) dX11_image_136 rfl gX11_writes wm_1962 rfl rfl (by decide) kd_140 wm_1964 wp_148 rfl (Nat.le_of_ble_eq_true rfl) (M0.mono h (fun v τ12 h => ?_))
      obtain ⟨rfl, h⟩ := h
      show V0 E (d + 1) qX11_image 139 [some (vR 140), some (vI x1), some (vI x2), some (vI x3), some (vB x4)] [] τ12 Q
      refine s_iinc (i := 2) (ls' := [some (vR 140), some (vI x1), some (vI (x2 + 1)), some (vI x3), some (vB x4)]) (pc' := 142) dX11_image_139 rfl rfl (Nat.le_of_ble_eq_true rfl) rfl rfl ?_
      refine u_goto (tgt := 53) dX11_image_142 (by decide) ?_
      exact u_less (ls' := [some (vR 140), some (vI x1), some (vI (x2 + 1)), none, none]) ⟨rfl, ⟨rfl, ⟨rfl, trivial⟩⟩⟩ h
    · have h := h.2 (bI_n0.mp hb)
      refine u_aload_n (i := 0) (pc' := 127) dX11_image_126 rfl rfl rfl ?_
      refine u_getR (a := 184) (pc' := 130) dX11_image_127 rfl fl_TuneDoorModel_198 rfl (by decide) kd_140 rfl ?_
      refine u_iload_n (i := 3) (pc' := 131) dX11_image_130 rfl rfl rfl ?_
      obtain ⟨c13, c14, h⟩ := h
      refine u_iaload (k := x3.toNat) (z := (τ11 184 x3.toNat)) (pc' := 132) dX11_image_131 rfl (by decide) kd_184 c13 c14 (by decide) rfl rfl (fun r15 => ?_)
      refine u_goto (tgt := 136) dX11_image_132 (by decide) ?_
      refine u_invV (q' := qX11_writes) (As := [vI (τ11 184 x3.toNat)]) (st := []) (pc' := 139) dX11_image_136 rfl gX11_writes wm_1962 rfl rfl (by decide) kd_140 wm_1964 wp_148 rfl (Nat.le_of_ble_eq_true rfl) (M0.mono h (fun v τ16 h => ?_))
      obtain ⟨rfl, h⟩ := h
      show V0 E (d + 1) qX11_image 139 [some (vR 140), some (vI x1), some (vI x2), some (vI x3), some (vB x4)] [] τ16 Q
      refine s_iinc (i := 2) (ls' := [some (vR 140), some (vI x1), some (vI (x2 + 1)), some (vI x3), some (vB x4)]) (pc' := 142) dX11_image_139 rfl rfl (Nat.le_of_ble_eq_true rfl) rfl rfl ?_
      refine u_goto (tgt := 53) dX11_image_142 (by decide) ?_
      exact u_less (ls' := [some (vR 140), some (vI x1), some (vI (x2 + 1)), none, none]) ⟨rfl, ⟨rfl, ⟨rfl, trivial⟩⟩⟩ h
set_option maxRecDepth 20000 in
theorem bX11_image_156 {E : mm_Env} {d : Nat} {τ : mm_Mem} {Q : mm_Q0} {x1 : Int} {x2 : Int} (h : inR x2 ∧ (((τ 140 73) ≤ x2 → M0 E d qX11_writes [vR 140, vI x1] τ (fun v τ3 => v = none ∧ Q (some (vI (τ3 140 73))) τ3)) ∧ (¬ (τ 140 73) ≤ x2 → 0 ≤ x2 ∧ x2 < 80 ∧ inR ((7 * x1) + (τ 193 x2.toNat)) ∧ V0 E (d + 1) qX11_image 156 [some (vR 140), some (vI (Int.tmod ((7 * x1) + (τ 193 x2.toNat)) 241)), some (vI (x2 + 1)), none, none] [] τ Q))) : V0 E (d + 1) qX11_image 156 [some (vR 140), some (vI x1), some (vI x2), none, none] [] τ Q := by
  refine u_iload_n (i := 2) (pc' := 157) dX11_image_156 rfl rfl rfl ?_
  refine u_aload_n (i := 0) (pc' := 158) dX11_image_157 rfl rfl rfl ?_
  refine u_getI (z := (τ 140 73)) (pc' := 161) dX11_image_158 rfl fl_TuneDoorModel_234 rfl (by decide) (by decide) kd_140 rfl (fun r1 => ?_)
  obtain ⟨c2, h⟩ := h
  refine u_icmp_ge (tgt := 186) (pc' := 164) dX11_image_161 rfl (by decide) c2 r1 (fun hb => ?_) (fun hb => ?_)
  · have h := h.1 hb
    refine u_aload_n (i := 0) (pc' := 187) dX11_image_186 rfl rfl rfl ?_
    refine u_iload_n (i := 1) (pc' := 188) dX11_image_187 rfl rfl rfl ?_
    refine u_invV (q' := qX11_writes) (As := [vI x1]) (st := []) (pc' := 191) dX11_image_188 rfl gX11_writes wm_1962 rfl rfl (by decide) kd_140 wm_1964 wp_148 rfl (Nat.le_of_ble_eq_true rfl) (M0.mono h (fun v τ3 h => ?_))
    obtain ⟨rfl, h⟩ := h
    show V0 E (d + 1) qX11_image 191 [some (vR 140), some (vI x1), some (vI x2), none, none] [] τ3 Q
    refine u_aload_n (i := 0) (pc' := 192) dX11_image_191 rfl rfl rfl ?_
    refine u_getI (z := (τ3 140 73)) (pc' := 195) dX11_image_192 rfl fl_TuneDoorModel_234 rfl (by decide) (by decide) kd_140 rfl (fun r4 => ?_)
    exact u_iret dX11_image_195 rfl h
  · have h := h.2 hb
    refine u_bipush (pc' := 166) dX11_image_164 rfl (by decide) ?_
    refine u_iload_n (i := 1) (pc' := 167) dX11_image_166 rfl rfl rfl ?_
    refine u_imul (pc' := 168) dX11_image_167 rfl ?_
    refine u_aload_n (i := 0) (pc' := 169) dX11_image_168 rfl rfl rfl ?_
    refine u_getR (a := 193) (pc' := 172) dX11_image_169 rfl fl_TuneDoorModel_231 rfl (by decide) kd_140 rfl ?_
    refine u_iload_n (i := 2) (pc' := 173) dX11_image_172 rfl rfl rfl ?_
    obtain ⟨c5, c6, h⟩ := h
    refine u_iaload (k := x2.toNat) (z := (τ 193 x2.toNat)) (pc' := 174) dX11_image_173 rfl (by decide) kd_193 c5 c6 (by decide) rfl rfl (fun r7 => ?_)
    refine u_iadd (pc' := 175) dX11_image_174 rfl ?_
    refine u_sipush (pc' := 178) dX11_image_175 rfl (by decide) ?_
    obtain ⟨c8, h⟩ := h
    refine u_irem (pc' := 179) dX11_image_178 rfl c8 ⟨by decide, by decide⟩ (by decide) ?_
    refine s_istore_n (i := 1) (ls' := [some (vR 140), some (vI (Int.tmod ((7 * x1) + (τ 193 x2.toNat)) 241)), some (vI x2), none, none]) (pc' := 180) dX11_image_179 rfl rfl (Nat.le_of_ble_eq_true rfl) rfl rfl ?_
    refine s_iinc (i := 2) (ls' := [some (vR 140), some (vI (Int.tmod ((7 * x1) + (τ 193 x2.toNat)) 241)), some (vI (x2 + 1)), none, none]) (pc' := 183) dX11_image_180 rfl rfl (Nat.le_of_ble_eq_true rfl) rfl rfl ?_
    refine u_goto (tgt := 156) dX11_image_183 (by decide) ?_
    exact u_less (ls' := [some (vR 140), some (vI (Int.tmod ((7 * x1) + (τ 193 x2.toNat)) 241)), some (vI (x2 + 1)), none, none]) ⟨rfl, ⟨rfl, ⟨rfl, trivial⟩⟩⟩ h
set_option maxRecDepth 20000 in
theorem bX11_writes2_0 {E : mm_Env} {d : Nat} {τ : mm_Mem} {Q : mm_Q0} {a0 : Int} (h : M0 E d qX11_writes [vR 140, vI (mm_shr a0 8)] τ (fun v τ1 => v = none ∧ M0 E d qX11_writes [vR 140, vI a0] τ1 (fun v τ2 => v = none ∧ Q none τ2))) : V0 E (d + 1) qX11_writes2 0 [some (vR 140), some (vI a0)] [] τ Q := by
  refine u_aload_n (i := 0) (pc' := 1) dX11_writes2_0 rfl rfl rfl ?_
  refine u_iload_n (i := 1) (pc' := 2) dX11_writes2_1 rfl rfl rfl ?_
  refine u_bipush (pc' := 4) dX11_writes2_2 rfl (by decide) ?_
  refine u_ishr (pc' := 5) dX11_writes2_4 rfl ?_
  refine u_invV (q' := qX11_writes) (As := [vI (mm_shr a0 8)]) (st := []) (pc' := 8) dX11_writes2_5 rfl gX11_writes wm_1962 rfl rfl (by decide) kd_140 wm_1964 wp_148 rfl (Nat.le_of_ble_eq_true rfl) (M0.mono h (fun v τ1 h => ?_))
  obtain ⟨rfl, h⟩ := h
  show V0 E (d + 1) qX11_writes2 8 [some (vR 140), some (vI a0)] [] τ1 Q
  refine u_aload_n (i := 0) (pc' := 9) dX11_writes2_8 rfl rfl rfl ?_
  refine u_iload_n (i := 1) (pc' := 10) dX11_writes2_9 rfl rfl rfl ?_
  refine u_invV (q' := qX11_writes) (As := [vI a0]) (st := []) (pc' := 13) dX11_writes2_10 rfl gX11_writes wm_1962 rfl rfl (by decide) kd_140 wm_1964 wp_148 rfl (Nat.le_of_ble_eq_true rfl) (M0.mono h (fun v τ2 h => ?_))
  obtain ⟨rfl, h⟩ := h
  show V0 E (d + 1) qX11_writes2 13 [some (vR 140), some (vI a0)] [] τ2 Q
  exact u_ret dX11_writes2_13 rfl h
theorem mX11_writes2 {E : mm_Env} {d : Nat} {τ : mm_Mem} {Q : mm_Q0} {a0 : Int} (h : M0 E d qX11_writes [vR 140, vI (mm_shr a0 8)] τ (fun v τ1 => v = none ∧ M0 E d qX11_writes [vR 140, vI a0] τ1 (fun v τ2 => v = none ∧ Q none τ2))) : M0 E (d + 1) qX11_writes2 [vR 140, vI a0] τ Q := M0_of rfl (Nat.le_of_ble_eq_true rfl) [some (vR 140), some (vI a0)] rfl (bX11_writes2_0  h)
set_option maxRecDepth 20000 in
theorem bX11_writes_0 {E : mm_Env} {d : Nat} {τ : mm_Mem} {Q : mm_Q0} {a0 : Int} (h : 0 ≤ (τ 140 73) ∧ (τ 140 73) < 80 ∧ inR (mm_and a0 255) ∧ inR ((τ 140 73) + 1) ∧ Q none (wr (wr τ 193 (τ 140 73).toNat (mm_and a0 255)) 140 73 ((τ 140 73) + 1))) : V0 E d qX11_writes 0 [some (vR 140), some (vI a0)] [] τ Q := by
  refine u_aload_n (i := 0) (pc' := 1) dX11_writes_0 rfl rfl rfl ?_
  refine u_getR (a := 193) (pc' := 4) dX11_writes_1 rfl fl_TuneDoorModel_231 rfl (by decide) kd_140 rfl ?_
  refine u_aload_n (i := 0) (pc' := 5) dX11_writes_4 rfl rfl rfl ?_
  refine u_getI (z := (τ 140 73)) (pc' := 8) dX11_writes_5 rfl fl_TuneDoorModel_234 rfl (by decide) (by decide) kd_140 rfl (fun r1 => ?_)
  refine u_iload_n (i := 1) (pc' := 9) dX11_writes_8 rfl rfl rfl ?_
  refine u_sipush (pc' := 12) dX11_writes_9 rfl (by decide) ?_
  refine u_iand (pc' := 13) dX11_writes_12 rfl ?_
  obtain ⟨c2, c3, c4, h⟩ := h
  refine u_iastore (k := (τ 140 73).toNat) (pc' := 14) dX11_writes_13 rfl (by decide) kd_193 c2 c3 (by decide) rfl c4 ?_
  refine u_aload_n (i := 0) (pc' := 15) dX11_writes_14 rfl rfl rfl ?_
  refine u_dup (pc' := 16) dX11_writes_15 rfl (fun _ hh => by cases hh) ?_
  refine u_getI (z := (τ 140 73)) (pc' := 19) dX11_writes_16 rfl fl_TuneDoorModel_234 rfl (by decide) (by decide) kd_140 rfl (fun r5 => ?_)
  refine u_iconst (pc' := 20) dX11_writes_19 rfl ?_
  refine u_iadd (pc' := 21) dX11_writes_20 rfl ?_
  obtain ⟨c6, h⟩ := h
  refine u_putI (pc' := 24) dX11_writes_21 rfl fl_TuneDoorModel_234 rfl rfl (by decide) (by decide) kd_140 c6 ?_
  exact u_ret dX11_writes_24 rfl h
theorem mX11_writes {E : mm_Env} {d : Nat} {τ : mm_Mem} {Q : mm_Q0} {a0 : Int} (h : 0 ≤ (τ 140 73) ∧ (τ 140 73) < 80 ∧ inR (mm_and a0 255) ∧ inR ((τ 140 73) + 1) ∧ Q none (wr (wr τ 193 (τ 140 73).toNat (mm_and a0 255)) 140 73 ((τ 140 73) + 1))) : M0 E d qX11_writes [vR 140, vI a0] τ Q := M0_of rfl (Nat.le_of_ble_eq_true rfl) [some (vR 140), some (vI a0)] rfl (bX11_writes_0  h)
set_option maxRecDepth 20000 in
theorem bX11_octet_0 {E : mm_Env} {d : Nat} {τ : mm_Mem} {Q : mm_Q0} {a0 : Int} (h : inR a0 ∧ ((a0 < 0 → Q (some (vI (-1))) τ) ∧ (¬ a0 < 0 → (((τ 140 73) ≤ a0 → Q (some (vI (-1))) τ) ∧ (¬ (τ 140 73) ≤ a0 → 0 ≤ a0 ∧ a0 < 80 ∧ Q (some (vI (τ 193 a0.toNat))) τ))))) : V0 E d qX11_octet 0 [some (vR 140), some (vI a0)] [] τ Q := by
  refine u_iload_n (i := 1) (pc' := 1) dX11_octet_0 rfl rfl rfl ?_
  obtain ⟨c1, h⟩ := h
  refine u_if_lt (tgt := 21) (pc' := 4) dX11_octet_1 rfl (by decide) c1 (fun hb => ?_) (fun hb => ?_)
  · have h := h.1 hb
    refine u_iconst (pc' := 22) dX11_octet_21 rfl ?_
    exact u_iret dX11_octet_22 rfl h
  · have h := h.2 hb
    refine u_iload_n (i := 1) (pc' := 5) dX11_octet_4 rfl rfl rfl ?_
    refine u_aload_n (i := 0) (pc' := 6) dX11_octet_5 rfl rfl rfl ?_
    refine u_getI (z := (τ 140 73)) (pc' := 9) dX11_octet_6 rfl fl_TuneDoorModel_234 rfl (by decide) (by decide) kd_140 rfl (fun r2 => ?_)
    refine u_icmp_ge (tgt := 21) (pc' := 12) dX11_octet_9 rfl (by decide) c1 r2 (fun hb => ?_) (fun hb => ?_)
    · have h := h.1 hb
      refine u_iconst (pc' := 22) dX11_octet_21 rfl ?_
      exact u_iret dX11_octet_22 rfl h
    · have h := h.2 hb
      refine u_aload_n (i := 0) (pc' := 13) dX11_octet_12 rfl rfl rfl ?_
      refine u_getR (a := 193) (pc' := 16) dX11_octet_13 rfl fl_TuneDoorModel_231 rfl (by decide) kd_140 rfl ?_
      refine u_iload_n (i := 1) (pc' := 17) dX11_octet_16 rfl rfl rfl ?_
      obtain ⟨c3, c4, h⟩ := h
      refine u_iaload (k := a0.toNat) (z := (τ 193 a0.toNat)) (pc' := 18) dX11_octet_17 rfl (by decide) kd_193 c3 c4 (by decide) rfl rfl (fun r5 => ?_)
      refine u_goto (tgt := 22) dX11_octet_18 (by decide) ?_
      exact u_iret dX11_octet_22 rfl h
theorem mX11_octet {E : mm_Env} {d : Nat} {τ : mm_Mem} {Q : mm_Q0} {a0 : Int} (h : inR a0 ∧ ((a0 < 0 → Q (some (vI (-1))) τ) ∧ (¬ a0 < 0 → (((τ 140 73) ≤ a0 → Q (some (vI (-1))) τ) ∧ (¬ (τ 140 73) ≤ a0 → 0 ≤ a0 ∧ a0 < 80 ∧ Q (some (vI (τ 193 a0.toNat))) τ))))) : M0 E d qX11_octet [vR 140, vI a0] τ Q := M0_of rfl (Nat.le_of_ble_eq_true rfl) [some (vR 140), some (vI a0)] rfl (bX11_octet_0  h)
set_option maxRecDepth 20000 in
theorem bX11_on_0 {E : mm_Env} {d : Nat} {τ : mm_Mem} {Q : mm_Q0}  (h : M0 E d qX11_isWhole [vR 140, vI (τ 140 1)] (wr τ 140 1 0) (fun v τ2 => ∃ b3 : Bool, v = some (vB b3) ∧ ((b3 = true → 0 ≤ (τ2 140 12) ∧ (τ2 140 12) < 2 ∧ V0 E (d + 1) qX11_on 46 [some (vR 140), none, some (vI (2 * (τ2 157 (τ2 140 12).toNat))), some (vI 0), none, none] [] τ2 Q) ∧ (b3 = false → M0 E d qX11_refuses [vR 140, vI 5] τ2 (fun v τ8 => ∃ r9 : Int, v = some (vI r9) ∧ inR r9 ∧ ((r9 < 0 → Q (some (vB false)) τ8) ∧ (¬ r9 < 0 → Q (some (vB true)) τ8))))))) : V0 E (d + 1) qX11_on 0 [some (vR 140), none, none, none, none, none] [] τ Q := by
  refine u_aload_n (i := 0) (pc' := 1) dX11_on_0 rfl rfl rfl ?_
  refine u_getI (z := (τ 140 1)) (pc' := 4) dX11_on_1 rfl fl_TuneDoorModel_13 rfl (by decide) (by decide) kd_140 rfl (fun r1 => ?_)
  refine s_istore_n (i := 1) (ls' := [some (vR 140), some (vI (τ 140 1)), none, none, none, none]) (pc' := 5) dX11_on_4 rfl rfl (Nat.le_of_ble_eq_true rfl) rfl rfl ?_
  refine u_aload_n (i := 0) (pc' := 6) dX11_on_5 rfl rfl rfl ?_
  refine u_iconst (pc' := 7) dX11_on_6 rfl ?_
  refine u_putI (pc' := 10) dX11_on_7 rfl fl_TuneDoorModel_13 rfl rfl (by decide) (by decide) kd_140 ⟨by decide, by decide⟩ ?_
  refine u_aload_n (i := 0) (pc' := 11) dX11_on_10 rfl rfl rfl ?_
  refine u_iload_n (i := 1) (pc' := 12) dX11_on_11 rfl rfl rfl ?_
  refine u_invV (q' := qX11_isWhole) (As := [vI (τ 140 1)]) (st := []) (pc' := 15) dX11_on_12 rfl gX11_isWhole wm_1974 rfl rfl (by decide) kd_140 wm_1976 wp_149 rfl (Nat.le_of_ble_eq_true rfl) (M0.mono h (fun v τ2 h => ?_))
  obtain ⟨b3, rfl, h⟩ := h
  show V0 E (d + 1) qX11_on 15 [some (vR 140), some (vI (τ 140 1)), none, none, none, none] [vB b3] τ2 Q
  refine u_if_ne (tgt := 32) (pc' := 18) dX11_on_15 rfl (by decide) (bI_R _) (fun hb => ?_) (fun hb => ?_)
  · have h := h.1 (bI_n0.mp hb)
    refine u_iconst (pc' := 33) dX11_on_32 rfl ?_
    refine u_aload_n (i := 0) (pc' := 34) dX11_on_33 rfl rfl rfl ?_
    refine u_getR (a := 157) (pc' := 37) dX11_on_34 rfl fl_TuneDoorModel_97 rfl (by decide) kd_140 rfl ?_
    refine u_aload_n (i := 0) (pc' := 38) dX11_on_37 rfl rfl rfl ?_
    refine u_getI (z := (τ2 140 12)) (pc' := 41) dX11_on_38 rfl fl_TuneDoorModel_48 rfl (by decide) (by decide) kd_140 rfl (fun r4 => ?_)
    obtain ⟨c5, c6, h⟩ := h
    refine u_iaload (k := (τ2 140 12).toNat) (z := (τ2 157 (τ2 140 12).toNat)) (pc' := 42) dX11_on_41 rfl (by decide) kd_157 c5 c6 (by decide) rfl rfl (fun r7 => ?_)
    refine u_imul (pc' := 43) dX11_on_42 rfl ?_
    refine s_istore_n (i := 2) (ls' := [some (vR 140), some (vI (τ 140 1)), some (vI (2 * (τ2 157 (τ2 140 12).toNat))), none, none, none]) (pc' := 44) dX11_on_43 rfl rfl (Nat.le_of_ble_eq_true rfl) rfl rfl ?_
    refine u_iconst (pc' := 45) dX11_on_44 rfl ?_
    refine s_istore_n (i := 3) (ls' := [some (vR 140), some (vI (τ 140 1)), some (vI (2 * (τ2 157 (τ2 140 12).toNat))), some (vI 0), none, none]) (pc' := 46) dX11_on_45 rfl rfl (Nat.le_of_ble_eq_true rfl) rfl rfl ?_
    exact u_less (ls' := [some (vR 140), none, some (vI (2 * (τ2 157 (τ2 140 12).toNat))), some (vI 0), none, none]) ⟨rfl, ⟨rfl, ⟨rfl, trivial⟩⟩⟩ h
  · have h := h.2 (bI_0.mp hb)
    refine u_aload_n (i := 0) (pc' := 19) dX11_on_18 rfl rfl rfl ?_
    refine u_iconst (pc' := 20) dX11_on_19 rfl ?_
    refine u_invV (q' := qX11_refuses) (As := [vI 5]) (st := []) (pc' := 23) dX11_on_20 rfl gX11_refuses wm_1452 rfl rfl (by decide) kd_140 wm_1454 wp_72 rfl (Nat.le_of_ble_eq_true rfl) (M0.mono h (fun v τ8 h => ?_))
    obtain ⟨r9, rfl, h⟩ := h
    show V0 E (d + 1) qX11_on 23 [some (vR 140), some (vI (τ 140 1)), none, none, none, none] [vI r9] τ8 Q
    obtain ⟨c10, h⟩ := h
    refine u_if_lt (tgt := 30) (pc' := 26) dX11_on_23 rfl (by decide) c10 (fun hb => ?_) (fun hb => ?_)
    · have h := h.1 hb
      refine u_iconst (pc' := 31) dX11_on_30 rfl ?_
      exact u_zret (b := false) dX11_on_31 rfl rfl h
    · have h := h.2 hb
      refine u_iconst (pc' := 27) dX11_on_26 rfl ?_
      refine u_goto (tgt := 31) dX11_on_27 (by decide) ?_
      exact u_zret (b := true) dX11_on_31 rfl rfl h
theorem mX11_on {E : mm_Env} {d : Nat} {τ : mm_Mem} {Q : mm_Q0}  (h : M0 E d qX11_isWhole [vR 140, vI (τ 140 1)] (wr τ 140 1 0) (fun v τ2 => ∃ b3 : Bool, v = some (vB b3) ∧ ((b3 = true → 0 ≤ (τ2 140 12) ∧ (τ2 140 12) < 2 ∧ V0 E (d + 1) qX11_on 46 [some (vR 140), none, some (vI (2 * (τ2 157 (τ2 140 12).toNat))), some (vI 0), none, none] [] τ2 Q) ∧ (b3 = false → M0 E d qX11_refuses [vR 140, vI 5] τ2 (fun v τ8 => ∃ r9 : Int, v = some (vI r9) ∧ inR r9 ∧ ((r9 < 0 → Q (some (vB false)) τ8) ∧ (¬ r9 < 0 → Q (some (vB true)) τ8))))))) : M0 E (d + 1) qX11_on [vR 140] τ Q := M0_of rfl (Nat.le_of_ble_eq_true rfl) [some (vR 140), none, none, none, none, none] rfl (bX11_on_0  h)
set_option maxRecDepth 20000 in
theorem bX11_on_46 {E : mm_Env} {d : Nat} {τ : mm_Mem} {Q : mm_Q0} {x2 : Int} {x3 : Int} (h : 0 ≤ (τ 140 12) ∧ (τ 140 12) < 2 ∧ inR x3 ∧ (((τ 157 (τ 140 12).toNat) ≤ x3 → V0 E (d + 1) qX11_on 80 [some (vR 140), none, some (vI x2), some (vI 0), none, none] [] τ Q) ∧ (¬ (τ 157 (τ 140 12).toNat) ≤ x3 → M0 E d qX11_two [vR 140, vI (2 * x3)] τ (fun v τ6 => ∃ r7 : Int, v = some (vI r7) ∧ 0 ≤ x3 ∧ x3 < 4 ∧ inR r7 ∧ V0 E (d + 1) qX11_on 46 [some (vR 140), none, some (vI x2), some (vI (x3 + 1)), none, none] [] (wr τ6 179 x3.toNat r7) Q)))) : V0 E (d + 1) qX11_on 46 [some (vR 140), none, some (vI x2), some (vI x3), none, none] [] τ Q := by
  refine u_iload_n (i := 3) (pc' := 47) dX11_on_46 rfl rfl rfl ?_
  refine u_aload_n (i := 0) (pc' := 48) dX11_on_47 rfl rfl rfl ?_
  refine u_getR (a := 157) (pc' := 51) dX11_on_48 rfl fl_TuneDoorModel_97 rfl (by decide) kd_140 rfl ?_
  refine u_aload_n (i := 0) (pc' := 52) dX11_on_51 rfl rfl rfl ?_
  refine u_getI (z := (τ 140 12)) (pc' := 55) dX11_on_52 rfl fl_TuneDoorModel_48 rfl (by decide) (by decide) kd_140 rfl (fun r1 => ?_)
  obtain ⟨c2, c3, h⟩ := h
  refine u_iaload (k := (τ 140 12).toNat) (z := (τ 157 (τ 140 12).toNat)) (pc' := 56) dX11_on_55 rfl (by decide) kd_157 c2 c3 (by decide) rfl rfl (fun r4 => ?_)
  obtain ⟨c5, h⟩ := h
  refine u_icmp_ge (tgt := 78) (pc' := 59) dX11_on_56 rfl (by decide) c5 r4 (fun hb => ?_) (fun hb => ?_)
  · have h := h.1 hb
    refine u_iconst (pc' := 79) dX11_on_78 rfl ?_
    refine s_istore_n (i := 3) (ls' := [some (vR 140), none, some (vI x2), some (vI 0), none, none]) (pc' := 80) dX11_on_79 rfl rfl (Nat.le_of_ble_eq_true rfl) rfl rfl ?_
    exact u_less (ls' := [some (vR 140), none, some (vI x2), some (vI 0), none, none]) ⟨rfl, ⟨rfl, ⟨rfl, trivial⟩⟩⟩ h
  · have h := h.2 hb
    refine u_aload_n (i := 0) (pc' := 60) dX11_on_59 rfl rfl rfl ?_
    refine u_getR (a := 179) (pc' := 63) dX11_on_60 rfl fl_TuneDoorModel_183 rfl (by decide) kd_140 rfl ?_
    refine u_iload_n (i := 3) (pc' := 64) dX11_on_63 rfl rfl rfl ?_
    refine u_aload_n (i := 0) (pc' := 65) dX11_on_64 rfl rfl rfl ?_
    refine u_iconst (pc' := 66) dX11_on_65 rfl ?_
    refine u_iload_n (i := 3) (pc' := 67) dX11_on_66 rfl rfl rfl ?_
    refine u_imul (pc' := 68) dX11_on_67 rfl ?_
    refine u_invV (q' := qX11_two) (As := [vI (2 * x3)]) (st := [vI x3, vR 179]) (pc' := 71) dX11_on_68 rfl gX11_two wm_1982 rfl rfl (by decide) kd_140 wm_1984 wp_151 rfl (Nat.le_of_ble_eq_true rfl) (M0.mono h (fun v τ6 h => ?_))
    obtain ⟨r7, rfl, h⟩ := h
    show V0 E (d + 1) qX11_on 71 [some (vR 140), none, some (vI x2), some (vI x3), none, none] [vI r7, vI x3, vR 179] τ6 Q
    obtain ⟨c8, c9, c10, h⟩ := h
    refine u_iastore (k := x3.toNat) (pc' := 72) dX11_on_71 rfl (by decide) kd_179 c8 c9 (by decide) rfl c10 ?_
    refine s_iinc (i := 3) (ls' := [some (vR 140), none, some (vI x2), some (vI (x3 + 1)), none, none]) (pc' := 75) dX11_on_72 rfl rfl (Nat.le_of_ble_eq_true rfl) rfl rfl ?_
    refine u_goto (tgt := 46) dX11_on_75 (by decide) ?_
    exact u_less (ls' := [some (vR 140), none, some (vI x2), some (vI (x3 + 1)), none, none]) ⟨rfl, ⟨rfl, ⟨rfl, trivial⟩⟩⟩ h
set_option maxRecDepth 20000 in
theorem bX11_on_80 {E : mm_Env} {d : Nat} {τ : mm_Mem} {Q : mm_Q0} {x2 : Int} {x3 : Int} (h : 0 ≤ (τ 140 12) ∧ (τ 140 12) < 2 ∧ inR x3 ∧ (((τ 152 (τ 140 12).toNat) ≤ x3 → Q (some (vB true)) τ) ∧ (¬ (τ 152 (τ 140 12).toNat) ≤ x3 → V0 E (d + 1) qX11_on 96 [some (vR 140), none, some (vI x2), some (vI x3), some (vI 0), none] [] τ Q))) : V0 E (d + 1) qX11_on 80 [some (vR 140), none, some (vI x2), some (vI x3), none, none] [] τ Q := by
  refine u_iload_n (i := 3) (pc' := 81) dX11_on_80 rfl rfl rfl ?_
  refine u_aload_n (i := 0) (pc' := 82) dX11_on_81 rfl rfl rfl ?_
  refine u_getR (a := 152) (pc' := 85) dX11_on_82 rfl fl_TuneDoorModel_82 rfl (by decide) kd_140 rfl ?_
  refine u_aload_n (i := 0) (pc' := 86) dX11_on_85 rfl rfl rfl ?_
  refine u_getI (z := (τ 140 12)) (pc' := 89) dX11_on_86 rfl fl_TuneDoorModel_48 rfl (by decide) (by decide) kd_140 rfl (fun r1 => ?_)
  obtain ⟨c2, c3, h⟩ := h
  refine u_iaload (k := (τ 140 12).toNat) (z := (τ 152 (τ 140 12).toNat)) (pc' := 90) dX11_on_89 rfl (by decide) kd_152 c2 c3 (by decide) rfl rfl (fun r4 => ?_)
  obtain ⟨c5, h⟩ := h
  refine u_icmp_ge (tgt := 200) (pc' := 93) dX11_on_90 rfl (by decide) c5 r4 (fun hb => ?_) (fun hb => ?_)
  · have h := h.1 hb
    refine u_iconst (pc' := 201) dX11_on_200 rfl ?_
    exact u_zret (b := true) dX11_on_201 rfl rfl h
  · have h := h.2 hb
    refine u_iconst (pc' := 94) dX11_on_93 rfl ?_
    refine s_istore (i := 4) (ls' := [some (vR 140), none, some (vI x2), some (vI x3), some (vI 0), none]) (pc' := 96) dX11_on_94 rfl (Nat.le_of_ble_eq_true rfl) rfl rfl ?_
    exact u_less (ls' := [some (vR 140), none, some (vI x2), some (vI x3), some (vI 0), none]) ⟨rfl, ⟨rfl, ⟨rfl, ⟨rfl, trivial⟩⟩⟩⟩ h
set_option maxRecDepth 20000 in
theorem bX11_on_96 {E : mm_Env} {d : Nat} {τ : mm_Mem} {Q : mm_Q0} {x2 : Int} {x3 : Int} {x4 : Int} (h : 0 ≤ (τ 140 12) ∧ (τ 140 12) < 2 ∧ inR x4 ∧ (((τ 144 (τ 140 12).toNat) ≤ x4 → V0 E (d + 1) qX11_on 80 [some (vR 140), none, some (vI x2), some (vI (x3 + 1)), none, none] [] τ Q) ∧ (¬ (τ 144 (τ 140 12).toNat) ≤ x4 → 0 ≤ (τ 140 12) ∧ (τ 140 12) < 2 ∧ M0 E d qX11_two [vR 140, vI (x2 + (5 * ((x3 * (τ 144 (τ 140 12).toNat)) + x4)))] τ (fun v τ10 => ∃ r11 : Int, v = some (vI r11) ∧ 0 ≤ ((3 * x3) + x4) ∧ ((3 * x3) + x4) < 12 ∧ inR r11 ∧ M0 E d qX11_two [vR 140, vI ((x2 + (5 * ((x3 * (τ 144 (τ 140 12).toNat)) + x4))) + 2)] (wr τ10 182 ((3 * x3) + x4).toNat r11) (fun v τ15 => ∃ r16 : Int, v = some (vI r16) ∧ 0 ≤ ((3 * x3) + x4) ∧ ((3 * x3) + x4) < 12 ∧ inR (r16 - 1) ∧ 0 ≤ ((x2 + (5 * ((x3 * (τ 144 (τ 140 12).toNat)) + x4))) + 4) ∧ ((x2 + (5 * ((x3 * (τ 144 (τ 140 12).toNat)) + x4))) + 4) < 1800 ∧ 0 ≤ ((3 * x3) + x4) ∧ ((3 * x3) + x4) < 12 ∧ V0 E (d + 1) qX11_on 96 [some (vR 140), none, some (vI x2), some (vI x3), some (vI (x4 + 1)), none] [] (wr (wr τ15 183 ((3 * x3) + x4).toNat (r16 - 1)) 184 ((3 * x3) + x4).toNat (τ15 141 ((x2 + (5 * ((x3 * (τ 144 (τ 140 12).toNat)) + x4))) + 4).toNat)) Q))))) : V0 E (d + 1) qX11_on 96 [some (vR 140), none, some (vI x2), some (vI x3), some (vI x4), none] [] τ Q := by
  refine u_iload (i := 4) (pc' := 98) dX11_on_96 rfl rfl ?_
  refine u_aload_n (i := 0) (pc' := 99) dX11_on_98 rfl rfl rfl ?_
  refine u_getR (a := 144) (pc' := 102) dX11_on_99 rfl fl_TuneDoorModel_57 rfl (by decide) kd_140 rfl ?_
  refine u_aload_n (i := 0) (pc' := 103) dX11_on_102 rfl rfl rfl ?_
  refine u_getI (z := (τ 140 12)) (pc' := 106) dX11_on_103 rfl fl_TuneDoorModel_48 rfl (by decide) (by decide) kd_140 rfl (fun r1 => ?_)
  obtain ⟨c2, c3, h⟩ := h
  refine u_iaload (k := (τ 140 12).toNat) (z := (τ 144 (τ 140 12).toNat)) (pc' := 107) dX11_on_106 rfl (by decide) kd_144 c2 c3 (by decide) rfl rfl (fun r4 => ?_)
  obtain ⟨c5, h⟩ := h
  refine u_icmp_ge (tgt := 194) (pc' := 110) dX11_on_107 rfl (by decide) c5 r4 (fun hb => ?_) (fun hb => ?_)
  · have h := h.1 hb
    refine s_iinc (i := 3) (ls' := [some (vR 140), none, some (vI x2), some (vI (x3 + 1)), some (vI x4), none]) (pc' := 197) dX11_on_194 rfl rfl (Nat.le_of_ble_eq_true rfl) rfl rfl ?_
    refine u_goto (tgt := 80) dX11_on_197 (by decide) ?_
    exact u_less (ls' := [some (vR 140), none, some (vI x2), some (vI (x3 + 1)), none, none]) ⟨rfl, ⟨rfl, ⟨rfl, trivial⟩⟩⟩ h
  · have h := h.2 hb
    refine u_iload_n (i := 2) (pc' := 111) dX11_on_110 rfl rfl rfl ?_
    refine u_iconst (pc' := 112) dX11_on_111 rfl ?_
    refine u_iload_n (i := 3) (pc' := 113) dX11_on_112 rfl rfl rfl ?_
    refine u_aload_n (i := 0) (pc' := 114) dX11_on_113 rfl rfl rfl ?_
    refine u_getR (a := 144) (pc' := 117) dX11_on_114 rfl fl_TuneDoorModel_57 rfl (by decide) kd_140 rfl ?_
    refine u_aload_n (i := 0) (pc' := 118) dX11_on_117 rfl rfl rfl ?_
    refine u_getI (z := (τ 140 12)) (pc' := 121) dX11_on_118 rfl fl_TuneDoorModel_48 rfl (by decide) (by decide) kd_140 rfl (fun r6 => ?_)
    obtain ⟨c7, c8, h⟩ := h
    refine u_iaload (k := (τ 140 12).toNat) (z := (τ 144 (τ 140 12).toNat)) (pc' := 122) dX11_on_121 rfl (by decide) kd_144 c7 c8 (by decide) rfl rfl (fun r9 => ?_)
    refine u_imul (pc' := 123) dX11_on_122 rfl ?_
    refine u_iload (i := 4) (pc' := 125) dX11_on_123 rfl rfl ?_
    refine u_iadd (pc' := 126) dX11_on_125 rfl ?_
    refine u_imul (pc' := 127) dX11_on_126 rfl ?_
    refine u_iadd (pc' := 128) dX11_on_127 rfl ?_
    refine s_istore (i := 5) (ls' := [some (vR 140), none, some (vI x2), some (vI x3), some (vI x4), some (vI (x2 + (5 * ((x3 * (τ 144 (τ 140 12).toNat)) + x4))))]) (pc' := 130) dX11_on_128 rfl (Nat.le_of_ble_eq_true rfl) rfl rfl ?_
    refine u_aload_n (i := 0) (pc' := 131) dX11_on_130 rfl rfl rfl ?_
    refine u_getR (a := 182) (pc' := 134) dX11_on_131 rfl fl_TuneDoorModel_192 rfl (by decide) kd_140 rfl ?_
    refine u_iconst (pc' := 135) dX11_on_134 rfl ?_
    refine u_iload_n (i := 3) (pc' := 136) dX11_on_135 rfl rfl rfl ?_
    refine u_imul (pc' := 137) dX11_on_136 rfl ?_
    refine u_iload (i := 4) (pc' := 139) dX11_on_137 rfl rfl ?_
    refine u_iadd (pc' := 140) dX11_on_139 rfl ?_
    refine u_aload_n (i := 0) (pc' := 141) dX11_on_140 rfl rfl rfl ?_
    refine u_iload (i := 5) (pc' := 143) dX11_on_141 rfl rfl ?_
    refine u_invV (q' := qX11_two) (As := [vI (x2 + (5 * ((x3 * (τ 144 (τ 140 12).toNat)) + x4)))]) (st := [vI ((3 * x3) + x4), vR 182]) (pc' := 146) dX11_on_143 rfl gX11_two wm_1982 rfl rfl (by decide) kd_140 wm_1984 wp_151 rfl (Nat.le_of_ble_eq_true rfl) (M0.mono h (fun v τ10 h => ?_))
    obtain ⟨r11, rfl, h⟩ := h
    show V0 E (d + 1) qX11_on 146 [some (vR 140), none, some (vI x2), some (vI x3), some (vI x4), some (vI (x2 + (5 * ((x3 * (τ 144 (τ 140 12).toNat)) + x4))))] [vI r11, vI ((3 * x3) + x4), vR 182] τ10 Q
    obtain ⟨c12, c13, c14, h⟩ := h
    refine u_iastore (k := ((3 * x3) + x4).toNat) (pc' := 147) dX11_on_146 rfl (by decide) kd_182 c12 c13 (by decide) rfl c14 ?_
    refine u_aload_n (i := 0) (pc' := 148) dX11_on_147 rfl rfl rfl ?_
    refine u_getR (a := 183) (pc' := 151) dX11_on_148 rfl fl_TuneDoorModel_195 rfl (by decide) kd_140 rfl ?_
    refine u_iconst (pc' := 152) dX11_on_151 rfl ?_
    refine u_iload_n (i := 3) (pc' := 153) dX11_on_152 rfl rfl rfl ?_
    refine u_imul (pc' := 154) dX11_on_153 rfl ?_
    refine u_iload (i := 4) (pc' := 156) dX11_on_154 rfl rfl ?_
    refine u_iadd (pc' := 157) dX11_on_156 rfl ?_
    refine u_aload_n (i := 0) (pc' := 158) dX11_on_157 rfl rfl rfl ?_
    refine u_iload (i := 5) (pc' := 160) dX11_on_158 rfl rfl ?_
    refine u_iconst (pc' := 161) dX11_on_160 rfl ?_
    refine u_iadd (pc' := 162) dX11_on_161 rfl ?_
    refine u_invV (q' := qX11_two) (As := [vI ((x2 + (5 * ((x3 * (τ 144 (τ 140 12).toNat)) + x4))) + 2)]) (st := [vI ((3 * x3) + x4), vR 183]) (pc' := 165) dX11_on_162 rfl gX11_two wm_1982 rfl rfl (by decide) kd_140 wm_1984 wp_151 rfl (Nat.le_of_ble_eq_true rfl) (M0.mono h (fun v τ15 h => ?_))
    obtain ⟨r16, rfl, h⟩ := h
    show V0 E (d + 1) qX11_on 165 [some (vR 140), none, some (vI x2), some (vI x3), some (vI x4), some (vI (x2 + (5 * ((x3 * (τ 144 (τ 140 12).toNat)) + x4))))] [vI r16, vI ((3 * x3) + x4), vR 183] τ15 Q
    refine u_iconst (pc' := 166) dX11_on_165 rfl ?_
    refine u_isub (pc' := 167) dX11_on_166 rfl ?_
    obtain ⟨c17, c18, c19, h⟩ := h
    refine u_iastore (k := ((3 * x3) + x4).toNat) (pc' := 168) dX11_on_167 rfl (by decide) kd_183 c17 c18 (by decide) rfl c19 ?_
    refine u_aload_n (i := 0) (pc' := 169) dX11_on_168 rfl rfl rfl ?_
    refine u_getR (a := 184) (pc' := 172) dX11_on_169 rfl fl_TuneDoorModel_198 rfl (by decide) kd_140 rfl ?_
    refine u_iconst (pc' := 173) dX11_on_172 rfl ?_
    refine u_iload_n (i := 3) (pc' := 174) dX11_on_173 rfl rfl rfl ?_
    refine u_imul (pc' := 175) dX11_on_174 rfl ?_
    refine u_iload (i := 4) (pc' := 177) dX11_on_175 rfl rfl ?_
    refine u_iadd (pc' := 178) dX11_on_177 rfl ?_
    refine u_aload_n (i := 0) (pc' := 179) dX11_on_178 rfl rfl rfl ?_
    refine u_getR (a := 141) (pc' := 182) dX11_on_179 rfl fl_TuneDoorModel_7 rfl (by decide) kd_140 rfl ?_
    refine u_iload (i := 5) (pc' := 184) dX11_on_182 rfl rfl ?_
    refine u_iconst (pc' := 185) dX11_on_184 rfl ?_
    refine u_iadd (pc' := 186) dX11_on_185 rfl ?_
    obtain ⟨c20, c21, h⟩ := h
    refine u_iaload (k := ((x2 + (5 * ((x3 * (τ 144 (τ 140 12).toNat)) + x4))) + 4).toNat) (z := (τ15 141 ((x2 + (5 * ((x3 * (τ 144 (τ 140 12).toNat)) + x4))) + 4).toNat)) (pc' := 187) dX11_on_186 rfl (by decide) kd_141 c20 c21 (by decide) rfl rfl (fun r22 => ?_)
    obtain ⟨c23, c24, h⟩ := h
    refine u_iastore (k := ((3 * x3) + x4).toNat) (pc' := 188) dX11_on_187 rfl (by decide) kd_184 c23 c24 (by decide) rfl r22 ?_
    refine s_iinc (i := 4) (ls' := [some (vR 140), none, some (vI x2), some (vI x3), some (vI (x4 + 1)), some (vI (x2 + (5 * ((x3 * (τ 144 (τ 140 12).toNat)) + x4))))]) (pc' := 191) dX11_on_188 rfl rfl (Nat.le_of_ble_eq_true rfl) rfl rfl ?_
    refine u_goto (tgt := 96) dX11_on_191 (by decide) ?_
    exact u_less (ls' := [some (vR 140), none, some (vI x2), some (vI x3), some (vI (x4 + 1)), none]) ⟨rfl, ⟨rfl, ⟨rfl, ⟨rfl, trivial⟩⟩⟩⟩ h
set_option maxRecDepth 20000 in
theorem bX11_isWhole_0 {E : mm_Env} {d : Nat} {τ : mm_Mem} {Q : mm_Q0} {a0 : Int} (h : 0 ≤ (τ 140 12) ∧ (τ 140 12) < 2 ∧ M0 E d qX11_hasNotes [vR 140] τ (fun v τ5 => ∃ b6 : Bool, v = some (vB b6) ∧ ((b6 = false → Q (some (vB false)) τ5) ∧ (b6 = true → 0 ≤ (τ5 140 12) ∧ (τ5 140 12) < 2 ∧ 0 ≤ (τ5 140 12) ∧ (τ5 140 12) < 2 ∧ inR a0 ∧ inR (((2 * (τ 157 (τ 140 12).toNat)) + ((5 * (τ5 152 (τ5 140 12).toNat)) * (τ5 144 (τ5 140 12).toNat))) + 1) ∧ ((a0 = (((2 * (τ 157 (τ 140 12).toNat)) + ((5 * (τ5 152 (τ5 140 12).toNat)) * (τ5 144 (τ5 140 12).toNat))) + 1) → V0 E (d + 1) qX11_isWhole 56 [some (vR 140), some (vI a0), some (vI (2 * (τ 157 (τ 140 12).toNat))), some (vI 33), some (vI 0), none] [] τ5 Q) ∧ (¬ a0 = (((2 * (τ 157 (τ 140 12).toNat)) + ((5 * (τ5 152 (τ5 140 12).toNat)) * (τ5 144 (τ5 140 12).toNat))) + 1) → Q (some (vB false)) τ5)))))) : V0 E (d + 1) qX11_isWhole 0 [some (vR 140), some (vI a0), none, none, none, none] [] τ Q := by
  refine u_iconst (pc' := 1) dX11_isWhole_0 rfl ?_
  refine u_aload_n (i := 0) (pc' := 2) dX11_isWhole_1 rfl rfl rfl ?_
  refine u_getR (a := 157) (pc' := 5) dX11_isWhole_2 rfl fl_TuneDoorModel_97 rfl (by decide) kd_140 rfl ?_
  refine u_aload_n (i := 0) (pc' := 6) dX11_isWhole_5 rfl rfl rfl ?_
  refine u_getI (z := (τ 140 12)) (pc' := 9) dX11_isWhole_6 rfl fl_TuneDoorModel_48 rfl (by decide) (by decide) kd_140 rfl (fun r1 => ?_)
  obtain ⟨c2, c3, h⟩ := h
  refine u_iaload (k := (τ 140 12).toNat) (z := (τ 157 (τ 140 12).toNat)) (pc' := 10) dX11_isWhole_9 rfl (by decide) kd_157 c2 c3 (by decide) rfl rfl (fun r4 => ?_)
  refine u_imul (pc' := 11) dX11_isWhole_10 rfl ?_
  refine s_istore_n (i := 2) (ls' := [some (vR 140), some (vI a0), some (vI (2 * (τ 157 (τ 140 12).toNat))), none, none, none]) (pc' := 12) dX11_isWhole_11 rfl rfl (Nat.le_of_ble_eq_true rfl) rfl rfl ?_
  refine u_aload_n (i := 0) (pc' := 13) dX11_isWhole_12 rfl rfl rfl ?_
  refine u_invV (q' := qX11_hasNotes) (As := []) (st := []) (pc' := 16) dX11_isWhole_13 rfl gX11_hasNotes wm_1978 rfl rfl (by decide) kd_140 wm_1980 wp_150 rfl (Nat.le_of_ble_eq_true rfl) (M0.mono h (fun v τ5 h => ?_))
  obtain ⟨b6, rfl, h⟩ := h
  show V0 E (d + 1) qX11_isWhole 16 [some (vR 140), some (vI a0), some (vI (2 * (τ 157 (τ 140 12).toNat))), none, none, none] [vB b6] τ5 Q
  refine u_if_eq (tgt := 48) (pc' := 19) dX11_isWhole_16 rfl (by decide) (bI_R _) (fun hb => ?_) (fun hb => ?_)
  · have h := h.1 (bI_0.mp hb)
    refine u_iconst (pc' := 49) dX11_isWhole_48 rfl ?_
    exact u_zret (b := false) dX11_isWhole_49 rfl rfl h
  · have h := h.2 (bI_n0.mp hb)
    refine u_iload_n (i := 1) (pc' := 20) dX11_isWhole_19 rfl rfl rfl ?_
    refine u_iload_n (i := 2) (pc' := 21) dX11_isWhole_20 rfl rfl rfl ?_
    refine u_iconst (pc' := 22) dX11_isWhole_21 rfl ?_
    refine u_aload_n (i := 0) (pc' := 23) dX11_isWhole_22 rfl rfl rfl ?_
    refine u_getR (a := 152) (pc' := 26) dX11_isWhole_23 rfl fl_TuneDoorModel_82 rfl (by decide) kd_140 rfl ?_
    refine u_aload_n (i := 0) (pc' := 27) dX11_isWhole_26 rfl rfl rfl ?_
    refine u_getI (z := (τ5 140 12)) (pc' := 30) dX11_isWhole_27 rfl fl_TuneDoorModel_48 rfl (by decide) (by decide) kd_140 rfl (fun r7 => ?_)
    obtain ⟨c8, c9, h⟩ := h
    refine u_iaload (k := (τ5 140 12).toNat) (z := (τ5 152 (τ5 140 12).toNat)) (pc' := 31) dX11_isWhole_30 rfl (by decide) kd_152 c8 c9 (by decide) rfl rfl (fun r10 => ?_)
    refine u_imul (pc' := 32) dX11_isWhole_31 rfl ?_
    refine u_aload_n (i := 0) (pc' := 33) dX11_isWhole_32 rfl rfl rfl ?_
    refine u_getR (a := 144) (pc' := 36) dX11_isWhole_33 rfl fl_TuneDoorModel_57 rfl (by decide) kd_140 rfl ?_
    refine u_aload_n (i := 0) (pc' := 37) dX11_isWhole_36 rfl rfl rfl ?_
    refine u_getI (z := (τ5 140 12)) (pc' := 40) dX11_isWhole_37 rfl fl_TuneDoorModel_48 rfl (by decide) (by decide) kd_140 rfl (fun r11 => ?_)
    obtain ⟨c12, c13, h⟩ := h
    refine u_iaload (k := (τ5 140 12).toNat) (z := (τ5 144 (τ5 140 12).toNat)) (pc' := 41) dX11_isWhole_40 rfl (by decide) kd_144 c12 c13 (by decide) rfl rfl (fun r14 => ?_)
    refine u_imul (pc' := 42) dX11_isWhole_41 rfl ?_
    refine u_iadd (pc' := 43) dX11_isWhole_42 rfl ?_
    refine u_iconst (pc' := 44) dX11_isWhole_43 rfl ?_
    refine u_iadd (pc' := 45) dX11_isWhole_44 rfl ?_
    obtain ⟨c15, c16, h⟩ := h
    refine u_icmp_eq (tgt := 50) (pc' := 48) dX11_isWhole_45 rfl (by decide) c15 c16 (fun hb => ?_) (fun hb => ?_)
    · have h := h.1 hb
      refine u_bipush (pc' := 52) dX11_isWhole_50 rfl (by decide) ?_
      refine s_istore_n (i := 3) (ls' := [some (vR 140), some (vI a0), some (vI (2 * (τ 157 (τ 140 12).toNat))), some (vI 33), none, none]) (pc' := 53) dX11_isWhole_52 rfl rfl (Nat.le_of_ble_eq_true rfl) rfl rfl ?_
      refine u_iconst (pc' := 54) dX11_isWhole_53 rfl ?_
      refine s_istore (i := 4) (ls' := [some (vR 140), some (vI a0), some (vI (2 * (τ 157 (τ 140 12).toNat))), some (vI 33), some (vI 0), none]) (pc' := 56) dX11_isWhole_54 rfl (Nat.le_of_ble_eq_true rfl) rfl rfl ?_
      exact u_less (ls' := [some (vR 140), some (vI a0), some (vI (2 * (τ 157 (τ 140 12).toNat))), some (vI 33), some (vI 0), none]) ⟨rfl, ⟨rfl, ⟨rfl, ⟨rfl, ⟨rfl, trivial⟩⟩⟩⟩⟩ h
    · have h := h.2 hb
      refine u_iconst (pc' := 49) dX11_isWhole_48 rfl ?_
      exact u_zret (b := false) dX11_isWhole_49 rfl rfl h
theorem mX11_isWhole {E : mm_Env} {d : Nat} {τ : mm_Mem} {Q : mm_Q0} {a0 : Int} (h : 0 ≤ (τ 140 12) ∧ (τ 140 12) < 2 ∧ M0 E d qX11_hasNotes [vR 140] τ (fun v τ5 => ∃ b6 : Bool, v = some (vB b6) ∧ ((b6 = false → Q (some (vB false)) τ5) ∧ (b6 = true → 0 ≤ (τ5 140 12) ∧ (τ5 140 12) < 2 ∧ 0 ≤ (τ5 140 12) ∧ (τ5 140 12) < 2 ∧ inR a0 ∧ inR (((2 * (τ 157 (τ 140 12).toNat)) + ((5 * (τ5 152 (τ5 140 12).toNat)) * (τ5 144 (τ5 140 12).toNat))) + 1) ∧ ((a0 = (((2 * (τ 157 (τ 140 12).toNat)) + ((5 * (τ5 152 (τ5 140 12).toNat)) * (τ5 144 (τ5 140 12).toNat))) + 1) → V0 E (d + 1) qX11_isWhole 56 [some (vR 140), some (vI a0), some (vI (2 * (τ 157 (τ 140 12).toNat))), some (vI 33), some (vI 0), none] [] τ5 Q) ∧ (¬ a0 = (((2 * (τ 157 (τ 140 12).toNat)) + ((5 * (τ5 152 (τ5 140 12).toNat)) * (τ5 144 (τ5 140 12).toNat))) + 1) → Q (some (vB false)) τ5)))))) : M0 E (d + 1) qX11_isWhole [vR 140, vI a0] τ Q := M0_of rfl (Nat.le_of_ble_eq_true rfl) [some (vR 140), some (vI a0), none, none, none, none] rfl (bX11_isWhole_0  h)
set_option maxRecDepth 20000 in
theorem bX11_isWhole_56 {E : mm_Env} {d : Nat} {τ : mm_Mem} {Q : mm_Q0} {x1 : Int} {x2 : Int} {x3 : Int} {x4 : Int} (h : inR x4 ∧ inR (x1 - 1) ∧ (((x1 - 1) ≤ x4 → 0 ≤ (x1 - 1) ∧ (x1 - 1) < 1800 ∧ inR x3 ∧ (((τ 141 (x1 - 1).toNat) = x3 → V0 E (d + 1) qX11_isWhole 104 [some (vR 140), none, some (vI x2), none, some (vI 0), none] [] τ Q) ∧ (¬ (τ 141 (x1 - 1).toNat) = x3 → Q (some (vB false)) τ))) ∧ (¬ (x1 - 1) ≤ x4 → 0 ≤ x4 ∧ x4 < 1800 ∧ inR ((7 * x3) + (τ 141 x4.toNat)) ∧ V0 E (d + 1) qX11_isWhole 56 [some (vR 140), some (vI x1), some (vI x2), some (vI (Int.tmod ((7 * x3) + (τ 141 x4.toNat)) 241)), some (vI (x4 + 1)), none] [] τ Q))) : V0 E (d + 1) qX11_isWhole 56 [some (vR 140), some (vI x1), some (vI x2), some (vI x3), some (vI x4), none] [] τ Q := by
  refine u_iload (i := 4) (pc' := 58) dX11_isWhole_56 rfl rfl ?_
  refine u_iload_n (i := 1) (pc' := 59) dX11_isWhole_58 rfl rfl rfl ?_
  refine u_iconst (pc' := 60) dX11_isWhole_59 rfl ?_
  refine u_isub (pc' := 61) dX11_isWhole_60 rfl ?_
  obtain ⟨c1, c2, h⟩ := h
  refine u_icmp_ge (tgt := 87) (pc' := 64) dX11_isWhole_61 rfl (by decide) c1 c2 (fun hb => ?_) (fun hb => ?_)
  · have h := h.1 hb
    refine u_aload_n (i := 0) (pc' := 88) dX11_isWhole_87 rfl rfl rfl ?_
    refine u_getR (a := 141) (pc' := 91) dX11_isWhole_88 rfl fl_TuneDoorModel_7 rfl (by decide) kd_140 rfl ?_
    refine u_iload_n (i := 1) (pc' := 92) dX11_isWhole_91 rfl rfl rfl ?_
    refine u_iconst (pc' := 93) dX11_isWhole_92 rfl ?_
    refine u_isub (pc' := 94) dX11_isWhole_93 rfl ?_
    obtain ⟨c3, c4, h⟩ := h
    refine u_iaload (k := (x1 - 1).toNat) (z := (τ 141 (x1 - 1).toNat)) (pc' := 95) dX11_isWhole_94 rfl (by decide) kd_141 c3 c4 (by decide) rfl rfl (fun r5 => ?_)
    refine u_iload_n (i := 3) (pc' := 96) dX11_isWhole_95 rfl rfl rfl ?_
    obtain ⟨c6, h⟩ := h
    refine u_icmp_eq (tgt := 101) (pc' := 99) dX11_isWhole_96 rfl (by decide) r5 c6 (fun hb => ?_) (fun hb => ?_)
    · have h := h.1 hb
      refine u_iconst (pc' := 102) dX11_isWhole_101 rfl ?_
      refine s_istore (i := 4) (ls' := [some (vR 140), some (vI x1), some (vI x2), some (vI x3), some (vI 0), none]) (pc' := 104) dX11_isWhole_102 rfl (Nat.le_of_ble_eq_true rfl) rfl rfl ?_
      exact u_less (ls' := [some (vR 140), none, some (vI x2), none, some (vI 0), none]) ⟨rfl, ⟨rfl, ⟨rfl, trivial⟩⟩⟩ h
    · have h := h.2 hb
      refine u_iconst (pc' := 100) dX11_isWhole_99 rfl ?_
      exact u_zret (b := false) dX11_isWhole_100 rfl rfl h
  · have h := h.2 hb
    refine u_bipush (pc' := 66) dX11_isWhole_64 rfl (by decide) ?_
    refine u_iload_n (i := 3) (pc' := 67) dX11_isWhole_66 rfl rfl rfl ?_
    refine u_imul (pc' := 68) dX11_isWhole_67 rfl ?_
    refine u_aload_n (i := 0) (pc' := 69) dX11_isWhole_68 rfl rfl rfl ?_
    refine u_getR (a := 141) (pc' := 72) dX11_isWhole_69 rfl fl_TuneDoorModel_7 rfl (by decide) kd_140 rfl ?_
    refine u_iload (i := 4) (pc' := 74) dX11_isWhole_72 rfl rfl ?_
    obtain ⟨c7, c8, h⟩ := h
    refine u_iaload (k := x4.toNat) (z := (τ 141 x4.toNat)) (pc' := 75) dX11_isWhole_74 rfl (by decide) kd_141 c7 c8 (by decide) rfl rfl (fun r9 => ?_)
    refine u_iadd (pc' := 76) dX11_isWhole_75 rfl ?_
    refine u_sipush (pc' := 79) dX11_isWhole_76 rfl (by decide) ?_
    obtain ⟨c10, h⟩ := h
    refine u_irem (pc' := 80) dX11_isWhole_79 rfl c10 ⟨by decide, by decide⟩ (by decide) ?_
    refine s_istore_n (i := 3) (ls' := [some (vR 140), some (vI x1), some (vI x2), some (vI (Int.tmod ((7 * x3) + (τ 141 x4.toNat)) 241)), some (vI x4), none]) (pc' := 81) dX11_isWhole_80 rfl rfl (Nat.le_of_ble_eq_true rfl) rfl rfl ?_
    refine s_iinc (i := 4) (ls' := [some (vR 140), some (vI x1), some (vI x2), some (vI (Int.tmod ((7 * x3) + (τ 141 x4.toNat)) 241)), some (vI (x4 + 1)), none]) (pc' := 84) dX11_isWhole_81 rfl rfl (Nat.le_of_ble_eq_true rfl) rfl rfl ?_
    refine u_goto (tgt := 56) dX11_isWhole_84 (by decide) ?_
    exact u_less (ls' := [some (vR 140), some (vI x1), some (vI x2), some (vI (Int.tmod ((7 * x3) + (τ 141 x4.toNat)) 241)), some (vI (x4 + 1)), none]) ⟨rfl, ⟨rfl, ⟨rfl, ⟨rfl, ⟨rfl, trivial⟩⟩⟩⟩⟩ h
set_option maxRecDepth 20000 in
theorem bX11_isWhole_104 {E : mm_Env} {d : Nat} {τ : mm_Mem} {Q : mm_Q0} {x2 : Int} {x4 : Int} (h : 0 ≤ (τ 140 12) ∧ (τ 140 12) < 2 ∧ inR x4 ∧ (((τ 157 (τ 140 12).toNat) ≤ x4 → V0 E (d + 1) qX11_isWhole 143 [some (vR 140), none, some (vI x2), none, some (vI 0), none] [] τ Q) ∧ (¬ (τ 157 (τ 140 12).toNat) ≤ x4 → M0 E d qX11_two [vR 140, vI (2 * x4)] τ (fun v τ6 => ∃ r7 : Int, v = some (vI r7) ∧ inR r7 ∧ ((r7 ≤ 1000 → V0 E (d + 1) qX11_isWhole 104 [some (vR 140), none, some (vI x2), none, some (vI (x4 + 1)), none] [] τ6 Q) ∧ (¬ r7 ≤ 1000 → Q (some (vB false)) τ6)))))) : V0 E (d + 1) qX11_isWhole 104 [some (vR 140), none, some (vI x2), none, some (vI x4), none] [] τ Q := by
  refine u_iload (i := 4) (pc' := 106) dX11_isWhole_104 rfl rfl ?_
  refine u_aload_n (i := 0) (pc' := 107) dX11_isWhole_106 rfl rfl rfl ?_
  refine u_getR (a := 157) (pc' := 110) dX11_isWhole_107 rfl fl_TuneDoorModel_97 rfl (by decide) kd_140 rfl ?_
  refine u_aload_n (i := 0) (pc' := 111) dX11_isWhole_110 rfl rfl rfl ?_
  refine u_getI (z := (τ 140 12)) (pc' := 114) dX11_isWhole_111 rfl fl_TuneDoorModel_48 rfl (by decide) (by decide) kd_140 rfl (fun r1 => ?_)
  obtain ⟨c2, c3, h⟩ := h
  refine u_iaload (k := (τ 140 12).toNat) (z := (τ 157 (τ 140 12).toNat)) (pc' := 115) dX11_isWhole_114 rfl (by decide) kd_157 c2 c3 (by decide) rfl rfl (fun r4 => ?_)
  obtain ⟨c5, h⟩ := h
  refine u_icmp_ge (tgt := 140) (pc' := 118) dX11_isWhole_115 rfl (by decide) c5 r4 (fun hb => ?_) (fun hb => ?_)
  · have h := h.1 hb
    refine u_iconst (pc' := 141) dX11_isWhole_140 rfl ?_
    refine s_istore (i := 4) (ls' := [some (vR 140), none, some (vI x2), none, some (vI 0), none]) (pc' := 143) dX11_isWhole_141 rfl (Nat.le_of_ble_eq_true rfl) rfl rfl ?_
    exact u_less (ls' := [some (vR 140), none, some (vI x2), none, some (vI 0), none]) ⟨rfl, ⟨rfl, ⟨rfl, trivial⟩⟩⟩ h
  · have h := h.2 hb
    refine u_aload_n (i := 0) (pc' := 119) dX11_isWhole_118 rfl rfl rfl ?_
    refine u_iconst (pc' := 120) dX11_isWhole_119 rfl ?_
    refine u_iload (i := 4) (pc' := 122) dX11_isWhole_120 rfl rfl ?_
    refine u_imul (pc' := 123) dX11_isWhole_122 rfl ?_
    refine u_invV (q' := qX11_two) (As := [vI (2 * x4)]) (st := []) (pc' := 126) dX11_isWhole_123 rfl gX11_two wm_1982 rfl rfl (by decide) kd_140 wm_1984 wp_151 rfl (Nat.le_of_ble_eq_true rfl) (M0.mono h (fun v τ6 h => ?_))
    obtain ⟨r7, rfl, h⟩ := h
    show V0 E (d + 1) qX11_isWhole 126 [some (vR 140), none, some (vI x2), none, some (vI x4), none] [vI r7] τ6 Q
    refine u_sipush (pc' := 129) dX11_isWhole_126 rfl (by decide) ?_
    obtain ⟨c8, h⟩ := h
    refine u_icmp_le (tgt := 134) (pc' := 132) dX11_isWhole_129 rfl (by decide) c8 ⟨by decide, by decide⟩ (fun hb => ?_) (fun hb => ?_)
    · have h := h.1 hb
      refine s_iinc (i := 4) (ls' := [some (vR 140), none, some (vI x2), none, some (vI (x4 + 1)), none]) (pc' := 137) dX11_isWhole_134 rfl rfl (Nat.le_of_ble_eq_true rfl) rfl rfl ?_
      refine u_goto (tgt := 104) dX11_isWhole_137 (by decide) ?_
      exact u_less (ls' := [some (vR 140), none, some (vI x2), none, some (vI (x4 + 1)), none]) ⟨rfl, ⟨rfl, ⟨rfl, trivial⟩⟩⟩ h
    · have h := h.2 hb
      refine u_iconst (pc' := 133) dX11_isWhole_132 rfl ?_
      exact u_zret (b := false) dX11_isWhole_133 rfl rfl h
set_option maxRecDepth 20000 in
theorem bX11_isWhole_143 {E : mm_Env} {d : Nat} {τ : mm_Mem} {Q : mm_Q0} {x2 : Int} {x4 : Int} (h : 0 ≤ (τ 140 12) ∧ (τ 140 12) < 2 ∧ inR x4 ∧ (((τ 152 (τ 140 12).toNat) ≤ x4 → Q (some (vB true)) τ) ∧ (¬ (τ 152 (τ 140 12).toNat) ≤ x4 → V0 E (d + 1) qX11_isWhole 160 [some (vR 140), none, some (vI x2), none, some (vI x4), some (vI 0)] [] τ Q))) : V0 E (d + 1) qX11_isWhole 143 [some (vR 140), none, some (vI x2), none, some (vI x4), none] [] τ Q := by
  refine u_iload (i := 4) (pc' := 145) dX11_isWhole_143 rfl rfl ?_
  refine u_aload_n (i := 0) (pc' := 146) dX11_isWhole_145 rfl rfl rfl ?_
  refine u_getR (a := 152) (pc' := 149) dX11_isWhole_146 rfl fl_TuneDoorModel_82 rfl (by decide) kd_140 rfl ?_
  refine u_aload_n (i := 0) (pc' := 150) dX11_isWhole_149 rfl rfl rfl ?_
  refine u_getI (z := (τ 140 12)) (pc' := 153) dX11_isWhole_150 rfl fl_TuneDoorModel_48 rfl (by decide) (by decide) kd_140 rfl (fun r1 => ?_)
  obtain ⟨c2, c3, h⟩ := h
  refine u_iaload (k := (τ 140 12).toNat) (z := (τ 152 (τ 140 12).toNat)) (pc' := 154) dX11_isWhole_153 rfl (by decide) kd_152 c2 c3 (by decide) rfl rfl (fun r4 => ?_)
  obtain ⟨c5, h⟩ := h
  refine u_icmp_ge (tgt := 218) (pc' := 157) dX11_isWhole_154 rfl (by decide) c5 r4 (fun hb => ?_) (fun hb => ?_)
  · have h := h.1 hb
    refine u_iconst (pc' := 219) dX11_isWhole_218 rfl ?_
    exact u_zret (b := true) dX11_isWhole_219 rfl rfl h
  · have h := h.2 hb
    refine u_iconst (pc' := 158) dX11_isWhole_157 rfl ?_
    refine s_istore (i := 5) (ls' := [some (vR 140), none, some (vI x2), none, some (vI x4), some (vI 0)]) (pc' := 160) dX11_isWhole_158 rfl (Nat.le_of_ble_eq_true rfl) rfl rfl ?_
    exact u_less (ls' := [some (vR 140), none, some (vI x2), none, some (vI x4), some (vI 0)]) ⟨rfl, ⟨rfl, ⟨rfl, ⟨rfl, trivial⟩⟩⟩⟩ h
set_option maxRecDepth 20000 in
theorem bX11_isWhole_160 {E : mm_Env} {d : Nat} {τ : mm_Mem} {Q : mm_Q0} {x2 : Int} {x4 : Int} {x5 : Int} (h : 0 ≤ (τ 140 12) ∧ (τ 140 12) < 2 ∧ inR x5 ∧ (((τ 144 (τ 140 12).toNat) ≤ x5 → V0 E (d + 1) qX11_isWhole 143 [some (vR 140), none, some (vI x2), none, some (vI (x4 + 1)), none] [] τ Q) ∧ (¬ (τ 144 (τ 140 12).toNat) ≤ x5 → 0 ≤ (τ 140 12) ∧ (τ 140 12) < 2 ∧ M0 E d qX11_isEarAt [vR 140, vI (x2 + (5 * ((x4 * (τ 144 (τ 140 12).toNat)) + x5))), vI x4, vI x5] τ (fun v τ10 => ∃ b11 : Bool, v = some (vB b11) ∧ ((b11 = true → V0 E (d + 1) qX11_isWhole 160 [some (vR 140), none, some (vI x2), none, some (vI x4), some (vI (x5 + 1))] [] τ10 Q) ∧ (b11 = false → Q (some (vB false)) τ10)))))) : V0 E (d + 1) qX11_isWhole 160 [some (vR 140), none, some (vI x2), none, some (vI x4), some (vI x5)] [] τ Q := by
  refine u_iload (i := 5) (pc' := 162) dX11_isWhole_160 rfl rfl ?_
  refine u_aload_n (i := 0) (pc' := 163) dX11_isWhole_162 rfl rfl rfl ?_
  refine u_getR (a := 144) (pc' := 166) dX11_isWhole_163 rfl fl_TuneDoorModel_57 rfl (by decide) kd_140 rfl ?_
  refine u_aload_n (i := 0) (pc' := 167) dX11_isWhole_166 rfl rfl rfl ?_
  refine u_getI (z := (τ 140 12)) (pc' := 170) dX11_isWhole_167 rfl fl_TuneDoorModel_48 rfl (by decide) (by decide) kd_140 rfl (fun r1 => ?_)
  obtain ⟨c2, c3, h⟩ := h
  refine u_iaload (k := (τ 140 12).toNat) (z := (τ 144 (τ 140 12).toNat)) (pc' := 171) dX11_isWhole_170 rfl (by decide) kd_144 c2 c3 (by decide) rfl rfl (fun r4 => ?_)
  obtain ⟨c5, h⟩ := h
  refine u_icmp_ge (tgt := 212) (pc' := 174) dX11_isWhole_171 rfl (by decide) c5 r4 (fun hb => ?_) (fun hb => ?_)
  · have h := h.1 hb
    refine s_iinc (i := 4) (ls' := [some (vR 140), none, some (vI x2), none, some (vI (x4 + 1)), some (vI x5)]) (pc' := 215) dX11_isWhole_212 rfl rfl (Nat.le_of_ble_eq_true rfl) rfl rfl ?_
    refine u_goto (tgt := 143) dX11_isWhole_215 (by decide) ?_
    exact u_less (ls' := [some (vR 140), none, some (vI x2), none, some (vI (x4 + 1)), none]) ⟨rfl, ⟨rfl, ⟨rfl, trivial⟩⟩⟩ h
  · have h := h.2 hb
    refine u_aload_n (i := 0) (pc' := 175) dX11_isWhole_174 rfl rfl rfl ?_
    refine u_iload_n (i := 2) (pc' := 176) dX11_isWhole_175 rfl rfl rfl ?_
    refine u_iconst (pc' := 177) dX11_isWhole_176 rfl ?_
    refine u_iload (i := 4) (pc' := 179) dX11_isWhole_177 rfl rfl ?_
    refine u_aload_n (i := 0) (pc' := 180) dX11_isWhole_179 rfl rfl rfl ?_
    refine u_getR (a := 144) (pc' := 183) dX11_isWhole_180 rfl fl_TuneDoorModel_57 rfl (by decide) kd_140 rfl ?_
    refine u_aload_n (i := 0) (pc' := 184) dX11_isWhole_183 rfl rfl rfl ?_
    refine u_getI (z := (τ 140 12)) (pc' := 187) dX11_isWhole_184 rfl fl_TuneDoorModel_48 rfl (by decide) (by decide) kd_140 rfl (fun r6 => ?_)
    obtain ⟨c7, c8, h⟩ := h
    refine u_iaload (k := (τ 140 12).toNat) (z := (τ 144 (τ 140 12).toNat)) (pc' := 188) dX11_isWhole_187 rfl (by decide) kd_144 c7 c8 (by decide) rfl rfl (fun r9 => ?_)
    refine u_imul (pc' := 189) dX11_isWhole_188 rfl ?_
    refine u_iload (i := 5) (pc' := 191) dX11_isWhole_189 rfl rfl ?_
    refine u_iadd (pc' := 192) dX11_isWhole_191 rfl ?_
    refine u_imul (pc' := 193) dX11_isWhole_192 rfl ?_
    refine u_iadd (pc' := 194) dX11_isWhole_193 rfl ?_
    refine u_iload (i := 4) (pc' := 196) dX11_isWhole_194 rfl rfl ?_
    refine u_iload (i := 5) (pc' := 198) dX11_isWhole_196 rfl rfl ?_
    refine u_invV (q' := qX11_isEarAt) (As := [vI (x2 + (5 * ((x4 * (τ 144 (τ 140 12).toNat)) + x5))), vI x4, vI x5]) (st := []) (pc' := 201) dX11_isWhole_198 rfl gX11_isEarAt wm_1986 rfl rfl (by decide) kd_140 wm_1988 wp_152 rfl (Nat.le_of_ble_eq_true rfl) (M0.mono h (fun v τ10 h => ?_))
    obtain ⟨b11, rfl, h⟩ := h
    show V0 E (d + 1) qX11_isWhole 201 [some (vR 140), none, some (vI x2), none, some (vI x4), some (vI x5)] [vB b11] τ10 Q
    refine u_if_ne (tgt := 206) (pc' := 204) dX11_isWhole_201 rfl (by decide) (bI_R _) (fun hb => ?_) (fun hb => ?_)
    · have h := h.1 (bI_n0.mp hb)
      refine s_iinc (i := 5) (ls' := [some (vR 140), none, some (vI x2), none, some (vI x4), some (vI (x5 + 1))]) (pc' := 209) dX11_isWhole_206 rfl rfl (Nat.le_of_ble_eq_true rfl) rfl rfl ?_
      refine u_goto (tgt := 160) dX11_isWhole_209 (by decide) ?_
      exact u_less (ls' := [some (vR 140), none, some (vI x2), none, some (vI x4), some (vI (x5 + 1))]) ⟨rfl, ⟨rfl, ⟨rfl, ⟨rfl, trivial⟩⟩⟩⟩ h
    · have h := h.2 (bI_0.mp hb)
      refine u_iconst (pc' := 205) dX11_isWhole_204 rfl ?_
      exact u_zret (b := false) dX11_isWhole_205 rfl rfl h
set_option maxRecDepth 20000 in
theorem bX11_hasNotes_0 {E : mm_Env} {d : Nat} {τ : mm_Mem} {Q : mm_Q0}  (h : 0 ≤ (τ 140 12) ∧ (τ 140 12) < 2 ∧ (((τ 142 (τ 140 12).toNat) ≤ 0 → Q (some (vB false)) τ) ∧ (¬ (τ 142 (τ 140 12).toNat) ≤ 0 → Q (some (vB true)) τ))) : V0 E d qX11_hasNotes 0 [some (vR 140)] [] τ Q := by
  refine u_aload_n (i := 0) (pc' := 1) dX11_hasNotes_0 rfl rfl rfl ?_
  refine u_getR (a := 142) (pc' := 4) dX11_hasNotes_1 rfl fl_TuneDoorModel_51 rfl (by decide) kd_140 rfl ?_
  refine u_aload_n (i := 0) (pc' := 5) dX11_hasNotes_4 rfl rfl rfl ?_
  refine u_getI (z := (τ 140 12)) (pc' := 8) dX11_hasNotes_5 rfl fl_TuneDoorModel_48 rfl (by decide) (by decide) kd_140 rfl (fun r1 => ?_)
  obtain ⟨c2, c3, h⟩ := h
  refine u_iaload (k := (τ 140 12).toNat) (z := (τ 142 (τ 140 12).toNat)) (pc' := 9) dX11_hasNotes_8 rfl (by decide) kd_142 c2 c3 (by decide) rfl rfl (fun r4 => ?_)
  refine u_if_le (tgt := 16) (pc' := 12) dX11_hasNotes_9 rfl (by decide) r4 (fun hb => ?_) (fun hb => ?_)
  · have h := h.1 hb
    refine u_iconst (pc' := 17) dX11_hasNotes_16 rfl ?_
    exact u_zret (b := false) dX11_hasNotes_17 rfl rfl h
  · have h := h.2 hb
    refine u_iconst (pc' := 13) dX11_hasNotes_12 rfl ?_
    refine u_goto (tgt := 17) dX11_hasNotes_13 (by decide) ?_
    exact u_zret (b := true) dX11_hasNotes_17 rfl rfl h
theorem mX11_hasNotes {E : mm_Env} {d : Nat} {τ : mm_Mem} {Q : mm_Q0}  (h : 0 ≤ (τ 140 12) ∧ (τ 140 12) < 2 ∧ (((τ 142 (τ 140 12).toNat) ≤ 0 → Q (some (vB false)) τ) ∧ (¬ (τ 142 (τ 140 12).toNat) ≤ 0 → Q (some (vB true)) τ))) : M0 E d qX11_hasNotes [vR 140] τ Q := M0_of rfl (Nat.le_of_ble_eq_true rfl) [some (vR 140)] rfl (bX11_hasNotes_0  h)
set_option maxRecDepth 20000 in
theorem bX11_two_0 {E : mm_Env} {d : Nat} {τ : mm_Mem} {Q : mm_Q0} {a0 : Int} (h : 0 ≤ a0 ∧ a0 < 1800 ∧ 0 ≤ (a0 + 1) ∧ (a0 + 1) < 1800 ∧ Q (some (vI ((256 * (τ 141 a0.toNat)) + (τ 141 (a0 + 1).toNat)))) τ) : V0 E d qX11_two 0 [some (vR 140), some (vI a0)] [] τ Q := by
  refine u_sipush (pc' := 3) dX11_two_0 rfl (by decide) ?_
  refine u_aload_n (i := 0) (pc' := 4) dX11_two_3 rfl rfl rfl ?_
  refine u_getR (a := 141) (pc' := 7) dX11_two_4 rfl fl_TuneDoorModel_7 rfl (by decide) kd_140 rfl ?_
  refine u_iload_n (i := 1) (pc' := 8) dX11_two_7 rfl rfl rfl ?_
  obtain ⟨c1, c2, h⟩ := h
  refine u_iaload (k := a0.toNat) (z := (τ 141 a0.toNat)) (pc' := 9) dX11_two_8 rfl (by decide) kd_141 c1 c2 (by decide) rfl rfl (fun r3 => ?_)
  refine u_imul (pc' := 10) dX11_two_9 rfl ?_
  refine u_aload_n (i := 0) (pc' := 11) dX11_two_10 rfl rfl rfl ?_
  refine u_getR (a := 141) (pc' := 14) dX11_two_11 rfl fl_TuneDoorModel_7 rfl (by decide) kd_140 rfl ?_
  refine u_iload_n (i := 1) (pc' := 15) dX11_two_14 rfl rfl rfl ?_
  refine u_iconst (pc' := 16) dX11_two_15 rfl ?_
  refine u_iadd (pc' := 17) dX11_two_16 rfl ?_
  obtain ⟨c4, c5, h⟩ := h
  refine u_iaload (k := (a0 + 1).toNat) (z := (τ 141 (a0 + 1).toNat)) (pc' := 18) dX11_two_17 rfl (by decide) kd_141 c4 c5 (by decide) rfl rfl (fun r6 => ?_)
  refine u_iadd (pc' := 19) dX11_two_18 rfl ?_
  exact u_iret dX11_two_19 rfl h
theorem mX11_two {E : mm_Env} {d : Nat} {τ : mm_Mem} {Q : mm_Q0} {a0 : Int} (h : 0 ≤ a0 ∧ a0 < 1800 ∧ 0 ≤ (a0 + 1) ∧ (a0 + 1) < 1800 ∧ Q (some (vI ((256 * (τ 141 a0.toNat)) + (τ 141 (a0 + 1).toNat)))) τ) : M0 E d qX11_two [vR 140, vI a0] τ Q := M0_of rfl (Nat.le_of_ble_eq_true rfl) [some (vR 140), some (vI a0)] rfl (bX11_two_0  h)
set_option maxRecDepth 20000 in
theorem bX11_isEarAt_0 {E : mm_Env} {d : Nat} {τ : mm_Mem} {Q : mm_Q0} {a0 : Int} {a1 : Int} {a2 : Int} (h : M0 E d qX11_isEar [vR 140, vI a1, vI a2] τ (fun v τ1 => ∃ b2 : Bool, v = some (vB b2) ∧ ((b2 = true → M0 E d qX11_two [vR 140, vI a0] τ1 (fun v τ3 => ∃ r4 : Int, v = some (vI r4) ∧ inR r4 ∧ ((1000 < r4 → Q (some (vB false)) τ3) ∧ (¬ 1000 < r4 → M0 E d qX11_door4 [vR 140, vI a1] τ3 (fun v τ6 => ∃ r7 : Int, v = some (vI r7) ∧ 0 ≤ r7 ∧ r7 < 8 ∧ (((τ6 154 r7.toNat) ≠ 2 → M0 E d qX11_two [vR 140, vI (a0 + 2)] τ6 (fun v τ11 => ∃ r12 : Int, v = some (vI r12) ∧ inR r12 ∧ ((r12 ≠ 0 → Q (some (vB false)) τ11) ∧ (r12 = 0 → Q (some (vB true)) τ11)))) ∧ ((τ6 154 r7.toNat) = 2 → M0 E d qX11_two [vR 140, vI (a0 + 2)] τ6 (fun v τ14 => ∃ r15 : Int, v = some (vI r15) ∧ inR r15 ∧ ((1000 < r15 → Q (some (vB false)) τ14) ∧ (¬ 1000 < r15 → Q (some (vB true)) τ14)))))))))) ∧ (b2 = false → M0 E d qX11_two [vR 140, vI a0] τ1 (fun v τ17 => ∃ r18 : Int, v = some (vI r18) ∧ inR r18 ∧ ((r18 ≠ 0 → Q (some (vB false)) τ17) ∧ (r18 = 0 → M0 E d qX11_two [vR 140, vI (a0 + 2)] τ17 (fun v τ20 => ∃ r21 : Int, v = some (vI r21) ∧ inR r21 ∧ ((r21 ≠ 0 → Q (some (vB false)) τ20) ∧ (r21 = 0 → 0 ≤ (a0 + 4) ∧ (a0 + 4) < 1800 ∧ (((τ20 141 (a0 + 4).toNat) ≠ 0 → Q (some (vB false)) τ20) ∧ ((τ20 141 (a0 + 4).toNat) = 0 → Q (some (vB true)) τ20)))))))))))) : V0 E (d + 1) qX11_isEarAt 0 [some (vR 140), some (vI a0), some (vI a1), some (vI a2)] [] τ Q := by
  refine u_aload_n (i := 0) (pc' := 1) dX11_isEarAt_0 rfl rfl rfl ?_
  refine u_iload_n (i := 2) (pc' := 2) dX11_isEarAt_1 rfl rfl rfl ?_
  refine u_iload_n (i := 3) (pc' := 3) dX11_isEarAt_2 rfl rfl rfl ?_
  refine u_invV (q' := qX11_isEar) (As := [vI a1, vI a2]) (st := []) (pc' := 6) dX11_isEarAt_3 rfl gX11_isEar wm_1688 rfl rfl (by decide) kd_140 wm_1690 wp_110 rfl (Nat.le_of_ble_eq_true rfl) (M0.mono h (fun v τ1 h => ?_))
  obtain ⟨b2, rfl, h⟩ := h
  show V0 E (d + 1) qX11_isEarAt 6 [some (vR 140), some (vI a0), some (vI a1), some (vI a2)] [vB b2] τ1 Q
  refine u_if_ne (tgt := 44) (pc' := 9) dX11_isEarAt_6 rfl (by decide) (bI_R _) (fun hb => ?_) (fun hb => ?_)
  · have h := h.1 (bI_n0.mp hb)
    refine u_aload_n (i := 0) (pc' := 45) dX11_isEarAt_44 rfl rfl rfl ?_
    refine u_iload_n (i := 1) (pc' := 46) dX11_isEarAt_45 rfl rfl rfl ?_
    refine u_invV (q' := qX11_two) (As := [vI a0]) (st := []) (pc' := 49) dX11_isEarAt_46 rfl gX11_two wm_1982 rfl rfl (by decide) kd_140 wm_1984 wp_151 rfl (Nat.le_of_ble_eq_true rfl) (M0.mono h (fun v τ3 h => ?_))
    obtain ⟨r4, rfl, h⟩ := h
    show V0 E (d + 1) qX11_isEarAt 49 [some (vR 140), some (vI a0), some (vI a1), some (vI a2)] [vI r4] τ3 Q
    refine u_sipush (pc' := 52) dX11_isEarAt_49 rfl (by decide) ?_
    obtain ⟨c5, h⟩ := h
    refine u_icmp_gt (tgt := 99) (pc' := 55) dX11_isEarAt_52 rfl (by decide) c5 ⟨by decide, by decide⟩ (fun hb => ?_) (fun hb => ?_)
    · have h := h.1 hb
      refine u_iconst (pc' := 100) dX11_isEarAt_99 rfl ?_
      exact u_zret (b := false) dX11_isEarAt_100 rfl rfl h
    · have h := h.2 hb
      refine u_aload_n (i := 0) (pc' := 56) dX11_isEarAt_55 rfl rfl rfl ?_
      refine u_getR (a := 154) (pc' := 59) dX11_isEarAt_56 rfl fl_TuneDoorModel_88 rfl (by decide) kd_140 rfl ?_
      refine u_aload_n (i := 0) (pc' := 60) dX11_isEarAt_59 rfl rfl rfl ?_
      refine u_iload_n (i := 2) (pc' := 61) dX11_isEarAt_60 rfl rfl rfl ?_
      refine u_invV (q' := qX11_door4) (As := [vI a1]) (st := [vR 154]) (pc' := 64) dX11_isEarAt_61 rfl gX11_door4 wm_1696 rfl rfl (by decide) kd_140 wm_1698 wp_112 rfl (Nat.le_of_ble_eq_true rfl) (M0.mono h (fun v τ6 h => ?_))
      obtain ⟨r7, rfl, h⟩ := h
      show V0 E (d + 1) qX11_isEarAt 64 [some (vR 140), some (vI a0), some (vI a1), some (vI a2)] [vI r7, vR 154] τ6 Q
      obtain ⟨c8, c9, h⟩ := h
      refine u_iaload (k := r7.toNat) (z := (τ6 154 r7.toNat)) (pc' := 65) dX11_isEarAt_64 rfl (by decide) kd_154 c8 c9 (by decide) rfl rfl (fun r10 => ?_)
      refine u_iconst (pc' := 66) dX11_isEarAt_65 rfl ?_
      refine u_icmp_ne (tgt := 85) (pc' := 69) dX11_isEarAt_66 rfl (by decide) r10 ⟨by decide, by decide⟩ (fun hb => ?_) (fun hb => ?_)
      · have h := h.1 hb
        refine u_aload_n (i := 0) (pc' := 86) dX11_isEarAt_85 rfl rfl rfl ?_
        refine u_iload_n (i := 1) (pc' := 87) dX11_isEarAt_86 rfl rfl rfl ?_
        refine u_iconst (pc' := 88) dX11_isEarAt_87 rfl ?_
        refine u_iadd (pc' := 89) dX11_isEarAt_88 rfl ?_
        refine u_invV (q' := qX11_two) (As := [vI (a0 + 2)]) (st := []) (pc' := 92) dX11_isEarAt_89 rfl gX11_two wm_1982 rfl rfl (by decide) kd_140 wm_1984 wp_151 rfl (Nat.le_of_ble_eq_true rfl) (M0.mono h (fun v τ11 h => ?_))
        obtain ⟨r12, rfl, h⟩ := h
        show V0 E (d + 1) qX11_isEarAt 92 [some (vR 140), some (vI a0), some (vI a1), some (vI a2)] [vI r12] τ11 Q
        obtain ⟨c13, h⟩ := h
        refine u_if_ne (tgt := 99) (pc' := 95) dX11_isEarAt_92 rfl (by decide) c13 (fun hb => ?_) (fun hb => ?_)
        · have h := h.1 hb
          refine u_iconst (pc' := 100) dX11_isEarAt_99 rfl ?_
          exact u_zret (b := false) dX11_isEarAt_100 rfl rfl h
        · have h := h.2 hb
          refine u_iconst (pc' := 96) dX11_isEarAt_95 rfl ?_
          refine u_goto (tgt := 100) dX11_isEarAt_96 (by decide) ?_
          exact u_zret (b := true) dX11_isEarAt_100 rfl rfl h
      · have h := h.2 hb
        refine u_aload_n (i := 0) (pc' := 70) dX11_isEarAt_69 rfl rfl rfl ?_
        refine u_iload_n (i := 1) (pc' := 71) dX11_isEarAt_70 rfl rfl rfl ?_
        refine u_iconst (pc' := 72) dX11_isEarAt_71 rfl ?_
        refine u_iadd (pc' := 73) dX11_isEarAt_72 rfl ?_
        refine u_invV (q' := qX11_two) (As := [vI (a0 + 2)]) (st := []) (pc' := 76) dX11_isEarAt_73 rfl gX11_two wm_1982 rfl rfl (by decide) kd_140 wm_1984 wp_151 rfl (Nat.le_of_ble_eq_true rfl) (M0.mono h (fun v τ14 h => ?_))
        obtain ⟨r15, rfl, h⟩ := h
        show V0 E (d + 1) qX11_isEarAt 76 [some (vR 140), some (vI a0), some (vI a1), some (vI a2)] [vI r15] τ14 Q
        refine u_sipush (pc' := 79) dX11_isEarAt_76 rfl (by decide) ?_
        obtain ⟨c16, h⟩ := h
        refine u_icmp_gt (tgt := 99) (pc' := 82) dX11_isEarAt_79 rfl (by decide) c16 ⟨by decide, by decide⟩ (fun hb => ?_) (fun hb => ?_)
        · have h := h.1 hb
          refine u_iconst (pc' := 100) dX11_isEarAt_99 rfl ?_
          exact u_zret (b := false) dX11_isEarAt_100 rfl rfl h
        · have h := h.2 hb
          refine u_goto (tgt := 95) dX11_isEarAt_82 (by decide) ?_
          refine u_iconst (pc' := 96) dX11_isEarAt_95 rfl ?_
          refine u_goto (tgt := 100) dX11_isEarAt_96 (by decide) ?_
          exact u_zret (b := true) dX11_isEarAt_100 rfl rfl h
  · have h := h.2 (bI_0.mp hb)
    refine u_aload_n (i := 0) (pc' := 10) dX11_isEarAt_9 rfl rfl rfl ?_
    refine u_iload_n (i := 1) (pc' := 11) dX11_isEarAt_10 rfl rfl rfl ?_
    refine u_invV (q' := qX11_two) (As := [vI a0]) (st := []) (pc' := 14) dX11_isEarAt_11 rfl gX11_two wm_1982 rfl rfl (by decide) kd_140 wm_1984 wp_151 rfl (Nat.le_of_ble_eq_true rfl) (M0.mono h (fun v τ17 h => ?_))
    obtain ⟨r18, rfl, h⟩ := h
    show V0 E (d + 1) qX11_isEarAt 14 [some (vR 140), some (vI a0), some (vI a1), some (vI a2)] [vI r18] τ17 Q
    obtain ⟨c19, h⟩ := h
    refine u_if_ne (tgt := 42) (pc' := 17) dX11_isEarAt_14 rfl (by decide) c19 (fun hb => ?_) (fun hb => ?_)
    · have h := h.1 hb
      refine u_iconst (pc' := 43) dX11_isEarAt_42 rfl ?_
      exact u_zret (b := false) dX11_isEarAt_43 rfl rfl h
    · have h := h.2 hb
      refine u_aload_n (i := 0) (pc' := 18) dX11_isEarAt_17 rfl rfl rfl ?_
      refine u_iload_n (i := 1) (pc' := 19) dX11_isEarAt_18 rfl rfl rfl ?_
      refine u_iconst (pc' := 20) dX11_isEarAt_19 rfl ?_
      refine u_iadd (pc' := 21) dX11_isEarAt_20 rfl ?_
      refine u_invV (q' := qX11_two) (As := [vI (a0 + 2)]) (st := []) (pc' := 24) dX11_isEarAt_21 rfl gX11_two wm_1982 rfl rfl (by decide) kd_140 wm_1984 wp_151 rfl (Nat.le_of_ble_eq_true rfl) (M0.mono h (fun v τ20 h => ?_))
      obtain ⟨r21, rfl, h⟩ := h
      show V0 E (d + 1) qX11_isEarAt 24 [some (vR 140), some (vI a0), some (vI a1), some (vI a2)] [vI r21] τ20 Q
      obtain ⟨c22, h⟩ := h
      refine u_if_ne (tgt := 42) (pc' := 27) dX11_isEarAt_24 rfl (by decide) c22 (fun hb => ?_) (fun hb => ?_)
      · have h := h.1 hb
        refine u_iconst (pc' := 43) dX11_isEarAt_42 rfl ?_
        exact u_zret (b := false) dX11_isEarAt_43 rfl rfl h
      · have h := h.2 hb
        refine u_aload_n (i := 0) (pc' := 28) dX11_isEarAt_27 rfl rfl rfl ?_
        refine u_getR (a := 141) (pc' := 31) dX11_isEarAt_28 rfl fl_TuneDoorModel_7 rfl (by decide) kd_140 rfl ?_
        refine u_iload_n (i := 1) (pc' := 32) dX11_isEarAt_31 rfl rfl rfl ?_
        refine u_iconst (pc' := 33) dX11_isEarAt_32 rfl ?_
        refine u_iadd (pc' := 34) dX11_isEarAt_33 rfl ?_
        obtain ⟨c23, c24, h⟩ := h
        refine u_iaload (k := (a0 + 4).toNat) (z := (τ20 141 (a0 + 4).toNat)) (pc' := 35) dX11_isEarAt_34 rfl (by decide) kd_141 c23 c24 (by decide) rfl rfl (fun r25 => ?_)
        refine u_if_ne (tgt := 42) (pc' := 38) dX11_isEarAt_35 rfl (by decide) r25 (fun hb => ?_) (fun hb => ?_)
        · have h := h.1 hb
          refine u_iconst (pc' := 43) dX11_isEarAt_42 rfl ?_
          exact u_zret (b := false) dX11_isEarAt_43 rfl rfl h
        · have h := h.2 hb
          refine u_iconst (pc' := 39) dX11_isEarAt_38 rfl ?_
          refine u_goto (tgt := 43) dX11_isEarAt_39 (by decide) ?_
          exact u_zret (b := true) dX11_isEarAt_43 rfl rfl h
theorem mX11_isEarAt {E : mm_Env} {d : Nat} {τ : mm_Mem} {Q : mm_Q0} {a0 : Int} {a1 : Int} {a2 : Int} (h : M0 E d qX11_isEar [vR 140, vI a1, vI a2] τ (fun v τ1 => ∃ b2 : Bool, v = some (vB b2) ∧ ((b2 = true → M0 E d qX11_two [vR 140, vI a0] τ1 (fun v τ3 => ∃ r4 : Int, v = some (vI r4) ∧ inR r4 ∧ ((1000 < r4 → Q (some (vB false)) τ3) ∧ (¬ 1000 < r4 → M0 E d qX11_door4 [vR 140, vI a1] τ3 (fun v τ6 => ∃ r7 : Int, v = some (vI r7) ∧ 0 ≤ r7 ∧ r7 < 8 ∧ (((τ6 154 r7.toNat) ≠ 2 → M0 E d qX11_two [vR 140, vI (a0 + 2)] τ6 (fun v τ11 => ∃ r12 : Int, v = some (vI r12) ∧ inR r12 ∧ ((r12 ≠ 0 → Q (some (vB false)) τ11) ∧ (r12 = 0 → Q (some (vB true)) τ11)))) ∧ ((τ6 154 r7.toNat) = 2 → M0 E d qX11_two [vR 140, vI (a0 + 2)] τ6 (fun v τ14 => ∃ r15 : Int, v = some (vI r15) ∧ inR r15 ∧ ((1000 < r15 → Q (some (vB false)) τ14) ∧ (¬ 1000 < r15 → Q (some (vB true)) τ14)))))))))) ∧ (b2 = false → M0 E d qX11_two [vR 140, vI a0] τ1 (fun v τ17 => ∃ r18 : Int, v = some (vI r18) ∧ inR r18 ∧ ((r18 ≠ 0 → Q (some (vB false)) τ17) ∧ (r18 = 0 → M0 E d qX11_two [vR 140, vI (a0 + 2)] τ17 (fun v τ20 => ∃ r21 : Int, v = some (vI r21) ∧ inR r21 ∧ ((r21 ≠ 0 → Q (some (vB false)) τ20) ∧ (r21 = 0 → 0 ≤ (a0 + 4) ∧ (a0 + 4) < 1800 ∧ (((τ20 141 (a0 + 4).toNat) ≠ 0 → Q (some (vB false)) τ20) ∧ ((τ20 141 (a0 + 4).toNat) = 0 → Q (some (vB true)) τ20)))))))))))) : M0 E (d + 1) qX11_isEarAt [vR 140, vI a0, vI a1, vI a2] τ Q := M0_of rfl (Nat.le_of_ble_eq_true rfl) [some (vR 140), some (vI a0), some (vI a1), some (vI a2)] rfl (bX11_isEarAt_0  h)
