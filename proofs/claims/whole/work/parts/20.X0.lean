set_option maxRecDepth 20000 in
theorem bX0_begin_0 {E : mm_Env} {d : Nat} {τ : mm_Mem} {Q : mm_Q0} {ths : Nat} {a0 : Int} (k_ths : KD ths = some (.inr 0)) (h : inR a0 ∧ M0 E d qJ7_fill_53178 [vR (ths + 1), vI 0] (wr (wr (wr (wr (wr (wr (wr (wr τ ths 0 a0) ths 1 0) ths 2 0) ths 3 0) ths 4 0) ths 5 (-1)) ths 6 0) ths 7 0) (fun v τ2 => v = none ∧ M0 E d qJ7_fill_53178 [vR (ths + 2), vI (-1)] τ2 (fun v τ3 => v = none ∧ M0 E d qJ7_fill_53178 [vR (ths + 3), vI 0] τ3 (fun v τ4 => v = none ∧ Q none τ4)))) : V0 E (d + 1) qX0_begin 0 [some (vR ths), some (vI a0)] [] τ Q := by
  refine u_aload_n (i := 0) (pc' := 1) dX0_begin_0 rfl rfl rfl ?_
  refine u_iload_n (i := 1) (pc' := 2) dX0_begin_1 rfl rfl rfl ?_
  obtain ⟨c1, h⟩ := h
  refine u_putI (pc' := 5) dX0_begin_2 rfl fl_TuneDoor_Door_21 rfl rfl (by decide) (kDoor k_ths).1 k_ths c1 ?_
  refine u_aload_n (i := 0) (pc' := 6) dX0_begin_5 rfl rfl rfl ?_
  refine u_iconst (pc' := 7) dX0_begin_6 rfl ?_
  refine u_putI (pc' := 10) dX0_begin_7 rfl fl_TuneDoor_Door_25 rfl rfl (by decide) (kDoor k_ths).1 k_ths ⟨by decide, by decide⟩ ?_
  refine u_aload_n (i := 0) (pc' := 11) dX0_begin_10 rfl rfl rfl ?_
  refine u_iconst (pc' := 12) dX0_begin_11 rfl ?_
  refine u_putI (pc' := 15) dX0_begin_12 rfl fl_TuneDoor_Door_28 rfl rfl (by decide) (kDoor k_ths).1 k_ths ⟨by decide, by decide⟩ ?_
  refine u_aload_n (i := 0) (pc' := 16) dX0_begin_15 rfl rfl rfl ?_
  refine u_iconst (pc' := 17) dX0_begin_16 rfl ?_
  refine u_putI (pc' := 20) dX0_begin_17 rfl fl_TuneDoor_Door_31 rfl rfl (by decide) (kDoor k_ths).1 k_ths ⟨by decide, by decide⟩ ?_
  refine u_aload_n (i := 0) (pc' := 21) dX0_begin_20 rfl rfl rfl ?_
  refine u_iconst (pc' := 22) dX0_begin_21 rfl ?_
  refine u_putI (pc' := 25) dX0_begin_22 rfl fl_TuneDoor_Door_34 rfl rfl (by decide) (kDoor k_ths).1 k_ths ⟨by decide, by decide⟩ ?_
  refine u_aload_n (i := 0) (pc' := 26) dX0_begin_25 rfl rfl rfl ?_
  refine u_iconst (pc' := 27) dX0_begin_26 rfl ?_
  refine u_putI (pc' := 30) dX0_begin_27 rfl fl_TuneDoor_Door_37 rfl rfl (by decide) (kDoor k_ths).1 k_ths ⟨by decide, by decide⟩ ?_
  refine u_aload_n (i := 0) (pc' := 31) dX0_begin_30 rfl rfl rfl ?_
  refine u_iconst (pc' := 32) dX0_begin_31 rfl ?_
  refine u_putI (pc' := 35) dX0_begin_32 rfl fl_TuneDoor_Door_40 rfl rfl (by decide) (kDoor k_ths).1 k_ths ⟨by decide, by decide⟩ ?_
  refine u_aload_n (i := 0) (pc' := 36) dX0_begin_35 rfl rfl rfl ?_
  refine u_iconst (pc' := 37) dX0_begin_36 rfl ?_
  refine u_putI (pc' := 40) dX0_begin_37 rfl fl_TuneDoor_Door_43 rfl rfl (by decide) (kDoor k_ths).1 k_ths ⟨by decide, by decide⟩ ?_
  refine u_aload_n (i := 0) (pc' := 41) dX0_begin_40 rfl rfl rfl ?_
  refine u_getR (a := (ths + 1)) (pc' := 44) dX0_begin_41 rfl fl_TuneDoor_Door_9 rfl (kDoor k_ths).1 k_ths (kDoor k_ths).2.1 ?_
  refine u_iconst (pc' := 45) dX0_begin_44 rfl ?_
  refine u_invS (q' := qJ7_fill_53178) (As := [vR (ths + 1), vI 0]) (st := []) (pc' := 48) dX0_begin_45 rfl gJ7_fill_53178 wm_712 wm_567 rfl (Nat.le_of_ble_eq_true rfl) (M0.mono h (fun v τ2 h => ?_))
  obtain ⟨rfl, h⟩ := h
  show V0 E (d + 1) qX0_begin 48 [some (vR ths), some (vI a0)] [] τ2 Q
  refine u_aload_n (i := 0) (pc' := 49) dX0_begin_48 rfl rfl rfl ?_
  refine u_getR (a := (ths + 2)) (pc' := 52) dX0_begin_49 rfl fl_TuneDoor_Door_15 rfl (kDoor k_ths).1 k_ths (kDoor k_ths).2.2.1 ?_
  refine u_iconst (pc' := 53) dX0_begin_52 rfl ?_
  refine u_invS (q' := qJ7_fill_53178) (As := [vR (ths + 2), vI (-1)]) (st := []) (pc' := 56) dX0_begin_53 rfl gJ7_fill_53178 wm_712 wm_567 rfl (Nat.le_of_ble_eq_true rfl) (M0.mono h (fun v τ3 h => ?_))
  obtain ⟨rfl, h⟩ := h
  show V0 E (d + 1) qX0_begin 56 [some (vR ths), some (vI a0)] [] τ3 Q
  refine u_aload_n (i := 0) (pc' := 57) dX0_begin_56 rfl rfl rfl ?_
  refine u_getR (a := (ths + 3)) (pc' := 60) dX0_begin_57 rfl fl_TuneDoor_Door_18 rfl (kDoor k_ths).1 k_ths (kDoor k_ths).2.2.2.1 ?_
  refine u_iconst (pc' := 61) dX0_begin_60 rfl ?_
  refine u_invS (q' := qJ7_fill_53178) (As := [vR (ths + 3), vI 0]) (st := []) (pc' := 64) dX0_begin_61 rfl gJ7_fill_53178 wm_712 wm_567 rfl (Nat.le_of_ble_eq_true rfl) (M0.mono h (fun v τ4 h => ?_))
  obtain ⟨rfl, h⟩ := h
  show V0 E (d + 1) qX0_begin 64 [some (vR ths), some (vI a0)] [] τ4 Q
  exact u_ret dX0_begin_64 rfl h
theorem mX0_begin {E : mm_Env} {d : Nat} {τ : mm_Mem} {Q : mm_Q0} {ths : Nat} {a0 : Int} (k_ths : KD ths = some (.inr 0)) (h : inR a0 ∧ M0 E d qJ7_fill_53178 [vR (ths + 1), vI 0] (wr (wr (wr (wr (wr (wr (wr (wr τ ths 0 a0) ths 1 0) ths 2 0) ths 3 0) ths 4 0) ths 5 (-1)) ths 6 0) ths 7 0) (fun v τ2 => v = none ∧ M0 E d qJ7_fill_53178 [vR (ths + 2), vI (-1)] τ2 (fun v τ3 => v = none ∧ M0 E d qJ7_fill_53178 [vR (ths + 3), vI 0] τ3 (fun v τ4 => v = none ∧ Q none τ4)))) : M0 E (d + 1) qX0_begin [vR ths, vI a0] τ Q := M0_of rfl (Nat.le_of_ble_eq_true rfl) [some (vR ths), some (vI a0)] rfl (bX0_begin_0 k_ths h)
set_option maxRecDepth 20000 in
theorem bX0_hasEar_0 {E : mm_Env} {d : Nat} {τ : mm_Mem} {Q : mm_Q0} {ths : Nat} {a0 : Int} (k_ths : KD ths = some (.inr 0)) (h : inR a0 ∧ ((a0 < 0 → Q (some (vB false)) τ) ∧ (¬ a0 < 0 → ((3 ≤ a0 → Q (some (vB false)) τ) ∧ (¬ 3 ≤ a0 → inR (mm_and (mm_shr (τ ths 4) a0) 1) ∧ (((mm_and (mm_shr (τ ths 4) a0) 1) ≠ 1 → Q (some (vB false)) τ) ∧ ((mm_and (mm_shr (τ ths 4) a0) 1) = 1 → Q (some (vB true)) τ))))))) : V0 E d qX0_hasEar 0 [some (vR ths), some (vI a0)] [] τ Q := by
  refine u_iload_n (i := 1) (pc' := 1) dX0_hasEar_0 rfl rfl rfl ?_
  obtain ⟨c1, h⟩ := h
  refine u_if_lt (tgt := 25) (pc' := 4) dX0_hasEar_1 rfl (by decide) c1 (fun hb => ?_) (fun hb => ?_)
  · have h := h.1 hb
    refine u_iconst (pc' := 26) dX0_hasEar_25 rfl ?_
    exact u_zret (b := false) dX0_hasEar_26 rfl rfl h
  · have h := h.2 hb
    refine u_iload_n (i := 1) (pc' := 5) dX0_hasEar_4 rfl rfl rfl ?_
    refine u_iconst (pc' := 6) dX0_hasEar_5 rfl ?_
    refine u_icmp_ge (tgt := 25) (pc' := 9) dX0_hasEar_6 rfl (by decide) c1 ⟨by decide, by decide⟩ (fun hb => ?_) (fun hb => ?_)
    · have h := h.1 hb
      refine u_iconst (pc' := 26) dX0_hasEar_25 rfl ?_
      exact u_zret (b := false) dX0_hasEar_26 rfl rfl h
    · have h := h.2 hb
      refine u_aload_n (i := 0) (pc' := 10) dX0_hasEar_9 rfl rfl rfl ?_
      refine u_getI (z := (τ ths 4)) (pc' := 13) dX0_hasEar_10 rfl fl_TuneDoor_Door_34 rfl (by decide) (kDoor k_ths).1 k_ths rfl (fun r2 => ?_)
      refine u_iload_n (i := 1) (pc' := 14) dX0_hasEar_13 rfl rfl rfl ?_
      refine u_ishr (pc' := 15) dX0_hasEar_14 rfl ?_
      refine u_iconst (pc' := 16) dX0_hasEar_15 rfl ?_
      refine u_iand (pc' := 17) dX0_hasEar_16 rfl ?_
      refine u_iconst (pc' := 18) dX0_hasEar_17 rfl ?_
      obtain ⟨c3, h⟩ := h
      refine u_icmp_ne (tgt := 25) (pc' := 21) dX0_hasEar_18 rfl (by decide) c3 ⟨by decide, by decide⟩ (fun hb => ?_) (fun hb => ?_)
      · have h := h.1 hb
        refine u_iconst (pc' := 26) dX0_hasEar_25 rfl ?_
        exact u_zret (b := false) dX0_hasEar_26 rfl rfl h
      · have h := h.2 hb
        refine u_iconst (pc' := 22) dX0_hasEar_21 rfl ?_
        refine u_goto (tgt := 26) dX0_hasEar_22 (by decide) ?_
        exact u_zret (b := true) dX0_hasEar_26 rfl rfl h
theorem mX0_hasEar {E : mm_Env} {d : Nat} {τ : mm_Mem} {Q : mm_Q0} {ths : Nat} {a0 : Int} (k_ths : KD ths = some (.inr 0)) (h : inR a0 ∧ ((a0 < 0 → Q (some (vB false)) τ) ∧ (¬ a0 < 0 → ((3 ≤ a0 → Q (some (vB false)) τ) ∧ (¬ 3 ≤ a0 → inR (mm_and (mm_shr (τ ths 4) a0) 1) ∧ (((mm_and (mm_shr (τ ths 4) a0) 1) ≠ 1 → Q (some (vB false)) τ) ∧ ((mm_and (mm_shr (τ ths 4) a0) 1) = 1 → Q (some (vB true)) τ))))))) : M0 E d qX0_hasEar [vR ths, vI a0] τ Q := M0_of rfl (Nat.le_of_ble_eq_true rfl) [some (vR ths), some (vI a0)] rfl (bX0_hasEar_0 k_ths h)
set_option maxRecDepth 20000 in
theorem bX0_hear_0 {E : mm_Env} {d : Nat} {τ : mm_Mem} {Q : mm_Q0} {ths : Nat} {a1 : Int} (k_ths : KD ths = some (.inr 0)) (h : V0 E (d + 1) qX0_hear 2 [some (vR ths), some (vR 78), some (vI a1), some (vI 0), none] [] τ Q) : V0 E (d + 1) qX0_hear 0 [some (vR ths), some (vR 78), some (vI a1), none, none] [] τ Q := by
  refine u_iconst (pc' := 1) dX0_hear_0 rfl ?_
  refine s_istore_n (i := 3) (ls' := [some (vR ths), some (vR 78), some (vI a1), some (vI 0), none]) (pc' := 2) dX0_hear_1 rfl rfl (Nat.le_of_ble_eq_true rfl) rfl rfl ?_
  exact u_less (ls' := [some (vR ths), some (vR 78), some (vI a1), some (vI 0), none]) ⟨rfl, ⟨rfl, ⟨rfl, ⟨rfl, trivial⟩⟩⟩⟩ h
theorem mX0_hear {E : mm_Env} {d : Nat} {τ : mm_Mem} {Q : mm_Q0} {ths : Nat} {a1 : Int} (k_ths : KD ths = some (.inr 0)) (h : V0 E (d + 1) qX0_hear 2 [some (vR ths), some (vR 78), some (vI a1), some (vI 0), none] [] τ Q) : M0 E (d + 1) qX0_hear [vR ths, vR 78, vI a1] τ Q := M0_of rfl (Nat.le_of_ble_eq_true rfl) [some (vR ths), some (vR 78), some (vI a1), none, none] rfl (bX0_hear_0 k_ths h)
set_option maxRecDepth 20000 in
theorem bX0_hear_2 {E : mm_Env} {d : Nat} {τ : mm_Mem} {Q : mm_Q0} {x0 : Nat} {x2 : Int} {x3 : Int} (k_x0 : KD x0 = some (.inr 0)) (h : inR x3 ∧ ((3 ≤ x3 → inR ((τ x0 7) + 1) ∧ V0 E (d + 1) qX0_hear 91 [some (vR x0), some (vR 78), some (vI x2), some (vI 0), none] [] (wr τ x0 7 ((τ x0 7) + 1)) Q) ∧ (¬ 3 ≤ x3 → M0 E d qX0_hasEar [vR x0, vI x3] τ (fun v τ4 => ∃ b5 : Bool, v = some (vB b5) ∧ ((b5 = false → V0 E (d + 1) qX0_hear 26 [some (vR x0), some (vR 78), some (vI x2), some (vI x3), none] [vI (-1)] τ4 Q) ∧ (b5 = true → M0 E d qX0_countIfOpened [vR x0, vR 78, vI x3, vI x2] τ4 (fun v τ6 => ∃ r7 : Int, v = some (vI r7) ∧ V0 E (d + 1) qX0_hear 26 [some (vR x0), some (vR 78), some (vI x2), some (vI x3), none] [vI r7] τ6 Q))))))) : V0 E (d + 1) qX0_hear 2 [some (vR x0), some (vR 78), some (vI x2), some (vI x3), none] [] τ Q := by
  refine u_iload_n (i := 3) (pc' := 3) dX0_hear_2 rfl rfl rfl ?_
  refine u_iconst (pc' := 4) dX0_hear_3 rfl ?_
  obtain ⟨c1, h⟩ := h
  refine u_icmp_ge (tgt := 79) (pc' := 7) dX0_hear_4 rfl (by decide) c1 ⟨by decide, by decide⟩ (fun hb => ?_) (fun hb => ?_)
  · have h := h.1 hb
    refine u_aload_n (i := 0) (pc' := 80) dX0_hear_79 rfl rfl rfl ?_
    refine u_dup (pc' := 81) dX0_hear_80 rfl (fun _ hh => by cases hh) ?_
    refine u_getI (z := (τ x0 7)) (pc' := 84) dX0_hear_81 rfl fl_TuneDoor_Door_43 rfl (by decide) (kDoor k_x0).1 k_x0 rfl (fun r2 => ?_)
    refine u_iconst (pc' := 85) dX0_hear_84 rfl ?_
    refine u_iadd (pc' := 86) dX0_hear_85 rfl ?_
    obtain ⟨c3, h⟩ := h
    refine u_putI (pc' := 89) dX0_hear_86 rfl fl_TuneDoor_Door_43 rfl rfl (by decide) (kDoor k_x0).1 k_x0 c3 ?_
    refine u_iconst (pc' := 90) dX0_hear_89 rfl ?_
    refine s_istore_n (i := 3) (ls' := [some (vR x0), some (vR 78), some (vI x2), some (vI 0), none]) (pc' := 91) dX0_hear_90 rfl rfl (Nat.le_of_ble_eq_true rfl) rfl rfl ?_
    exact u_less (ls' := [some (vR x0), some (vR 78), some (vI x2), some (vI 0), none]) ⟨rfl, ⟨rfl, ⟨rfl, ⟨rfl, trivial⟩⟩⟩⟩ h
  · have h := h.2 hb
    refine u_aload_n (i := 0) (pc' := 8) dX0_hear_7 rfl rfl rfl ?_
    refine u_iload_n (i := 3) (pc' := 9) dX0_hear_8 rfl rfl rfl ?_
    refine u_invV (q' := qX0_hasEar) (As := [vI x3]) (st := []) (pc' := 12) dX0_hear_9 rfl gX0_hasEar wm_912 rfl rfl (kDoor k_x0).1 k_x0 wm_897 wm_898 rfl (Nat.le_of_ble_eq_true rfl) (M0.mono h (fun v τ4 h => ?_))
    obtain ⟨b5, rfl, h⟩ := h
    show V0 E (d + 1) qX0_hear 12 [some (vR x0), some (vR 78), some (vI x2), some (vI x3), none] [vB b5] τ4 Q
    refine u_if_eq (tgt := 25) (pc' := 15) dX0_hear_12 rfl (by decide) (bI_R _) (fun hb => ?_) (fun hb => ?_)
    · have h := h.1 (bI_0.mp hb)
      refine u_iconst (pc' := 26) dX0_hear_25 rfl ?_
      exact u_less (ls' := [some (vR x0), some (vR 78), some (vI x2), some (vI x3), none]) ⟨rfl, ⟨rfl, ⟨rfl, ⟨rfl, trivial⟩⟩⟩⟩ h
    · have h := h.2 (bI_n0.mp hb)
      refine u_aload_n (i := 0) (pc' := 16) dX0_hear_15 rfl rfl rfl ?_
      refine u_aload_n (i := 1) (pc' := 17) dX0_hear_16 rfl rfl rfl ?_
      refine u_iload_n (i := 3) (pc' := 18) dX0_hear_17 rfl rfl rfl ?_
      refine u_iload_n (i := 2) (pc' := 19) dX0_hear_18 rfl rfl rfl ?_
      refine u_invV (q' := qX0_countIfOpened) (As := [vR 78, vI x3, vI x2]) (st := []) (pc' := 22) dX0_hear_19 rfl gX0_countIfOpened wm_913 rfl rfl (kDoor k_x0).1 k_x0 wm_915 wp_47 rfl (Nat.le_of_ble_eq_true rfl) (M0.mono h (fun v τ6 h => ?_))
      obtain ⟨r7, rfl, h⟩ := h
      show V0 E (d + 1) qX0_hear 22 [some (vR x0), some (vR 78), some (vI x2), some (vI x3), none] [vI r7] τ6 Q
      refine u_goto (tgt := 26) dX0_hear_22 (by decide) ?_
      exact u_less (ls' := [some (vR x0), some (vR 78), some (vI x2), some (vI x3), none]) ⟨rfl, ⟨rfl, ⟨rfl, ⟨rfl, trivial⟩⟩⟩⟩ h
set_option maxRecDepth 20000 in
theorem bX0_hear_26 {E : mm_Env} {d : Nat} {τ : mm_Mem} {Q : mm_Q0} {x0 : Nat} {x2 : Int} {x3 : Int} {y0 : Int} (k_x0 : KD x0 = some (.inr 0)) (h : inR y0 ∧ ((y0 = (-1) → V0 E (d + 1) qX0_hear 2 [some (vR x0), some (vR 78), some (vI x2), some (vI (x3 + 1)), none] [] τ Q) ∧ (¬ y0 = (-1) → 0 ≤ x3 ∧ x3 < 3 ∧ 0 ≤ x3 ∧ x3 < 3 ∧ 0 ≤ x3 ∧ x3 < 3 ∧ inR x3 ∧ inR (((wr (wr (wr τ (x0 + 1) x3.toNat y0) (x0 + 2) x3.toNat (-1)) (x0 + 3) x3.toNat 0) x0 6) + 1) ∧ Q (some (vI x3)) (wr (wr (wr (wr (wr τ (x0 + 1) x3.toNat y0) (x0 + 2) x3.toNat (-1)) (x0 + 3) x3.toNat 0) x0 5 x3) x0 6 (((wr (wr (wr τ (x0 + 1) x3.toNat y0) (x0 + 2) x3.toNat (-1)) (x0 + 3) x3.toNat 0) x0 6) + 1))))) : V0 E (d + 1) qX0_hear 26 [some (vR x0), some (vR 78), some (vI x2), some (vI x3), none] [vI y0] τ Q := by
  refine s_istore (i := 4) (ls' := [some (vR x0), some (vR 78), some (vI x2), some (vI x3), some (vI y0)]) (pc' := 28) dX0_hear_26 rfl (Nat.le_of_ble_eq_true rfl) rfl rfl ?_
  refine u_iload (i := 4) (pc' := 30) dX0_hear_28 rfl rfl ?_
  refine u_iconst (pc' := 31) dX0_hear_30 rfl ?_
  obtain ⟨c1, h⟩ := h
  refine u_icmp_eq (tgt := 73) (pc' := 34) dX0_hear_31 rfl (by decide) c1 ⟨by decide, by decide⟩ (fun hb => ?_) (fun hb => ?_)
  · have h := h.1 hb
    refine s_iinc (i := 3) (ls' := [some (vR x0), some (vR 78), some (vI x2), some (vI (x3 + 1)), some (vI y0)]) (pc' := 76) dX0_hear_73 rfl rfl (Nat.le_of_ble_eq_true rfl) rfl rfl ?_
    refine u_goto (tgt := 2) dX0_hear_76 (by decide) ?_
    exact u_less (ls' := [some (vR x0), some (vR 78), some (vI x2), some (vI (x3 + 1)), none]) ⟨rfl, ⟨rfl, ⟨rfl, ⟨rfl, trivial⟩⟩⟩⟩ h
  · have h := h.2 hb
    refine u_aload_n (i := 0) (pc' := 35) dX0_hear_34 rfl rfl rfl ?_
    refine u_getR (a := (x0 + 1)) (pc' := 38) dX0_hear_35 rfl fl_TuneDoor_Door_9 rfl (kDoor k_x0).1 k_x0 (kDoor k_x0).2.1 ?_
    refine u_iload_n (i := 3) (pc' := 39) dX0_hear_38 rfl rfl rfl ?_
    refine u_iload (i := 4) (pc' := 41) dX0_hear_39 rfl rfl ?_
    obtain ⟨c2, c3, h⟩ := h
    refine u_iastore (k := x3.toNat) (pc' := 42) dX0_hear_41 rfl (Nat.le_trans (kDoor k_x0).1 (Nat.le_add_right _ _)) (kDoor k_x0).2.2.2.2.1 c2 c3 (by decide) rfl c1 ?_
    refine u_aload_n (i := 0) (pc' := 43) dX0_hear_42 rfl rfl rfl ?_
    refine u_getR (a := (x0 + 2)) (pc' := 46) dX0_hear_43 rfl fl_TuneDoor_Door_15 rfl (kDoor k_x0).1 k_x0 (kDoor k_x0).2.2.1 ?_
    refine u_iload_n (i := 3) (pc' := 47) dX0_hear_46 rfl rfl rfl ?_
    refine u_iconst (pc' := 48) dX0_hear_47 rfl ?_
    obtain ⟨c4, c5, h⟩ := h
    refine u_iastore (k := x3.toNat) (pc' := 49) dX0_hear_48 rfl (Nat.le_trans (kDoor k_x0).1 (Nat.le_add_right _ _)) (kDoor k_x0).2.2.2.2.2.1 c4 c5 (by decide) rfl ⟨by decide, by decide⟩ ?_
    refine u_aload_n (i := 0) (pc' := 50) dX0_hear_49 rfl rfl rfl ?_
    refine u_getR (a := (x0 + 3)) (pc' := 53) dX0_hear_50 rfl fl_TuneDoor_Door_18 rfl (kDoor k_x0).1 k_x0 (kDoor k_x0).2.2.2.1 ?_
    refine u_iload_n (i := 3) (pc' := 54) dX0_hear_53 rfl rfl rfl ?_
    refine u_iconst (pc' := 55) dX0_hear_54 rfl ?_
    obtain ⟨c6, c7, h⟩ := h
    refine u_iastore (k := x3.toNat) (pc' := 56) dX0_hear_55 rfl (Nat.le_trans (kDoor k_x0).1 (Nat.le_add_right _ _)) (kDoor k_x0).2.2.2.2.2.2 c6 c7 (by decide) rfl ⟨by decide, by decide⟩ ?_
    refine u_aload_n (i := 0) (pc' := 57) dX0_hear_56 rfl rfl rfl ?_
    refine u_iload_n (i := 3) (pc' := 58) dX0_hear_57 rfl rfl rfl ?_
    obtain ⟨c8, h⟩ := h
    refine u_putI (pc' := 61) dX0_hear_58 rfl fl_TuneDoor_Door_37 rfl rfl (by decide) (kDoor k_x0).1 k_x0 c8 ?_
    refine u_aload_n (i := 0) (pc' := 62) dX0_hear_61 rfl rfl rfl ?_
    refine u_dup (pc' := 63) dX0_hear_62 rfl (fun _ hh => by cases hh) ?_
    refine u_getI (z := ((wr (wr (wr τ (x0 + 1) x3.toNat y0) (x0 + 2) x3.toNat (-1)) (x0 + 3) x3.toNat 0) x0 6)) (pc' := 66) dX0_hear_63 rfl fl_TuneDoor_Door_40 rfl (by decide) (kDoor k_x0).1 k_x0 (by simp [wr]) (fun r9 => ?_)
    refine u_iconst (pc' := 67) dX0_hear_66 rfl ?_
    refine u_iadd (pc' := 68) dX0_hear_67 rfl ?_
    obtain ⟨c10, h⟩ := h
    refine u_putI (pc' := 71) dX0_hear_68 rfl fl_TuneDoor_Door_40 rfl rfl (by decide) (kDoor k_x0).1 k_x0 c10 ?_
    refine u_iload_n (i := 3) (pc' := 72) dX0_hear_71 rfl rfl rfl ?_
    exact u_iret dX0_hear_72 rfl h
set_option maxRecDepth 20000 in
theorem bX0_hear_91 {E : mm_Env} {d : Nat} {τ : mm_Mem} {Q : mm_Q0} {x0 : Nat} {x2 : Int} {x3 : Int} (k_x0 : KD x0 = some (.inr 0)) (h : inR x3 ∧ ((3 ≤ x3 → Q (some (vI (-1))) τ) ∧ (¬ 3 ≤ x3 → M0 E d qX0_hasEar [vR x0, vI x3] τ (fun v τ2 => ∃ b3 : Bool, v = some (vB b3) ∧ ((b3 = false → V0 E (d + 1) qX0_hear 91 [some (vR x0), some (vR 78), some (vI x2), some (vI (x3 + 1)), none] [] τ2 Q) ∧ (b3 = true → M0 E d qX0_hearInVain [vR x0, vR 78, vI x3, vI x2] τ2 (fun v τ4 => v = none ∧ V0 E (d + 1) qX0_hear 91 [some (vR x0), some (vR 78), some (vI x2), some (vI (x3 + 1)), none] [] τ4 Q))))))) : V0 E (d + 1) qX0_hear 91 [some (vR x0), some (vR 78), some (vI x2), some (vI x3), none] [] τ Q := by
  refine u_iload_n (i := 3) (pc' := 92) dX0_hear_91 rfl rfl rfl ?_
  refine u_iconst (pc' := 93) dX0_hear_92 rfl ?_
  obtain ⟨c1, h⟩ := h
  refine u_icmp_ge (tgt := 117) (pc' := 96) dX0_hear_93 rfl (by decide) c1 ⟨by decide, by decide⟩ (fun hb => ?_) (fun hb => ?_)
  · have h := h.1 hb
    refine u_iconst (pc' := 118) dX0_hear_117 rfl ?_
    exact u_iret dX0_hear_118 rfl h
  · have h := h.2 hb
    refine u_aload_n (i := 0) (pc' := 97) dX0_hear_96 rfl rfl rfl ?_
    refine u_iload_n (i := 3) (pc' := 98) dX0_hear_97 rfl rfl rfl ?_
    refine u_invV (q' := qX0_hasEar) (As := [vI x3]) (st := []) (pc' := 101) dX0_hear_98 rfl gX0_hasEar wm_912 rfl rfl (kDoor k_x0).1 k_x0 wm_897 wm_898 rfl (Nat.le_of_ble_eq_true rfl) (M0.mono h (fun v τ2 h => ?_))
    obtain ⟨b3, rfl, h⟩ := h
    show V0 E (d + 1) qX0_hear 101 [some (vR x0), some (vR 78), some (vI x2), some (vI x3), none] [vB b3] τ2 Q
    refine u_if_eq (tgt := 111) (pc' := 104) dX0_hear_101 rfl (by decide) (bI_R _) (fun hb => ?_) (fun hb => ?_)
    · have h := h.1 (bI_0.mp hb)
      refine s_iinc (i := 3) (ls' := [some (vR x0), some (vR 78), some (vI x2), some (vI (x3 + 1)), none]) (pc' := 114) dX0_hear_111 rfl rfl (Nat.le_of_ble_eq_true rfl) rfl rfl ?_
      refine u_goto (tgt := 91) dX0_hear_114 (by decide) ?_
      exact u_less (ls' := [some (vR x0), some (vR 78), some (vI x2), some (vI (x3 + 1)), none]) ⟨rfl, ⟨rfl, ⟨rfl, ⟨rfl, trivial⟩⟩⟩⟩ h
    · have h := h.2 (bI_n0.mp hb)
      refine u_aload_n (i := 0) (pc' := 105) dX0_hear_104 rfl rfl rfl ?_
      refine u_aload_n (i := 1) (pc' := 106) dX0_hear_105 rfl rfl rfl ?_
      refine u_iload_n (i := 3) (pc' := 107) dX0_hear_106 rfl rfl rfl ?_
      refine u_iload_n (i := 2) (pc' := 108) dX0_hear_107 rfl rfl rfl ?_
      refine u_invV (q' := qX0_hearInVain) (As := [vR 78, vI x3, vI x2]) (st := []) (pc' := 111) dX0_hear_108 rfl gX0_hearInVain wm_935 rfl rfl (kDoor k_x0).1 k_x0 wm_937 wp_48 rfl (Nat.le_of_ble_eq_true rfl) (M0.mono h (fun v τ4 h => ?_))
      obtain ⟨rfl, h⟩ := h
      show V0 E (d + 1) qX0_hear 111 [some (vR x0), some (vR 78), some (vI x2), some (vI x3), none] [] τ4 Q
      refine s_iinc (i := 3) (ls' := [some (vR x0), some (vR 78), some (vI x2), some (vI (x3 + 1)), none]) (pc' := 114) dX0_hear_111 rfl rfl (Nat.le_of_ble_eq_true rfl) rfl rfl ?_
      refine u_goto (tgt := 91) dX0_hear_114 (by decide) ?_
      exact u_less (ls' := [some (vR x0), some (vR 78), some (vI x2), some (vI (x3 + 1)), none]) ⟨rfl, ⟨rfl, ⟨rfl, ⟨rfl, trivial⟩⟩⟩⟩ h
set_option maxRecDepth 20000 in
theorem bX0_countIfOpened_0 {E : mm_Env} {d : Nat} {τ : mm_Mem} {Q : mm_Q0} {ths : Nat} {a1 : Int} {a2 : Int} (k_ths : KD ths = some (.inr 0)) (h : 0 ≤ a1 ∧ a1 < 3 ∧ M0 E d qX0_reach [vR ths, vI a1] τ (fun v τ4 => ∃ r5 : Int, v = some (vI r5) ∧ (((τ4 ths 1) ≠ 3 → V0 E (d + 1) qX0_countIfOpened 37 [some (vR ths), some (vR 78), some (vI a1), some (vI a2), some (vI (τ (ths + 1) a1.toNat)), none, none] [vI 0, vI a2, vI ((τ (ths + 1) a1.toNat) + r5), vI (τ (ths + 1) a1.toNat), vI a1, vR 78] τ4 Q) ∧ ((τ4 ths 1) = 3 → V0 E (d + 1) qX0_countIfOpened 37 [some (vR ths), some (vR 78), some (vI a1), some (vI a2), some (vI (τ (ths + 1) a1.toNat)), none, none] [vI (τ4 ths 3), vI a2, vI ((τ (ths + 1) a1.toNat) + r5), vI (τ (ths + 1) a1.toNat), vI a1, vR 78] τ4 Q)))) : V0 E (d + 1) qX0_countIfOpened 0 [some (vR ths), some (vR 78), some (vI a1), some (vI a2), none, none, none] [] τ Q := by
  refine u_aload_n (i := 0) (pc' := 1) dX0_countIfOpened_0 rfl rfl rfl ?_
  refine u_getR (a := (ths + 1)) (pc' := 4) dX0_countIfOpened_1 rfl fl_TuneDoor_Door_9 rfl (kDoor k_ths).1 k_ths (kDoor k_ths).2.1 ?_
  refine u_iload_n (i := 2) (pc' := 5) dX0_countIfOpened_4 rfl rfl rfl ?_
  obtain ⟨c1, c2, h⟩ := h
  refine u_iaload (k := a1.toNat) (z := (τ (ths + 1) a1.toNat)) (pc' := 6) dX0_countIfOpened_5 rfl (Nat.le_trans (kDoor k_ths).1 (Nat.le_add_right _ _)) (kDoor k_ths).2.2.2.2.1 c1 c2 (by decide) rfl rfl (fun r3 => ?_)
  refine s_istore (i := 4) (ls' := [some (vR ths), some (vR 78), some (vI a1), some (vI a2), some (vI (τ (ths + 1) a1.toNat)), none, none]) (pc' := 8) dX0_countIfOpened_6 rfl (Nat.le_of_ble_eq_true rfl) rfl rfl ?_
  refine u_aload_n (i := 1) (pc' := 9) dX0_countIfOpened_8 rfl rfl rfl ?_
  refine u_iload_n (i := 2) (pc' := 10) dX0_countIfOpened_9 rfl rfl rfl ?_
  refine u_iload (i := 4) (pc' := 12) dX0_countIfOpened_10 rfl rfl ?_
  refine u_iload (i := 4) (pc' := 14) dX0_countIfOpened_12 rfl rfl ?_
  refine u_aload_n (i := 0) (pc' := 15) dX0_countIfOpened_14 rfl rfl rfl ?_
  refine u_iload_n (i := 2) (pc' := 16) dX0_countIfOpened_15 rfl rfl rfl ?_
  refine u_invV (q' := qX0_reach) (As := [vI a1]) (st := [vI (τ (ths + 1) a1.toNat), vI (τ (ths + 1) a1.toNat), vI a1, vR 78]) (pc' := 19) dX0_countIfOpened_16 rfl gX0_reach wm_917 rfl rfl (kDoor k_ths).1 k_ths wm_918 wm_919 rfl (Nat.le_of_ble_eq_true rfl) (M0.mono h (fun v τ4 h => ?_))
  obtain ⟨r5, rfl, h⟩ := h
  show V0 E (d + 1) qX0_countIfOpened 19 [some (vR ths), some (vR 78), some (vI a1), some (vI a2), some (vI (τ (ths + 1) a1.toNat)), none, none] [vI r5, vI (τ (ths + 1) a1.toNat), vI (τ (ths + 1) a1.toNat), vI a1, vR 78] τ4 Q
  refine u_iadd (pc' := 20) dX0_countIfOpened_19 rfl ?_
  refine u_iload_n (i := 3) (pc' := 21) dX0_countIfOpened_20 rfl rfl rfl ?_
  refine u_aload_n (i := 0) (pc' := 22) dX0_countIfOpened_21 rfl rfl rfl ?_
  refine u_getI (z := (τ4 ths 1)) (pc' := 25) dX0_countIfOpened_22 rfl fl_TuneDoor_Door_25 rfl (by decide) (kDoor k_ths).1 k_ths rfl (fun r6 => ?_)
  refine u_iconst (pc' := 26) dX0_countIfOpened_25 rfl ?_
  refine u_icmp_ne (tgt := 36) (pc' := 29) dX0_countIfOpened_26 rfl (by decide) r6 ⟨by decide, by decide⟩ (fun hb => ?_) (fun hb => ?_)
  · have h := h.1 hb
    refine u_iconst (pc' := 37) dX0_countIfOpened_36 rfl ?_
    exact u_less (ls' := [some (vR ths), some (vR 78), some (vI a1), some (vI a2), some (vI (τ (ths + 1) a1.toNat)), none, none]) ⟨rfl, ⟨rfl, ⟨rfl, ⟨rfl, ⟨rfl, trivial⟩⟩⟩⟩⟩ h
  · have h := h.2 hb
    refine u_aload_n (i := 0) (pc' := 30) dX0_countIfOpened_29 rfl rfl rfl ?_
    refine u_getI (z := (τ4 ths 3)) (pc' := 33) dX0_countIfOpened_30 rfl fl_TuneDoor_Door_31 rfl (by decide) (kDoor k_ths).1 k_ths rfl (fun r7 => ?_)
    refine u_goto (tgt := 37) dX0_countIfOpened_33 (by decide) ?_
    exact u_less (ls' := [some (vR ths), some (vR 78), some (vI a1), some (vI a2), some (vI (τ (ths + 1) a1.toNat)), none, none]) ⟨rfl, ⟨rfl, ⟨rfl, ⟨rfl, ⟨rfl, trivial⟩⟩⟩⟩⟩ h
theorem mX0_countIfOpened {E : mm_Env} {d : Nat} {τ : mm_Mem} {Q : mm_Q0} {ths : Nat} {a1 : Int} {a2 : Int} (k_ths : KD ths = some (.inr 0)) (h : 0 ≤ a1 ∧ a1 < 3 ∧ M0 E d qX0_reach [vR ths, vI a1] τ (fun v τ4 => ∃ r5 : Int, v = some (vI r5) ∧ (((τ4 ths 1) ≠ 3 → V0 E (d + 1) qX0_countIfOpened 37 [some (vR ths), some (vR 78), some (vI a1), some (vI a2), some (vI (τ (ths + 1) a1.toNat)), none, none] [vI 0, vI a2, vI ((τ (ths + 1) a1.toNat) + r5), vI (τ (ths + 1) a1.toNat), vI a1, vR 78] τ4 Q) ∧ ((τ4 ths 1) = 3 → V0 E (d + 1) qX0_countIfOpened 37 [some (vR ths), some (vR 78), some (vI a1), some (vI a2), some (vI (τ (ths + 1) a1.toNat)), none, none] [vI (τ4 ths 3), vI a2, vI ((τ (ths + 1) a1.toNat) + r5), vI (τ (ths + 1) a1.toNat), vI a1, vR 78] τ4 Q)))) : M0 E (d + 1) qX0_countIfOpened [vR ths, vR 78, vI a1, vI a2] τ Q := M0_of rfl (Nat.le_of_ble_eq_true rfl) [some (vR ths), some (vR 78), some (vI a1), some (vI a2), none, none, none] rfl (bX0_countIfOpened_0 k_ths h)
set_option maxRecDepth 20000 in
theorem bX0_countIfOpened_37 {E : mm_Env} {d : Nat} {τ : mm_Mem} {Q : mm_Q0} {x0 : Nat} {x2 : Int} {x3 : Int} {x4 : Int} {y0 : Int} {y1 : Int} {y2 : Int} {y3 : Int} {y4 : Int} (k_x0 : KD x0 = some (.inr 0)) (h : M0 E d qX9_seek [vR 78, vI y4, vI y3, vI y2, vI y1, vI y0] τ (fun v τ1 => ∃ r2 : Int, v = some (vI r2) ∧ inR r2 ∧ ((r2 ≠ (-1) → V0 E (d + 1) qX0_countIfOpened 91 [some (vR x0), some (vR 78), some (vI x2), some (vI x3), some (vI x4), some (vI r2), none] [] τ1 Q) ∧ (r2 = (-1) → (((τ1 x0 1) ≠ 2 → V0 E (d + 1) qX0_countIfOpened 91 [some (vR x0), some (vR 78), some (vI x2), some (vI x3), some (vI x4), some (vI r2), none] [] τ1 Q) ∧ ((τ1 x0 1) = 2 → 0 ≤ x2 ∧ x2 < 3 ∧ (((τ1 (x0 + 2) x2.toNat) = (-1) → V0 E (d + 1) qX0_countIfOpened 91 [some (vR x0), some (vR 78), some (vI x2), some (vI x3), some (vI x4), some (vI r2), none] [] τ1 Q) ∧ (¬ (τ1 (x0 + 2) x2.toNat) = (-1) → 0 ≤ x2 ∧ x2 < 3 ∧ 0 ≤ x2 ∧ x2 < 3 ∧ M0 E d qX9_seek [vR 78, vI x2, vI ((τ1 (x0 + 2) x2.toNat) + 1), vI ((τ1 (x0 + 2) x2.toNat) + 1), vI x3, vI 0] τ1 (fun v τ14 => ∃ r15 : Int, v = some (vI r15) ∧ V0 E (d + 1) qX0_countIfOpened 91 [some (vR x0), some (vR 78), some (vI x2), some (vI x3), some (vI x4), some (vI r15), none] [] τ14 Q))))))))) : V0 E (d + 1) qX0_countIfOpened 37 [some (vR x0), some (vR 78), some (vI x2), some (vI x3), some (vI x4), none, none] [vI y0, vI y1, vI y2, vI y3, vI y4, vR 78] τ Q := by
  refine u_invV (q' := qX9_seek) (As := [vI y4, vI y3, vI y2, vI y1, vI y0]) (st := []) (pc' := 40) dX0_countIfOpened_37 rfl gX9_seek wm_921 rfl rfl (by decide) kd_78 wm_922 wm_923 rfl (Nat.le_of_ble_eq_true rfl) (M0.mono h (fun v τ1 h => ?_))
  obtain ⟨r2, rfl, h⟩ := h
  show V0 E (d + 1) qX0_countIfOpened 40 [some (vR x0), some (vR 78), some (vI x2), some (vI x3), some (vI x4), none, none] [vI r2] τ1 Q
  refine s_istore (i := 5) (ls' := [some (vR x0), some (vR 78), some (vI x2), some (vI x3), some (vI x4), some (vI r2), none]) (pc' := 42) dX0_countIfOpened_40 rfl (Nat.le_of_ble_eq_true rfl) rfl rfl ?_
  refine u_iload (i := 5) (pc' := 44) dX0_countIfOpened_42 rfl rfl ?_
  refine u_iconst (pc' := 45) dX0_countIfOpened_44 rfl ?_
  obtain ⟨c3, h⟩ := h
  refine u_icmp_ne (tgt := 91) (pc' := 48) dX0_countIfOpened_45 rfl (by decide) c3 ⟨by decide, by decide⟩ (fun hb => ?_) (fun hb => ?_)
  · have h := h.1 hb
    exact u_less (ls' := [some (vR x0), some (vR 78), some (vI x2), some (vI x3), some (vI x4), some (vI r2), none]) ⟨rfl, ⟨rfl, ⟨rfl, ⟨rfl, ⟨rfl, ⟨rfl, trivial⟩⟩⟩⟩⟩⟩ h
  · have h := h.2 hb
    refine u_aload_n (i := 0) (pc' := 49) dX0_countIfOpened_48 rfl rfl rfl ?_
    refine u_getI (z := (τ1 x0 1)) (pc' := 52) dX0_countIfOpened_49 rfl fl_TuneDoor_Door_25 rfl (by decide) (kDoor k_x0).1 k_x0 rfl (fun r4 => ?_)
    refine u_iconst (pc' := 53) dX0_countIfOpened_52 rfl ?_
    refine u_icmp_ne (tgt := 91) (pc' := 56) dX0_countIfOpened_53 rfl (by decide) r4 ⟨by decide, by decide⟩ (fun hb => ?_) (fun hb => ?_)
    · have h := h.1 hb
      exact u_less (ls' := [some (vR x0), some (vR 78), some (vI x2), some (vI x3), some (vI x4), some (vI r2), none]) ⟨rfl, ⟨rfl, ⟨rfl, ⟨rfl, ⟨rfl, ⟨rfl, trivial⟩⟩⟩⟩⟩⟩ h
    · have h := h.2 hb
      refine u_aload_n (i := 0) (pc' := 57) dX0_countIfOpened_56 rfl rfl rfl ?_
      refine u_getR (a := (x0 + 2)) (pc' := 60) dX0_countIfOpened_57 rfl fl_TuneDoor_Door_15 rfl (kDoor k_x0).1 k_x0 (kDoor k_x0).2.2.1 ?_
      refine u_iload_n (i := 2) (pc' := 61) dX0_countIfOpened_60 rfl rfl rfl ?_
      obtain ⟨c5, c6, h⟩ := h
      refine u_iaload (k := x2.toNat) (z := (τ1 (x0 + 2) x2.toNat)) (pc' := 62) dX0_countIfOpened_61 rfl (Nat.le_trans (kDoor k_x0).1 (Nat.le_add_right _ _)) (kDoor k_x0).2.2.2.2.2.1 c5 c6 (by decide) rfl rfl (fun r7 => ?_)
      refine u_iconst (pc' := 63) dX0_countIfOpened_62 rfl ?_
      refine u_icmp_eq (tgt := 91) (pc' := 66) dX0_countIfOpened_63 rfl (by decide) r7 ⟨by decide, by decide⟩ (fun hb => ?_) (fun hb => ?_)
      · have h := h.1 hb
        exact u_less (ls' := [some (vR x0), some (vR 78), some (vI x2), some (vI x3), some (vI x4), some (vI r2), none]) ⟨rfl, ⟨rfl, ⟨rfl, ⟨rfl, ⟨rfl, ⟨rfl, trivial⟩⟩⟩⟩⟩⟩ h
      · have h := h.2 hb
        refine u_aload_n (i := 1) (pc' := 67) dX0_countIfOpened_66 rfl rfl rfl ?_
        refine u_iload_n (i := 2) (pc' := 68) dX0_countIfOpened_67 rfl rfl rfl ?_
        refine u_aload_n (i := 0) (pc' := 69) dX0_countIfOpened_68 rfl rfl rfl ?_
        refine u_getR (a := (x0 + 2)) (pc' := 72) dX0_countIfOpened_69 rfl fl_TuneDoor_Door_15 rfl (kDoor k_x0).1 k_x0 (kDoor k_x0).2.2.1 ?_
        refine u_iload_n (i := 2) (pc' := 73) dX0_countIfOpened_72 rfl rfl rfl ?_
        obtain ⟨c8, c9, h⟩ := h
        refine u_iaload (k := x2.toNat) (z := (τ1 (x0 + 2) x2.toNat)) (pc' := 74) dX0_countIfOpened_73 rfl (Nat.le_trans (kDoor k_x0).1 (Nat.le_add_right _ _)) (kDoor k_x0).2.2.2.2.2.1 c8 c9 (by decide) rfl rfl (fun r10 => ?_)
        refine u_iconst (pc' := 75) dX0_countIfOpened_74 rfl ?_
        refine u_iadd (pc' := 76) dX0_countIfOpened_75 rfl ?_
        refine u_aload_n (i := 0) (pc' := 77) dX0_countIfOpened_76 rfl rfl rfl ?_
        refine u_getR (a := (x0 + 2)) (pc' := 80) dX0_countIfOpened_77 rfl fl_TuneDoor_Door_15 rfl (kDoor k_x0).1 k_x0 (kDoor k_x0).2.2.1 ?_
        refine u_iload_n (i := 2) (pc' := 81) dX0_countIfOpened_80 rfl rfl rfl ?_
        obtain ⟨c11, c12, h⟩ := h
        refine u_iaload (k := x2.toNat) (z := (τ1 (x0 + 2) x2.toNat)) (pc' := 82) dX0_countIfOpened_81 rfl (Nat.le_trans (kDoor k_x0).1 (Nat.le_add_right _ _)) (kDoor k_x0).2.2.2.2.2.1 c11 c12 (by decide) rfl rfl (fun r13 => ?_)
        refine u_iconst (pc' := 83) dX0_countIfOpened_82 rfl ?_
        refine u_iadd (pc' := 84) dX0_countIfOpened_83 rfl ?_
        refine u_iload_n (i := 3) (pc' := 85) dX0_countIfOpened_84 rfl rfl rfl ?_
        refine u_iconst (pc' := 86) dX0_countIfOpened_85 rfl ?_
        refine u_invV (q' := qX9_seek) (As := [vI x2, vI ((τ1 (x0 + 2) x2.toNat) + 1), vI ((τ1 (x0 + 2) x2.toNat) + 1), vI x3, vI 0]) (st := []) (pc' := 89) dX0_countIfOpened_86 rfl gX9_seek wm_921 rfl rfl (by decide) kd_78 wm_922 wm_923 rfl (Nat.le_of_ble_eq_true rfl) (M0.mono h (fun v τ14 h => ?_))
        obtain ⟨r15, rfl, h⟩ := h
        show V0 E (d + 1) qX0_countIfOpened 89 [some (vR x0), some (vR 78), some (vI x2), some (vI x3), some (vI x4), some (vI r2), none] [vI r15] τ14 Q
        refine s_istore (i := 5) (ls' := [some (vR x0), some (vR 78), some (vI x2), some (vI x3), some (vI x4), some (vI r15), none]) (pc' := 91) dX0_countIfOpened_89 rfl (Nat.le_of_ble_eq_true rfl) rfl rfl ?_
        exact u_less (ls' := [some (vR x0), some (vR 78), some (vI x2), some (vI x3), some (vI x4), some (vI r15), none]) ⟨rfl, ⟨rfl, ⟨rfl, ⟨rfl, ⟨rfl, ⟨rfl, trivial⟩⟩⟩⟩⟩⟩ h
set_option maxRecDepth 20000 in
theorem bX0_countIfOpened_91 {E : mm_Env} {d : Nat} {τ : mm_Mem} {Q : mm_Q0} {x0 : Nat} {x2 : Int} {x3 : Int} {x4 : Int} {x5 : Int} (k_x0 : KD x0 = some (.inr 0)) (h : inR x5 ∧ ((x5 = (-1) → (((τ x0 1) ≠ 1 → Q (some (vI (-1))) τ) ∧ ((τ x0 1) = 1 → M0 E d qX9_seek [vR 78, vI x2, vI (x4 - (τ x0 3)), vI (x4 - 1), vI x3, vI 0] τ (fun v τ4 => ∃ r5 : Int, v = some (vI r5) ∧ inR r5 ∧ ((r5 = (-1) → Q (some (vI (-1))) τ4) ∧ (¬ r5 = (-1) → Q (some (vI x4)) τ4)))))) ∧ (¬ x5 = (-1) → Q (some (vI (x5 + 1))) τ))) : V0 E (d + 1) qX0_countIfOpened 91 [some (vR x0), some (vR 78), some (vI x2), some (vI x3), some (vI x4), some (vI x5), none] [] τ Q := by
  refine u_iload (i := 5) (pc' := 93) dX0_countIfOpened_91 rfl rfl ?_
  refine u_iconst (pc' := 94) dX0_countIfOpened_93 rfl ?_
  obtain ⟨c1, h⟩ := h
  refine u_icmp_eq (tgt := 102) (pc' := 97) dX0_countIfOpened_94 rfl (by decide) c1 ⟨by decide, by decide⟩ (fun hb => ?_) (fun hb => ?_)
  · have h := h.1 hb
    refine u_aload_n (i := 0) (pc' := 103) dX0_countIfOpened_102 rfl rfl rfl ?_
    refine u_getI (z := (τ x0 1)) (pc' := 106) dX0_countIfOpened_103 rfl fl_TuneDoor_Door_25 rfl (by decide) (kDoor k_x0).1 k_x0 rfl (fun r2 => ?_)
    refine u_iconst (pc' := 107) dX0_countIfOpened_106 rfl ?_
    refine u_icmp_ne (tgt := 136) (pc' := 110) dX0_countIfOpened_107 rfl (by decide) r2 ⟨by decide, by decide⟩ (fun hb => ?_) (fun hb => ?_)
    · have h := h.1 hb
      refine u_iconst (pc' := 137) dX0_countIfOpened_136 rfl ?_
      refine s_istore (i := 6) (ls' := [some (vR x0), some (vR 78), some (vI x2), some (vI x3), some (vI x4), some (vI x5), some (vI 0)]) (pc' := 139) dX0_countIfOpened_137 rfl (Nat.le_of_ble_eq_true rfl) rfl rfl ?_
      refine u_iload (i := 6) (pc' := 141) dX0_countIfOpened_139 rfl rfl ?_
      refine u_if_eq (tgt := 149) (pc' := 144) dX0_countIfOpened_141 rfl (by decide) ⟨by decide, by decide⟩ (fun _ => ?_) (fun hb => absurd hb (by decide))
      refine u_iconst (pc' := 150) dX0_countIfOpened_149 rfl ?_
      exact u_iret dX0_countIfOpened_150 rfl h
    · have h := h.2 hb
      refine u_aload_n (i := 1) (pc' := 111) dX0_countIfOpened_110 rfl rfl rfl ?_
      refine u_iload_n (i := 2) (pc' := 112) dX0_countIfOpened_111 rfl rfl rfl ?_
      refine u_iload (i := 4) (pc' := 114) dX0_countIfOpened_112 rfl rfl ?_
      refine u_aload_n (i := 0) (pc' := 115) dX0_countIfOpened_114 rfl rfl rfl ?_
      refine u_getI (z := (τ x0 3)) (pc' := 118) dX0_countIfOpened_115 rfl fl_TuneDoor_Door_31 rfl (by decide) (kDoor k_x0).1 k_x0 rfl (fun r3 => ?_)
      refine u_isub (pc' := 119) dX0_countIfOpened_118 rfl ?_
      refine u_iload (i := 4) (pc' := 121) dX0_countIfOpened_119 rfl rfl ?_
      refine u_iconst (pc' := 122) dX0_countIfOpened_121 rfl ?_
      refine u_isub (pc' := 123) dX0_countIfOpened_122 rfl ?_
      refine u_iload_n (i := 3) (pc' := 124) dX0_countIfOpened_123 rfl rfl rfl ?_
      refine u_iconst (pc' := 125) dX0_countIfOpened_124 rfl ?_
      refine u_invV (q' := qX9_seek) (As := [vI x2, vI (x4 - (τ x0 3)), vI (x4 - 1), vI x3, vI 0]) (st := []) (pc' := 128) dX0_countIfOpened_125 rfl gX9_seek wm_921 rfl rfl (by decide) kd_78 wm_922 wm_923 rfl (Nat.le_of_ble_eq_true rfl) (M0.mono h (fun v τ4 h => ?_))
      obtain ⟨r5, rfl, h⟩ := h
      show V0 E (d + 1) qX0_countIfOpened 128 [some (vR x0), some (vR 78), some (vI x2), some (vI x3), some (vI x4), some (vI x5), none] [vI r5] τ4 Q
      refine u_iconst (pc' := 129) dX0_countIfOpened_128 rfl ?_
      obtain ⟨c6, h⟩ := h
      refine u_icmp_eq (tgt := 136) (pc' := 132) dX0_countIfOpened_129 rfl (by decide) c6 ⟨by decide, by decide⟩ (fun hb => ?_) (fun hb => ?_)
      · have h := h.1 hb
        refine u_iconst (pc' := 137) dX0_countIfOpened_136 rfl ?_
        refine s_istore (i := 6) (ls' := [some (vR x0), some (vR 78), some (vI x2), some (vI x3), some (vI x4), some (vI x5), some (vI 0)]) (pc' := 139) dX0_countIfOpened_137 rfl (Nat.le_of_ble_eq_true rfl) rfl rfl ?_
        refine u_iload (i := 6) (pc' := 141) dX0_countIfOpened_139 rfl rfl ?_
        refine u_if_eq (tgt := 149) (pc' := 144) dX0_countIfOpened_141 rfl (by decide) ⟨by decide, by decide⟩ (fun _ => ?_) (fun hb => absurd hb (by decide))
        refine u_iconst (pc' := 150) dX0_countIfOpened_149 rfl ?_
        exact u_iret dX0_countIfOpened_150 rfl h
      · have h := h.2 hb
        refine u_iconst (pc' := 133) dX0_countIfOpened_132 rfl ?_
        refine u_goto (tgt := 137) dX0_countIfOpened_133 (by decide) ?_
        refine s_istore (i := 6) (ls' := [some (vR x0), some (vR 78), some (vI x2), some (vI x3), some (vI x4), some (vI x5), some (vI 1)]) (pc' := 139) dX0_countIfOpened_137 rfl (Nat.le_of_ble_eq_true rfl) rfl rfl ?_
        refine u_iload (i := 6) (pc' := 141) dX0_countIfOpened_139 rfl rfl ?_
        refine u_if_eq (tgt := 149) (pc' := 144) dX0_countIfOpened_141 rfl (by decide) ⟨by decide, by decide⟩ (fun hb => absurd hb (by decide)) (fun _ => ?_)
        refine u_iload (i := 4) (pc' := 146) dX0_countIfOpened_144 rfl rfl ?_
        refine u_goto (tgt := 150) dX0_countIfOpened_146 (by decide) ?_
        exact u_iret dX0_countIfOpened_150 rfl h
  · have h := h.2 hb
    refine u_iload (i := 5) (pc' := 99) dX0_countIfOpened_97 rfl rfl ?_
    refine u_iconst (pc' := 100) dX0_countIfOpened_99 rfl ?_
    refine u_iadd (pc' := 101) dX0_countIfOpened_100 rfl ?_
    exact u_iret dX0_countIfOpened_101 rfl h
set_option maxRecDepth 20000 in
theorem bX0_reach_0 {E : mm_Env} {d : Nat} {τ : mm_Mem} {Q : mm_Q0} {ths : Nat} {a0 : Int} (k_ths : KD ths = some (.inr 0)) (h : (((τ ths 1) < 1 ∨ 4 < (τ ths 1) → Q (some (vI 0)) τ) ∧ ((τ ths 1) = 1 → Q (some (vI (τ ths 2))) τ) ∧ ((τ ths 1) = 2 → Q (some (vI 0)) τ) ∧ ((τ ths 1) = 3 → Q (some (vI (τ ths 2))) τ) ∧ ((τ ths 1) = 4 → 0 ≤ a0 ∧ a0 < 3 ∧ (((τ ths 3) ≤ (τ (ths + 3) a0.toNat) → Q (some (vI 40)) τ) ∧ (¬ (τ ths 3) ≤ (τ (ths + 3) a0.toNat) → Q (some (vI (τ ths 2))) τ))))) : V0 E d qX0_reach 0 [some (vR ths), some (vI a0)] [] τ Q := by
  refine u_aload_n (i := 0) (pc' := 1) dX0_reach_0 rfl rfl rfl ?_
  refine u_getI (z := (τ ths 1)) (pc' := 4) dX0_reach_1 rfl fl_TuneDoor_Door_25 rfl (by decide) (kDoor k_ths).1 k_ths rfl (fun r1 => ?_)
  refine u_tableswitch (dt := 64) dX0_reach_4 r1 (by decide) (fun hb => ?_) (fun hb hb2 => ?_)
  · have h := h.1 hb
    refine u_iconst (pc' := 65) dX0_reach_64 rfl ?_
    exact u_iret dX0_reach_65 rfl h
  · have hc : (τ ths 1) = 1 ∨ (τ ths 1) = 2 ∨ (τ ths 1) = 3 ∨ (τ ths 1) = 4 := by omega
    rcases hc with hc | hc | hc | hc
    · have h := h.2.1 hc
      refine ⟨32, 36, by rw [hc]; rfl, by decide, ?_⟩
      refine u_aload_n (i := 0) (pc' := 37) dX0_reach_36 rfl rfl rfl ?_
      refine u_getI (z := (τ ths 2)) (pc' := 40) dX0_reach_37 rfl fl_TuneDoor_Door_28 rfl (by decide) (kDoor k_ths).1 k_ths rfl (fun r2 => ?_)
      exact u_iret dX0_reach_40 rfl h
    · have h := h.2.2.1 hc
      refine ⟨60, 64, by rw [hc]; rfl, by decide, ?_⟩
      refine u_iconst (pc' := 65) dX0_reach_64 rfl ?_
      exact u_iret dX0_reach_65 rfl h
    · have h := h.2.2.2.1 hc
      refine ⟨32, 36, by rw [hc]; rfl, by decide, ?_⟩
      refine u_aload_n (i := 0) (pc' := 37) dX0_reach_36 rfl rfl rfl ?_
      refine u_getI (z := (τ ths 2)) (pc' := 40) dX0_reach_37 rfl fl_TuneDoor_Door_28 rfl (by decide) (kDoor k_ths).1 k_ths rfl (fun r3 => ?_)
      exact u_iret dX0_reach_40 rfl h
    · have h := h.2.2.2.2 hc
      refine ⟨37, 41, by rw [hc]; rfl, by decide, ?_⟩
      refine u_aload_n (i := 0) (pc' := 42) dX0_reach_41 rfl rfl rfl ?_
      refine u_getR (a := (ths + 3)) (pc' := 45) dX0_reach_42 rfl fl_TuneDoor_Door_18 rfl (kDoor k_ths).1 k_ths (kDoor k_ths).2.2.2.1 ?_
      refine u_iload_n (i := 1) (pc' := 46) dX0_reach_45 rfl rfl rfl ?_
      obtain ⟨c4, c5, h⟩ := h
      refine u_iaload (k := a0.toNat) (z := (τ (ths + 3) a0.toNat)) (pc' := 47) dX0_reach_46 rfl (Nat.le_trans (kDoor k_ths).1 (Nat.le_add_right _ _)) (kDoor k_ths).2.2.2.2.2.2 c4 c5 (by decide) rfl rfl (fun r6 => ?_)
      refine u_aload_n (i := 0) (pc' := 48) dX0_reach_47 rfl rfl rfl ?_
      refine u_getI (z := (τ ths 3)) (pc' := 51) dX0_reach_48 rfl fl_TuneDoor_Door_31 rfl (by decide) (kDoor k_ths).1 k_ths rfl (fun r7 => ?_)
      refine u_icmp_ge (tgt := 61) (pc' := 54) dX0_reach_51 rfl (by decide) r6 r7 (fun hb => ?_) (fun hb => ?_)
      · have h := h.1 hb
        refine u_bipush (pc' := 63) dX0_reach_61 rfl (by decide) ?_
        exact u_iret dX0_reach_63 rfl h
      · have h := h.2 hb
        refine u_aload_n (i := 0) (pc' := 55) dX0_reach_54 rfl rfl rfl ?_
        refine u_getI (z := (τ ths 2)) (pc' := 58) dX0_reach_55 rfl fl_TuneDoor_Door_28 rfl (by decide) (kDoor k_ths).1 k_ths rfl (fun r8 => ?_)
        refine u_goto (tgt := 63) dX0_reach_58 (by decide) ?_
        exact u_iret dX0_reach_63 rfl h
theorem mX0_reach {E : mm_Env} {d : Nat} {τ : mm_Mem} {Q : mm_Q0} {ths : Nat} {a0 : Int} (k_ths : KD ths = some (.inr 0)) (h : (((τ ths 1) < 1 ∨ 4 < (τ ths 1) → Q (some (vI 0)) τ) ∧ ((τ ths 1) = 1 → Q (some (vI (τ ths 2))) τ) ∧ ((τ ths 1) = 2 → Q (some (vI 0)) τ) ∧ ((τ ths 1) = 3 → Q (some (vI (τ ths 2))) τ) ∧ ((τ ths 1) = 4 → 0 ≤ a0 ∧ a0 < 3 ∧ (((τ ths 3) ≤ (τ (ths + 3) a0.toNat) → Q (some (vI 40)) τ) ∧ (¬ (τ ths 3) ≤ (τ (ths + 3) a0.toNat) → Q (some (vI (τ ths 2))) τ))))) : M0 E d qX0_reach [vR ths, vI a0] τ Q := M0_of rfl (Nat.le_of_ble_eq_true rfl) [some (vR ths), some (vI a0)] rfl (bX0_reach_0 k_ths h)
set_option maxRecDepth 20000 in
theorem bX0_hearInVain_0 {E : mm_Env} {d : Nat} {τ : mm_Mem} {Q : mm_Q0} {ths : Nat} {a1 : Int} {a2 : Int} (k_ths : KD ths = some (.inr 0)) (h : 0 ≤ a1 ∧ a1 < 3 ∧ M0 E d qJ9_min_7cf53 [vI ((τ (ths + 3) a1.toNat) + 1), vI 255] τ (fun v τ4 => ∃ r5 : Int, v = some (vI r5) ∧ 0 ≤ a1 ∧ a1 < 3 ∧ inR r5 ∧ ((((wr τ4 (ths + 3) a1.toNat r5) ths 1) ≠ 2 → Q none (wr τ4 (ths + 3) a1.toNat r5)) ∧ (((wr τ4 (ths + 3) a1.toNat r5) ths 1) = 2 → 0 ≤ a1 ∧ a1 < 3 ∧ 0 ≤ a1 ∧ a1 < 3 ∧ M0 E d qX9_seek [vR 78, vI a1, vI (((wr τ4 (ths + 3) a1.toNat r5) (ths + 1) a1.toNat) + 1), vI (((wr τ4 (ths + 3) a1.toNat r5) (ths + 1) a1.toNat) + ((wr τ4 (ths + 3) a1.toNat r5) ths 2)), vI a2, vI 0] (wr τ4 (ths + 3) a1.toNat r5) (fun v τ17 => ∃ r18 : Int, v = some (vI r18) ∧ 0 ≤ a1 ∧ a1 < 3 ∧ inR r18 ∧ Q none (wr τ17 (ths + 2) a1.toNat r18)))))) : V0 E (d + 1) qX0_hearInVain 0 [some (vR ths), some (vR 78), some (vI a1), some (vI a2)] [] τ Q := by
  refine u_aload_n (i := 0) (pc' := 1) dX0_hearInVain_0 rfl rfl rfl ?_
  refine u_getR (a := (ths + 3)) (pc' := 4) dX0_hearInVain_1 rfl fl_TuneDoor_Door_18 rfl (kDoor k_ths).1 k_ths (kDoor k_ths).2.2.2.1 ?_
  refine u_iload_n (i := 2) (pc' := 5) dX0_hearInVain_4 rfl rfl rfl ?_
  refine u_aload_n (i := 0) (pc' := 6) dX0_hearInVain_5 rfl rfl rfl ?_
  refine u_getR (a := (ths + 3)) (pc' := 9) dX0_hearInVain_6 rfl fl_TuneDoor_Door_18 rfl (kDoor k_ths).1 k_ths (kDoor k_ths).2.2.2.1 ?_
  refine u_iload_n (i := 2) (pc' := 10) dX0_hearInVain_9 rfl rfl rfl ?_
  obtain ⟨c1, c2, h⟩ := h
  refine u_iaload (k := a1.toNat) (z := (τ (ths + 3) a1.toNat)) (pc' := 11) dX0_hearInVain_10 rfl (Nat.le_trans (kDoor k_ths).1 (Nat.le_add_right _ _)) (kDoor k_ths).2.2.2.2.2.2 c1 c2 (by decide) rfl rfl (fun r3 => ?_)
  refine u_iconst (pc' := 12) dX0_hearInVain_11 rfl ?_
  refine u_iadd (pc' := 13) dX0_hearInVain_12 rfl ?_
  refine u_sipush (pc' := 16) dX0_hearInVain_13 rfl (by decide) ?_
  refine u_invS (q' := qJ9_min_7cf53) (As := [vI ((τ (ths + 3) a1.toNat) + 1), vI 255]) (st := [vI a1, vR (ths + 3)]) (pc' := 19) dX0_hearInVain_16 rfl gJ9_min_7cf53 wm_939 wm_530 rfl (Nat.le_of_ble_eq_true rfl) (M0.mono h (fun v τ4 h => ?_))
  obtain ⟨r5, rfl, h⟩ := h
  show V0 E (d + 1) qX0_hearInVain 19 [some (vR ths), some (vR 78), some (vI a1), some (vI a2)] [vI r5, vI a1, vR (ths + 3)] τ4 Q
  obtain ⟨c6, c7, c8, h⟩ := h
  refine u_iastore (k := a1.toNat) (pc' := 20) dX0_hearInVain_19 rfl (Nat.le_trans (kDoor k_ths).1 (Nat.le_add_right _ _)) (kDoor k_ths).2.2.2.2.2.2 c6 c7 (by decide) rfl c8 ?_
  refine u_aload_n (i := 0) (pc' := 21) dX0_hearInVain_20 rfl rfl rfl ?_
  refine u_getI (z := ((wr τ4 (ths + 3) a1.toNat r5) ths 1)) (pc' := 24) dX0_hearInVain_21 rfl fl_TuneDoor_Door_25 rfl (by decide) (kDoor k_ths).1 k_ths rfl (fun r9 => ?_)
  refine u_iconst (pc' := 25) dX0_hearInVain_24 rfl ?_
  refine u_icmp_ne (tgt := 60) (pc' := 28) dX0_hearInVain_25 rfl (by decide) r9 ⟨by decide, by decide⟩ (fun hb => ?_) (fun hb => ?_)
  · have h := h.1 hb
    exact u_ret dX0_hearInVain_60 rfl h
  · have h := h.2 hb
    refine u_aload_n (i := 0) (pc' := 29) dX0_hearInVain_28 rfl rfl rfl ?_
    refine u_getR (a := (ths + 2)) (pc' := 32) dX0_hearInVain_29 rfl fl_TuneDoor_Door_15 rfl (kDoor k_ths).1 k_ths (kDoor k_ths).2.2.1 ?_
    refine u_iload_n (i := 2) (pc' := 33) dX0_hearInVain_32 rfl rfl rfl ?_
    refine u_aload_n (i := 1) (pc' := 34) dX0_hearInVain_33 rfl rfl rfl ?_
    refine u_iload_n (i := 2) (pc' := 35) dX0_hearInVain_34 rfl rfl rfl ?_
    refine u_aload_n (i := 0) (pc' := 36) dX0_hearInVain_35 rfl rfl rfl ?_
    refine u_getR (a := (ths + 1)) (pc' := 39) dX0_hearInVain_36 rfl fl_TuneDoor_Door_9 rfl (kDoor k_ths).1 k_ths (kDoor k_ths).2.1 ?_
    refine u_iload_n (i := 2) (pc' := 40) dX0_hearInVain_39 rfl rfl rfl ?_
    obtain ⟨c10, c11, h⟩ := h
    refine u_iaload (k := a1.toNat) (z := ((wr τ4 (ths + 3) a1.toNat r5) (ths + 1) a1.toNat)) (pc' := 41) dX0_hearInVain_40 rfl (Nat.le_trans (kDoor k_ths).1 (Nat.le_add_right _ _)) (kDoor k_ths).2.2.2.2.1 c10 c11 (by decide) rfl rfl (fun r12 => ?_)
    refine u_iconst (pc' := 42) dX0_hearInVain_41 rfl ?_
    refine u_iadd (pc' := 43) dX0_hearInVain_42 rfl ?_
    refine u_aload_n (i := 0) (pc' := 44) dX0_hearInVain_43 rfl rfl rfl ?_
    refine u_getR (a := (ths + 1)) (pc' := 47) dX0_hearInVain_44 rfl fl_TuneDoor_Door_9 rfl (kDoor k_ths).1 k_ths (kDoor k_ths).2.1 ?_
    refine u_iload_n (i := 2) (pc' := 48) dX0_hearInVain_47 rfl rfl rfl ?_
    obtain ⟨c13, c14, h⟩ := h
    refine u_iaload (k := a1.toNat) (z := ((wr τ4 (ths + 3) a1.toNat r5) (ths + 1) a1.toNat)) (pc' := 49) dX0_hearInVain_48 rfl (Nat.le_trans (kDoor k_ths).1 (Nat.le_add_right _ _)) (kDoor k_ths).2.2.2.2.1 c13 c14 (by decide) rfl rfl (fun r15 => ?_)
    refine u_aload_n (i := 0) (pc' := 50) dX0_hearInVain_49 rfl rfl rfl ?_
    refine u_getI (z := ((wr τ4 (ths + 3) a1.toNat r5) ths 2)) (pc' := 53) dX0_hearInVain_50 rfl fl_TuneDoor_Door_28 rfl (by decide) (kDoor k_ths).1 k_ths rfl (fun r16 => ?_)
    refine u_iadd (pc' := 54) dX0_hearInVain_53 rfl ?_
    refine u_iload_n (i := 3) (pc' := 55) dX0_hearInVain_54 rfl rfl rfl ?_
    refine u_iconst (pc' := 56) dX0_hearInVain_55 rfl ?_
    refine u_invV (q' := qX9_seek) (As := [vI a1, vI (((wr τ4 (ths + 3) a1.toNat r5) (ths + 1) a1.toNat) + 1), vI (((wr τ4 (ths + 3) a1.toNat r5) (ths + 1) a1.toNat) + ((wr τ4 (ths + 3) a1.toNat r5) ths 2)), vI a2, vI 0]) (st := [vI a1, vR (ths + 2)]) (pc' := 59) dX0_hearInVain_56 rfl gX9_seek wm_921 rfl rfl (by decide) kd_78 wm_922 wm_923 rfl (Nat.le_of_ble_eq_true rfl) (M0.mono h (fun v τ17 h => ?_))
    obtain ⟨r18, rfl, h⟩ := h
    show V0 E (d + 1) qX0_hearInVain 59 [some (vR ths), some (vR 78), some (vI a1), some (vI a2)] [vI r18, vI a1, vR (ths + 2)] τ17 Q
    obtain ⟨c19, c20, c21, h⟩ := h
    refine u_iastore (k := a1.toNat) (pc' := 60) dX0_hearInVain_59 rfl (Nat.le_trans (kDoor k_ths).1 (Nat.le_add_right _ _)) (kDoor k_ths).2.2.2.2.2.1 c19 c20 (by decide) rfl c21 ?_
    exact u_ret dX0_hearInVain_60 rfl h
theorem mX0_hearInVain {E : mm_Env} {d : Nat} {τ : mm_Mem} {Q : mm_Q0} {ths : Nat} {a1 : Int} {a2 : Int} (k_ths : KD ths = some (.inr 0)) (h : 0 ≤ a1 ∧ a1 < 3 ∧ M0 E d qJ9_min_7cf53 [vI ((τ (ths + 3) a1.toNat) + 1), vI 255] τ (fun v τ4 => ∃ r5 : Int, v = some (vI r5) ∧ 0 ≤ a1 ∧ a1 < 3 ∧ inR r5 ∧ ((((wr τ4 (ths + 3) a1.toNat r5) ths 1) ≠ 2 → Q none (wr τ4 (ths + 3) a1.toNat r5)) ∧ (((wr τ4 (ths + 3) a1.toNat r5) ths 1) = 2 → 0 ≤ a1 ∧ a1 < 3 ∧ 0 ≤ a1 ∧ a1 < 3 ∧ M0 E d qX9_seek [vR 78, vI a1, vI (((wr τ4 (ths + 3) a1.toNat r5) (ths + 1) a1.toNat) + 1), vI (((wr τ4 (ths + 3) a1.toNat r5) (ths + 1) a1.toNat) + ((wr τ4 (ths + 3) a1.toNat r5) ths 2)), vI a2, vI 0] (wr τ4 (ths + 3) a1.toNat r5) (fun v τ17 => ∃ r18 : Int, v = some (vI r18) ∧ 0 ≤ a1 ∧ a1 < 3 ∧ inR r18 ∧ Q none (wr τ17 (ths + 2) a1.toNat r18)))))) : M0 E (d + 1) qX0_hearInVain [vR ths, vR 78, vI a1, vI a2] τ Q := M0_of rfl (Nat.le_of_ble_eq_true rfl) [some (vR ths), some (vR 78), some (vI a1), some (vI a2)] rfl (bX0_hearInVain_0 k_ths h)
set_option maxRecDepth 20000 in
theorem bX0_copyFrom_0 {E : mm_Env} {d : Nat} {τ : mm_Mem} {Q : mm_Q0} {ths : Nat} {a0 : Nat} (k_ths : KD ths = some (.inr 0)) (k_a0 : KD a0 = some (.inr 0)) (h : V0 E d qX0_copyFrom 34 [some (vR ths), some (vR a0), some (vI 0)] [] (wr (wr (wr (wr τ ths 1 (τ a0 1)) ths 2 ((wr τ ths 1 (τ a0 1)) a0 2)) ths 3 ((wr (wr τ ths 1 (τ a0 1)) ths 2 ((wr τ ths 1 (τ a0 1)) a0 2)) a0 3)) ths 4 ((wr (wr (wr τ ths 1 (τ a0 1)) ths 2 ((wr τ ths 1 (τ a0 1)) a0 2)) ths 3 ((wr (wr τ ths 1 (τ a0 1)) ths 2 ((wr τ ths 1 (τ a0 1)) a0 2)) a0 3)) a0 4)) Q) : V0 E d qX0_copyFrom 0 [some (vR ths), some (vR a0), none] [] τ Q := by
  refine u_aload_n (i := 0) (pc' := 1) dX0_copyFrom_0 rfl rfl rfl ?_
  refine u_aload_n (i := 1) (pc' := 2) dX0_copyFrom_1 rfl rfl rfl ?_
  refine u_getI (z := (τ a0 1)) (pc' := 5) dX0_copyFrom_2 rfl fl_TuneDoor_Door_25 rfl (by decide) (kDoor k_a0).1 k_a0 rfl (fun r1 => ?_)
  refine u_putI (pc' := 8) dX0_copyFrom_5 rfl fl_TuneDoor_Door_25 rfl rfl (by decide) (kDoor k_ths).1 k_ths r1 ?_
  refine u_aload_n (i := 0) (pc' := 9) dX0_copyFrom_8 rfl rfl rfl ?_
  refine u_aload_n (i := 1) (pc' := 10) dX0_copyFrom_9 rfl rfl rfl ?_
  refine u_getI (z := ((wr τ ths 1 (τ a0 1)) a0 2)) (pc' := 13) dX0_copyFrom_10 rfl fl_TuneDoor_Door_28 rfl (by decide) (kDoor k_a0).1 k_a0 rfl (fun r2 => ?_)
  refine u_putI (pc' := 16) dX0_copyFrom_13 rfl fl_TuneDoor_Door_28 rfl rfl (by decide) (kDoor k_ths).1 k_ths r2 ?_
  refine u_aload_n (i := 0) (pc' := 17) dX0_copyFrom_16 rfl rfl rfl ?_
  refine u_aload_n (i := 1) (pc' := 18) dX0_copyFrom_17 rfl rfl rfl ?_
  refine u_getI (z := ((wr (wr τ ths 1 (τ a0 1)) ths 2 ((wr τ ths 1 (τ a0 1)) a0 2)) a0 3)) (pc' := 21) dX0_copyFrom_18 rfl fl_TuneDoor_Door_31 rfl (by decide) (kDoor k_a0).1 k_a0 rfl (fun r3 => ?_)
  refine u_putI (pc' := 24) dX0_copyFrom_21 rfl fl_TuneDoor_Door_31 rfl rfl (by decide) (kDoor k_ths).1 k_ths r3 ?_
  refine u_aload_n (i := 0) (pc' := 25) dX0_copyFrom_24 rfl rfl rfl ?_
  refine u_aload_n (i := 1) (pc' := 26) dX0_copyFrom_25 rfl rfl rfl ?_
  refine u_getI (z := ((wr (wr (wr τ ths 1 (τ a0 1)) ths 2 ((wr τ ths 1 (τ a0 1)) a0 2)) ths 3 ((wr (wr τ ths 1 (τ a0 1)) ths 2 ((wr τ ths 1 (τ a0 1)) a0 2)) a0 3)) a0 4)) (pc' := 29) dX0_copyFrom_26 rfl fl_TuneDoor_Door_34 rfl (by decide) (kDoor k_a0).1 k_a0 rfl (fun r4 => ?_)
  refine u_putI (pc' := 32) dX0_copyFrom_29 rfl fl_TuneDoor_Door_34 rfl rfl (by decide) (kDoor k_ths).1 k_ths r4 ?_
  refine u_iconst (pc' := 33) dX0_copyFrom_32 rfl ?_
  refine s_istore_n (i := 2) (ls' := [some (vR ths), some (vR a0), some (vI 0)]) (pc' := 34) dX0_copyFrom_33 rfl rfl (Nat.le_of_ble_eq_true rfl) rfl rfl ?_
  exact u_less (ls' := [some (vR ths), some (vR a0), some (vI 0)]) ⟨rfl, ⟨rfl, ⟨rfl, trivial⟩⟩⟩ h
theorem mX0_copyFrom {E : mm_Env} {d : Nat} {τ : mm_Mem} {Q : mm_Q0} {ths : Nat} {a0 : Nat} (k_ths : KD ths = some (.inr 0)) (k_a0 : KD a0 = some (.inr 0)) (h : V0 E d qX0_copyFrom 34 [some (vR ths), some (vR a0), some (vI 0)] [] (wr (wr (wr (wr τ ths 1 (τ a0 1)) ths 2 ((wr τ ths 1 (τ a0 1)) a0 2)) ths 3 ((wr (wr τ ths 1 (τ a0 1)) ths 2 ((wr τ ths 1 (τ a0 1)) a0 2)) a0 3)) ths 4 ((wr (wr (wr τ ths 1 (τ a0 1)) ths 2 ((wr τ ths 1 (τ a0 1)) a0 2)) ths 3 ((wr (wr τ ths 1 (τ a0 1)) ths 2 ((wr τ ths 1 (τ a0 1)) a0 2)) a0 3)) a0 4)) Q) : M0 E d qX0_copyFrom [vR ths, vR a0] τ Q := M0_of rfl (Nat.le_of_ble_eq_true rfl) [some (vR ths), some (vR a0), none] rfl (bX0_copyFrom_0 k_ths k_a0 h)
set_option maxRecDepth 20000 in
theorem bX0_copyFrom_34 {E : mm_Env} {d : Nat} {τ : mm_Mem} {Q : mm_Q0} {x0 : Nat} {x1 : Nat} {x2 : Int} (k_x0 : KD x0 = some (.inr 0)) (k_x1 : KD x1 = some (.inr 0)) (h : inR x2 ∧ ((3 ≤ x2 → Q none τ) ∧ (¬ 3 ≤ x2 → 0 ≤ x2 ∧ x2 < 3 ∧ 0 ≤ x2 ∧ x2 < 3 ∧ 0 ≤ x2 ∧ x2 < 3 ∧ 0 ≤ x2 ∧ x2 < 3 ∧ 0 ≤ x2 ∧ x2 < 3 ∧ 0 ≤ x2 ∧ x2 < 3 ∧ V0 E d qX0_copyFrom 34 [some (vR x0), some (vR x1), some (vI (x2 + 1))] [] (wr (wr (wr τ (x0 + 1) x2.toNat (τ (x1 + 1) x2.toNat)) (x0 + 2) x2.toNat ((wr τ (x0 + 1) x2.toNat (τ (x1 + 1) x2.toNat)) (x1 + 2) x2.toNat)) (x0 + 3) x2.toNat ((wr (wr τ (x0 + 1) x2.toNat (τ (x1 + 1) x2.toNat)) (x0 + 2) x2.toNat ((wr τ (x0 + 1) x2.toNat (τ (x1 + 1) x2.toNat)) (x1 + 2) x2.toNat)) (x1 + 3) x2.toNat)) Q))) : V0 E d qX0_copyFrom 34 [some (vR x0), some (vR x1), some (vI x2)] [] τ Q := by
  refine u_iload_n (i := 2) (pc' := 35) dX0_copyFrom_34 rfl rfl rfl ?_
  refine u_iconst (pc' := 36) dX0_copyFrom_35 rfl ?_
  obtain ⟨c1, h⟩ := h
  refine u_icmp_ge (tgt := 81) (pc' := 39) dX0_copyFrom_36 rfl (by decide) c1 ⟨by decide, by decide⟩ (fun hb => ?_) (fun hb => ?_)
  · have h := h.1 hb
    exact u_ret dX0_copyFrom_81 rfl h
  · have h := h.2 hb
    refine u_aload_n (i := 0) (pc' := 40) dX0_copyFrom_39 rfl rfl rfl ?_
    refine u_getR (a := (x0 + 1)) (pc' := 43) dX0_copyFrom_40 rfl fl_TuneDoor_Door_9 rfl (kDoor k_x0).1 k_x0 (kDoor k_x0).2.1 ?_
    refine u_iload_n (i := 2) (pc' := 44) dX0_copyFrom_43 rfl rfl rfl ?_
    refine u_aload_n (i := 1) (pc' := 45) dX0_copyFrom_44 rfl rfl rfl ?_
    refine u_getR (a := (x1 + 1)) (pc' := 48) dX0_copyFrom_45 rfl fl_TuneDoor_Door_9 rfl (kDoor k_x1).1 k_x1 (kDoor k_x1).2.1 ?_
    refine u_iload_n (i := 2) (pc' := 49) dX0_copyFrom_48 rfl rfl rfl ?_
    obtain ⟨c2, c3, h⟩ := h
    refine u_iaload (k := x2.toNat) (z := (τ (x1 + 1) x2.toNat)) (pc' := 50) dX0_copyFrom_49 rfl (Nat.le_trans (kDoor k_x1).1 (Nat.le_add_right _ _)) (kDoor k_x1).2.2.2.2.1 c2 c3 (by decide) rfl rfl (fun r4 => ?_)
    obtain ⟨c5, c6, h⟩ := h
    refine u_iastore (k := x2.toNat) (pc' := 51) dX0_copyFrom_50 rfl (Nat.le_trans (kDoor k_x0).1 (Nat.le_add_right _ _)) (kDoor k_x0).2.2.2.2.1 c5 c6 (by decide) rfl r4 ?_
    refine u_aload_n (i := 0) (pc' := 52) dX0_copyFrom_51 rfl rfl rfl ?_
    refine u_getR (a := (x0 + 2)) (pc' := 55) dX0_copyFrom_52 rfl fl_TuneDoor_Door_15 rfl (kDoor k_x0).1 k_x0 (kDoor k_x0).2.2.1 ?_
    refine u_iload_n (i := 2) (pc' := 56) dX0_copyFrom_55 rfl rfl rfl ?_
    refine u_aload_n (i := 1) (pc' := 57) dX0_copyFrom_56 rfl rfl rfl ?_
    refine u_getR (a := (x1 + 2)) (pc' := 60) dX0_copyFrom_57 rfl fl_TuneDoor_Door_15 rfl (kDoor k_x1).1 k_x1 (kDoor k_x1).2.2.1 ?_
    refine u_iload_n (i := 2) (pc' := 61) dX0_copyFrom_60 rfl rfl rfl ?_
    obtain ⟨c7, c8, h⟩ := h
    refine u_iaload (k := x2.toNat) (z := ((wr τ (x0 + 1) x2.toNat (τ (x1 + 1) x2.toNat)) (x1 + 2) x2.toNat)) (pc' := 62) dX0_copyFrom_61 rfl (Nat.le_trans (kDoor k_x1).1 (Nat.le_add_right _ _)) (kDoor k_x1).2.2.2.2.2.1 c7 c8 (by decide) rfl rfl (fun r9 => ?_)
    obtain ⟨c10, c11, h⟩ := h
    refine u_iastore (k := x2.toNat) (pc' := 63) dX0_copyFrom_62 rfl (Nat.le_trans (kDoor k_x0).1 (Nat.le_add_right _ _)) (kDoor k_x0).2.2.2.2.2.1 c10 c11 (by decide) rfl r9 ?_
    refine u_aload_n (i := 0) (pc' := 64) dX0_copyFrom_63 rfl rfl rfl ?_
    refine u_getR (a := (x0 + 3)) (pc' := 67) dX0_copyFrom_64 rfl fl_TuneDoor_Door_18 rfl (kDoor k_x0).1 k_x0 (kDoor k_x0).2.2.2.1 ?_
    refine u_iload_n (i := 2) (pc' := 68) dX0_copyFrom_67 rfl rfl rfl ?_
    refine u_aload_n (i := 1) (pc' := 69) dX0_copyFrom_68 rfl rfl rfl ?_
    refine u_getR (a := (x1 + 3)) (pc' := 72) dX0_copyFrom_69 rfl fl_TuneDoor_Door_18 rfl (kDoor k_x1).1 k_x1 (kDoor k_x1).2.2.2.1 ?_
    refine u_iload_n (i := 2) (pc' := 73) dX0_copyFrom_72 rfl rfl rfl ?_
    obtain ⟨c12, c13, h⟩ := h
    refine u_iaload (k := x2.toNat) (z := ((wr (wr τ (x0 + 1) x2.toNat (τ (x1 + 1) x2.toNat)) (x0 + 2) x2.toNat ((wr τ (x0 + 1) x2.toNat (τ (x1 + 1) x2.toNat)) (x1 + 2) x2.toNat)) (x1 + 3) x2.toNat)) (pc' := 74) dX0_copyFrom_73 rfl (Nat.le_trans (kDoor k_x1).1 (Nat.le_add_right _ _)) (kDoor k_x1).2.2.2.2.2.2 c12 c13 (by decide) rfl rfl (fun r14 => ?_)
    obtain ⟨c15, c16, h⟩ := h
    refine u_iastore (k := x2.toNat) (pc' := 75) dX0_copyFrom_74 rfl (Nat.le_trans (kDoor k_x0).1 (Nat.le_add_right _ _)) (kDoor k_x0).2.2.2.2.2.2 c15 c16 (by decide) rfl r14 ?_
    refine s_iinc (i := 2) (ls' := [some (vR x0), some (vR x1), some (vI (x2 + 1))]) (pc' := 78) dX0_copyFrom_75 rfl rfl (Nat.le_of_ble_eq_true rfl) rfl rfl ?_
    refine u_goto (tgt := 34) dX0_copyFrom_78 (by decide) ?_
    exact u_less (ls' := [some (vR x0), some (vR x1), some (vI (x2 + 1))]) ⟨rfl, ⟨rfl, ⟨rfl, trivial⟩⟩⟩ h
