set_option maxRecDepth 20000 in
theorem bX7_countOpening_0 {E : mm_Env} {d : Nat} {τ : mm_Mem} {Q : mm_Q0} {a0 : Nat} (k_a0 : KD a0 = some (.inr 0)) (h : (((τ a0 1) ≠ 3 → inR ((τ 133 2) + 1) ∧ V0 E (d + 1) qX7_countOpening 28 [some (vR 133), some (vR a0), some (vI 0), some (vI 0), none] [] (wr τ 133 2 ((τ 133 2) + 1)) Q) ∧ ((τ a0 1) = 3 → M0 E d qX7_countByLip [vR 133, vR a0] τ (fun v τ4 => ∃ r5 : Int, v = some (vI r5) ∧ Q (some (vI r5)) τ4)))) : V0 E (d + 1) qX7_countOpening 0 [some (vR 133), some (vR a0), none, none, none] [] τ Q := by
  refine u_aload_n (i := 1) (pc' := 1) dX7_countOpening_0 rfl rfl rfl ?_
  refine u_getI (z := (τ a0 1)) (pc' := 4) dX7_countOpening_1 rfl fl_TuneDoor_TuneSet_26 rfl (by decide) (kDoor k_a0).1 k_a0 rfl (fun r1 => ?_)
  refine u_iconst (pc' := 5) dX7_countOpening_4 rfl ?_
  refine u_icmp_ne (tgt := 14) (pc' := 8) dX7_countOpening_5 rfl (by decide) r1 ⟨by decide, by decide⟩ (fun hb => ?_) (fun hb => ?_)
  · have h := h.1 hb
    refine u_aload_n (i := 0) (pc' := 15) dX7_countOpening_14 rfl rfl rfl ?_
    refine u_dup (pc' := 16) dX7_countOpening_15 rfl (fun _ hh => by cases hh) ?_
    refine u_getI (z := (τ 133 2)) (pc' := 19) dX7_countOpening_16 rfl fl_TuneDoor_TuneSet_15 rfl (by decide) (by decide) kd_133 rfl (fun r2 => ?_)
    refine u_iconst (pc' := 20) dX7_countOpening_19 rfl ?_
    refine u_iadd (pc' := 21) dX7_countOpening_20 rfl ?_
    obtain ⟨c3, h⟩ := h
    refine u_putI (pc' := 24) dX7_countOpening_21 rfl fl_TuneDoor_TuneSet_15 rfl rfl (by decide) (by decide) kd_133 c3 ?_
    refine u_iconst (pc' := 25) dX7_countOpening_24 rfl ?_
    refine s_istore_n (i := 2) (ls' := [some (vR 133), some (vR a0), some (vI 0), none, none]) (pc' := 26) dX7_countOpening_25 rfl rfl (Nat.le_of_ble_eq_true rfl) rfl rfl ?_
    refine u_iconst (pc' := 27) dX7_countOpening_26 rfl ?_
    refine s_istore_n (i := 3) (ls' := [some (vR 133), some (vR a0), some (vI 0), some (vI 0), none]) (pc' := 28) dX7_countOpening_27 rfl rfl (Nat.le_of_ble_eq_true rfl) rfl rfl ?_
    exact u_less (ls' := [some (vR 133), some (vR a0), some (vI 0), some (vI 0), none]) ⟨rfl, ⟨rfl, ⟨rfl, ⟨rfl, trivial⟩⟩⟩⟩ h
  · have h := h.2 hb
    refine u_aload_n (i := 0) (pc' := 9) dX7_countOpening_8 rfl rfl rfl ?_
    refine u_aload_n (i := 1) (pc' := 10) dX7_countOpening_9 rfl rfl rfl ?_
    refine u_invV (q' := qX7_countByLip) (As := [vR a0]) (st := []) (pc' := 13) dX7_countOpening_10 rfl gX7_countByLip wm_1024 rfl rfl (by decide) kd_133 wm_1026 wp_54 rfl (Nat.le_of_ble_eq_true rfl) (M0.mono h (fun v τ4 h => ?_))
    obtain ⟨r5, rfl, h⟩ := h
    show V0 E (d + 1) qX7_countOpening 13 [some (vR 133), some (vR a0), none, none, none] [vI r5] τ4 Q
    exact u_iret dX7_countOpening_13 rfl h
theorem mX7_countOpening {E : mm_Env} {d : Nat} {τ : mm_Mem} {Q : mm_Q0} {a0 : Nat} (k_a0 : KD a0 = some (.inr 0)) (h : (((τ a0 1) ≠ 3 → inR ((τ 133 2) + 1) ∧ V0 E (d + 1) qX7_countOpening 28 [some (vR 133), some (vR a0), some (vI 0), some (vI 0), none] [] (wr τ 133 2 ((τ 133 2) + 1)) Q) ∧ ((τ a0 1) = 3 → M0 E d qX7_countByLip [vR 133, vR a0] τ (fun v τ4 => ∃ r5 : Int, v = some (vI r5) ∧ Q (some (vI r5)) τ4)))) : M0 E (d + 1) qX7_countOpening [vR 133, vR a0] τ Q := M0_of rfl (Nat.le_of_ble_eq_true rfl) [some (vR 133), some (vR a0), none, none, none] rfl (bX7_countOpening_0 k_a0 h)
set_option maxRecDepth 20000 in
theorem bX7_countOpening_28 {E : mm_Env} {d : Nat} {τ : mm_Mem} {Q : mm_Q0} {x1 : Nat} {x2 : Int} {x3 : Int} (k_x1 : KD x1 = some (.inr 0)) (h : inR x3 ∧ ((3 ≤ x3 → Q (some (vI x2)) τ) ∧ (¬ 3 ≤ x3 → M0 E d qX0_hasEar [vR x1, vI x3] τ (fun v τ2 => ∃ b3 : Bool, v = some (vB b3) ∧ ((b3 = false → V0 E (d + 1) qX7_countOpening 28 [some (vR 133), some (vR x1), some (vI x2), some (vI (x3 + 1)), none] [] τ2 Q) ∧ (b3 = true → (((τ2 x1 1) ≠ 1 → V0 E (d + 1) qX7_countOpening 57 [some (vR 133), some (vR x1), some (vI x2), some (vI x3), none] [vI 0] τ2 Q) ∧ ((τ2 x1 1) = 1 → V0 E (d + 1) qX7_countOpening 57 [some (vR 133), some (vR x1), some (vI x2), some (vI x3), none] [vI (τ2 x1 3)] τ2 Q)))))))) : V0 E (d + 1) qX7_countOpening 28 [some (vR 133), some (vR x1), some (vI x2), some (vI x3), none] [] τ Q := by
  refine u_iload_n (i := 3) (pc' := 29) dX7_countOpening_28 rfl rfl rfl ?_
  refine u_iconst (pc' := 30) dX7_countOpening_29 rfl ?_
  obtain ⟨c1, h⟩ := h
  refine u_icmp_ge (tgt := 136) (pc' := 33) dX7_countOpening_30 rfl (by decide) c1 ⟨by decide, by decide⟩ (fun hb => ?_) (fun hb => ?_)
  · have h := h.1 hb
    refine u_iload_n (i := 2) (pc' := 137) dX7_countOpening_136 rfl rfl rfl ?_
    exact u_iret dX7_countOpening_137 rfl h
  · have h := h.2 hb
    refine u_aload_n (i := 1) (pc' := 34) dX7_countOpening_33 rfl rfl rfl ?_
    refine u_iload_n (i := 3) (pc' := 35) dX7_countOpening_34 rfl rfl rfl ?_
    refine u_invV (q' := qX0_hasEar) (As := [vI x3]) (st := []) (pc' := 38) dX7_countOpening_35 rfl gX0_hasEar wm_1035 rfl rfl (kDoor k_x1).1 k_x1 wm_897 wm_898 rfl (Nat.le_of_ble_eq_true rfl) (M0.mono h (fun v τ2 h => ?_))
    obtain ⟨b3, rfl, h⟩ := h
    show V0 E (d + 1) qX7_countOpening 38 [some (vR 133), some (vR x1), some (vI x2), some (vI x3), none] [vB b3] τ2 Q
    refine u_if_eq (tgt := 130) (pc' := 41) dX7_countOpening_38 rfl (by decide) (bI_R _) (fun hb => ?_) (fun hb => ?_)
    · have h := h.1 (bI_0.mp hb)
      refine s_iinc (i := 3) (ls' := [some (vR 133), some (vR x1), some (vI x2), some (vI (x3 + 1)), none]) (pc' := 133) dX7_countOpening_130 rfl rfl (Nat.le_of_ble_eq_true rfl) rfl rfl ?_
      refine u_goto (tgt := 28) dX7_countOpening_133 (by decide) ?_
      exact u_less (ls' := [some (vR 133), some (vR x1), some (vI x2), some (vI (x3 + 1)), none]) ⟨rfl, ⟨rfl, ⟨rfl, ⟨rfl, trivial⟩⟩⟩⟩ h
    · have h := h.2 (bI_n0.mp hb)
      refine u_aload_n (i := 1) (pc' := 42) dX7_countOpening_41 rfl rfl rfl ?_
      refine u_getI (z := (τ2 x1 1)) (pc' := 45) dX7_countOpening_42 rfl fl_TuneDoor_TuneSet_26 rfl (by decide) (kDoor k_x1).1 k_x1 rfl (fun r4 => ?_)
      refine u_iconst (pc' := 46) dX7_countOpening_45 rfl ?_
      refine u_icmp_ne (tgt := 56) (pc' := 49) dX7_countOpening_46 rfl (by decide) r4 ⟨by decide, by decide⟩ (fun hb => ?_) (fun hb => ?_)
      · have h := h.1 hb
        refine u_iconst (pc' := 57) dX7_countOpening_56 rfl ?_
        exact u_less (ls' := [some (vR 133), some (vR x1), some (vI x2), some (vI x3), none]) ⟨rfl, ⟨rfl, ⟨rfl, ⟨rfl, trivial⟩⟩⟩⟩ h
      · have h := h.2 hb
        refine u_aload_n (i := 1) (pc' := 50) dX7_countOpening_49 rfl rfl rfl ?_
        refine u_getI (z := (τ2 x1 3)) (pc' := 53) dX7_countOpening_50 rfl fl_TuneDoor_TuneSet_39 rfl (by decide) (kDoor k_x1).1 k_x1 rfl (fun r5 => ?_)
        refine u_goto (tgt := 57) dX7_countOpening_53 (by decide) ?_
        exact u_less (ls' := [some (vR 133), some (vR x1), some (vI x2), some (vI x3), none]) ⟨rfl, ⟨rfl, ⟨rfl, ⟨rfl, trivial⟩⟩⟩⟩ h
set_option maxRecDepth 20000 in
theorem bX7_countOpening_57 {E : mm_Env} {d : Nat} {τ : mm_Mem} {Q : mm_Q0} {x1 : Nat} {x2 : Int} {x3 : Int} {y0 : Int} (k_x1 : KD x1 = some (.inr 0)) (h : 0 ≤ x3 ∧ x3 < 3 ∧ 0 ≤ x3 ∧ x3 < 3 ∧ M0 E d qX0_reach [vR x1, vI x3] τ (fun v τ7 => ∃ r8 : Int, v = some (vI r8) ∧ M0 E d qX7_stampRow [vR 133, vI x3, vI ((τ (x1 + 1) x3.toNat) - y0), vI ((τ (x1 + 1) x3.toNat) + r8)] τ7 (fun v τ9 => ∃ r10 : Int, v = some (vI r10) ∧ (((τ9 x1 1) ≠ 2 → V0 E (d + 1) qX7_countOpening 28 [some (vR 133), some (vR x1), some (vI (x2 + r10)), some (vI (x3 + 1)), none] [] τ9 Q) ∧ ((τ9 x1 1) = 2 → 0 ≤ x3 ∧ x3 < 3 ∧ (((τ9 (x1 + 2) x3.toNat) = (-1) → V0 E (d + 1) qX7_countOpening 28 [some (vR 133), some (vR x1), some (vI (x2 + r10)), some (vI (x3 + 1)), none] [] τ9 Q) ∧ (¬ (τ9 (x1 + 2) x3.toNat) = (-1) → 0 ≤ x3 ∧ x3 < 3 ∧ 0 ≤ x3 ∧ x3 < 3 ∧ M0 E d qX7_stampRow [vR 133, vI x3, vI ((τ9 (x1 + 2) x3.toNat) + 1), vI ((τ9 (x1 + 2) x3.toNat) + 1)] τ9 (fun v τ21 => ∃ r22 : Int, v = some (vI r22) ∧ V0 E (d + 1) qX7_countOpening 28 [some (vR 133), some (vR x1), some (vI ((x2 + r10) + r22)), some (vI (x3 + 1)), none] [] τ21 Q)))))))) : V0 E (d + 1) qX7_countOpening 57 [some (vR 133), some (vR x1), some (vI x2), some (vI x3), none] [vI y0] τ Q := by
  refine s_istore (i := 4) (ls' := [some (vR 133), some (vR x1), some (vI x2), some (vI x3), some (vI y0)]) (pc' := 59) dX7_countOpening_57 rfl (Nat.le_of_ble_eq_true rfl) rfl rfl ?_
  refine u_iload_n (i := 2) (pc' := 60) dX7_countOpening_59 rfl rfl rfl ?_
  refine u_aload_n (i := 0) (pc' := 61) dX7_countOpening_60 rfl rfl rfl ?_
  refine u_iload_n (i := 3) (pc' := 62) dX7_countOpening_61 rfl rfl rfl ?_
  refine u_aload_n (i := 1) (pc' := 63) dX7_countOpening_62 rfl rfl rfl ?_
  refine u_getR (a := (x1 + 1)) (pc' := 66) dX7_countOpening_63 rfl fl_TuneDoor_TuneSet_42 rfl (kDoor k_x1).1 k_x1 (kDoor k_x1).2.1 ?_
  refine u_iload_n (i := 3) (pc' := 67) dX7_countOpening_66 rfl rfl rfl ?_
  obtain ⟨c1, c2, h⟩ := h
  refine u_iaload (k := x3.toNat) (z := (τ (x1 + 1) x3.toNat)) (pc' := 68) dX7_countOpening_67 rfl (Nat.le_trans (kDoor k_x1).1 (Nat.le_add_right _ _)) (kDoor k_x1).2.2.2.2.1 c1 c2 (by decide) rfl rfl (fun r3 => ?_)
  refine u_iload (i := 4) (pc' := 70) dX7_countOpening_68 rfl rfl ?_
  refine u_isub (pc' := 71) dX7_countOpening_70 rfl ?_
  refine u_aload_n (i := 1) (pc' := 72) dX7_countOpening_71 rfl rfl rfl ?_
  refine u_getR (a := (x1 + 1)) (pc' := 75) dX7_countOpening_72 rfl fl_TuneDoor_TuneSet_42 rfl (kDoor k_x1).1 k_x1 (kDoor k_x1).2.1 ?_
  refine u_iload_n (i := 3) (pc' := 76) dX7_countOpening_75 rfl rfl rfl ?_
  obtain ⟨c4, c5, h⟩ := h
  refine u_iaload (k := x3.toNat) (z := (τ (x1 + 1) x3.toNat)) (pc' := 77) dX7_countOpening_76 rfl (Nat.le_trans (kDoor k_x1).1 (Nat.le_add_right _ _)) (kDoor k_x1).2.2.2.2.1 c4 c5 (by decide) rfl rfl (fun r6 => ?_)
  refine u_aload_n (i := 1) (pc' := 78) dX7_countOpening_77 rfl rfl rfl ?_
  refine u_iload_n (i := 3) (pc' := 79) dX7_countOpening_78 rfl rfl rfl ?_
  refine u_invV (q' := qX0_reach) (As := [vI x3]) (st := [vI (τ (x1 + 1) x3.toNat), vI ((τ (x1 + 1) x3.toNat) - y0), vI x3, vR 133, vI x2]) (pc' := 82) dX7_countOpening_79 rfl gX0_reach wm_1049 rfl rfl (kDoor k_x1).1 k_x1 wm_918 wm_919 rfl (Nat.le_of_ble_eq_true rfl) (M0.mono h (fun v τ7 h => ?_))
  obtain ⟨r8, rfl, h⟩ := h
  show V0 E (d + 1) qX7_countOpening 82 [some (vR 133), some (vR x1), some (vI x2), some (vI x3), some (vI y0)] [vI r8, vI (τ (x1 + 1) x3.toNat), vI ((τ (x1 + 1) x3.toNat) - y0), vI x3, vR 133, vI x2] τ7 Q
  refine u_iadd (pc' := 83) dX7_countOpening_82 rfl ?_
  refine u_invV (q' := qX7_stampRow) (As := [vI x3, vI ((τ (x1 + 1) x3.toNat) - y0), vI ((τ (x1 + 1) x3.toNat) + r8)]) (st := [vI x2]) (pc' := 86) dX7_countOpening_83 rfl gX7_stampRow wm_1050 rfl rfl (by decide) kd_133 wm_1052 wp_58 rfl (Nat.le_of_ble_eq_true rfl) (M0.mono h (fun v τ9 h => ?_))
  obtain ⟨r10, rfl, h⟩ := h
  show V0 E (d + 1) qX7_countOpening 86 [some (vR 133), some (vR x1), some (vI x2), some (vI x3), some (vI y0)] [vI r10, vI x2] τ9 Q
  refine u_iadd (pc' := 87) dX7_countOpening_86 rfl ?_
  refine s_istore_n (i := 2) (ls' := [some (vR 133), some (vR x1), some (vI (x2 + r10)), some (vI x3), some (vI y0)]) (pc' := 88) dX7_countOpening_87 rfl rfl (Nat.le_of_ble_eq_true rfl) rfl rfl ?_
  refine u_aload_n (i := 1) (pc' := 89) dX7_countOpening_88 rfl rfl rfl ?_
  refine u_getI (z := (τ9 x1 1)) (pc' := 92) dX7_countOpening_89 rfl fl_TuneDoor_TuneSet_26 rfl (by decide) (kDoor k_x1).1 k_x1 rfl (fun r11 => ?_)
  refine u_iconst (pc' := 93) dX7_countOpening_92 rfl ?_
  refine u_icmp_ne (tgt := 130) (pc' := 96) dX7_countOpening_93 rfl (by decide) r11 ⟨by decide, by decide⟩ (fun hb => ?_) (fun hb => ?_)
  · have h := h.1 hb
    refine s_iinc (i := 3) (ls' := [some (vR 133), some (vR x1), some (vI (x2 + r10)), some (vI (x3 + 1)), some (vI y0)]) (pc' := 133) dX7_countOpening_130 rfl rfl (Nat.le_of_ble_eq_true rfl) rfl rfl ?_
    refine u_goto (tgt := 28) dX7_countOpening_133 (by decide) ?_
    exact u_less (ls' := [some (vR 133), some (vR x1), some (vI (x2 + r10)), some (vI (x3 + 1)), none]) ⟨rfl, ⟨rfl, ⟨rfl, ⟨rfl, trivial⟩⟩⟩⟩ h
  · have h := h.2 hb
    refine u_aload_n (i := 1) (pc' := 97) dX7_countOpening_96 rfl rfl rfl ?_
    refine u_getR (a := (x1 + 2)) (pc' := 100) dX7_countOpening_97 rfl fl_TuneDoor_TuneSet_53 rfl (kDoor k_x1).1 k_x1 (kDoor k_x1).2.2.1 ?_
    refine u_iload_n (i := 3) (pc' := 101) dX7_countOpening_100 rfl rfl rfl ?_
    obtain ⟨c12, c13, h⟩ := h
    refine u_iaload (k := x3.toNat) (z := (τ9 (x1 + 2) x3.toNat)) (pc' := 102) dX7_countOpening_101 rfl (Nat.le_trans (kDoor k_x1).1 (Nat.le_add_right _ _)) (kDoor k_x1).2.2.2.2.2.1 c12 c13 (by decide) rfl rfl (fun r14 => ?_)
    refine u_iconst (pc' := 103) dX7_countOpening_102 rfl ?_
    refine u_icmp_eq (tgt := 130) (pc' := 106) dX7_countOpening_103 rfl (by decide) r14 ⟨by decide, by decide⟩ (fun hb => ?_) (fun hb => ?_)
    · have h := h.1 hb
      refine s_iinc (i := 3) (ls' := [some (vR 133), some (vR x1), some (vI (x2 + r10)), some (vI (x3 + 1)), some (vI y0)]) (pc' := 133) dX7_countOpening_130 rfl rfl (Nat.le_of_ble_eq_true rfl) rfl rfl ?_
      refine u_goto (tgt := 28) dX7_countOpening_133 (by decide) ?_
      exact u_less (ls' := [some (vR 133), some (vR x1), some (vI (x2 + r10)), some (vI (x3 + 1)), none]) ⟨rfl, ⟨rfl, ⟨rfl, ⟨rfl, trivial⟩⟩⟩⟩ h
    · have h := h.2 hb
      refine u_iload_n (i := 2) (pc' := 107) dX7_countOpening_106 rfl rfl rfl ?_
      refine u_aload_n (i := 0) (pc' := 108) dX7_countOpening_107 rfl rfl rfl ?_
      refine u_iload_n (i := 3) (pc' := 109) dX7_countOpening_108 rfl rfl rfl ?_
      refine u_aload_n (i := 1) (pc' := 110) dX7_countOpening_109 rfl rfl rfl ?_
      refine u_getR (a := (x1 + 2)) (pc' := 113) dX7_countOpening_110 rfl fl_TuneDoor_TuneSet_53 rfl (kDoor k_x1).1 k_x1 (kDoor k_x1).2.2.1 ?_
      refine u_iload_n (i := 3) (pc' := 114) dX7_countOpening_113 rfl rfl rfl ?_
      obtain ⟨c15, c16, h⟩ := h
      refine u_iaload (k := x3.toNat) (z := (τ9 (x1 + 2) x3.toNat)) (pc' := 115) dX7_countOpening_114 rfl (Nat.le_trans (kDoor k_x1).1 (Nat.le_add_right _ _)) (kDoor k_x1).2.2.2.2.2.1 c15 c16 (by decide) rfl rfl (fun r17 => ?_)
      refine u_iconst (pc' := 116) dX7_countOpening_115 rfl ?_
      refine u_iadd (pc' := 117) dX7_countOpening_116 rfl ?_
      refine u_aload_n (i := 1) (pc' := 118) dX7_countOpening_117 rfl rfl rfl ?_
      refine u_getR (a := (x1 + 2)) (pc' := 121) dX7_countOpening_118 rfl fl_TuneDoor_TuneSet_53 rfl (kDoor k_x1).1 k_x1 (kDoor k_x1).2.2.1 ?_
      refine u_iload_n (i := 3) (pc' := 122) dX7_countOpening_121 rfl rfl rfl ?_
      obtain ⟨c18, c19, h⟩ := h
      refine u_iaload (k := x3.toNat) (z := (τ9 (x1 + 2) x3.toNat)) (pc' := 123) dX7_countOpening_122 rfl (Nat.le_trans (kDoor k_x1).1 (Nat.le_add_right _ _)) (kDoor k_x1).2.2.2.2.2.1 c18 c19 (by decide) rfl rfl (fun r20 => ?_)
      refine u_iconst (pc' := 124) dX7_countOpening_123 rfl ?_
      refine u_iadd (pc' := 125) dX7_countOpening_124 rfl ?_
      refine u_invV (q' := qX7_stampRow) (As := [vI x3, vI ((τ9 (x1 + 2) x3.toNat) + 1), vI ((τ9 (x1 + 2) x3.toNat) + 1)]) (st := [vI (x2 + r10)]) (pc' := 128) dX7_countOpening_125 rfl gX7_stampRow wm_1050 rfl rfl (by decide) kd_133 wm_1052 wp_58 rfl (Nat.le_of_ble_eq_true rfl) (M0.mono h (fun v τ21 h => ?_))
      obtain ⟨r22, rfl, h⟩ := h
      show V0 E (d + 1) qX7_countOpening 128 [some (vR 133), some (vR x1), some (vI (x2 + r10)), some (vI x3), some (vI y0)] [vI r22, vI (x2 + r10)] τ21 Q
      refine u_iadd (pc' := 129) dX7_countOpening_128 rfl ?_
      refine s_istore_n (i := 2) (ls' := [some (vR 133), some (vR x1), some (vI ((x2 + r10) + r22)), some (vI x3), some (vI y0)]) (pc' := 130) dX7_countOpening_129 rfl rfl (Nat.le_of_ble_eq_true rfl) rfl rfl ?_
      refine s_iinc (i := 3) (ls' := [some (vR 133), some (vR x1), some (vI ((x2 + r10) + r22)), some (vI (x3 + 1)), some (vI y0)]) (pc' := 133) dX7_countOpening_130 rfl rfl (Nat.le_of_ble_eq_true rfl) rfl rfl ?_
      refine u_goto (tgt := 28) dX7_countOpening_133 (by decide) ?_
      exact u_less (ls' := [some (vR 133), some (vR x1), some (vI ((x2 + r10) + r22)), some (vI (x3 + 1)), none]) ⟨rfl, ⟨rfl, ⟨rfl, ⟨rfl, trivial⟩⟩⟩⟩ h
set_option maxRecDepth 20000 in
theorem bX7_countByLip_0 {E : mm_Env} {d : Nat} {τ : mm_Mem} {Q : mm_Q0} {a0 : Nat} (k_a0 : KD a0 = some (.inr 0)) (h : M0 E d qJ9_min_7cf53 [vI (τ 78 5), vI 7776] τ (fun v τ2 => ∃ r3 : Int, v = some (vI r3) ∧ M0 E d qJ7_fill_fda19 [vR 134, vI 0, vI r3, vI 6] τ2 (fun v τ4 => v = none ∧ V0 E (d + 1) qX7_countByLip 27 [some (vR 133), some (vR a0), some (vI r3), some (vI 0), none, none, none] [] τ4 Q))) : V0 E (d + 1) qX7_countByLip 0 [some (vR 133), some (vR a0), none, none, none, none, none] [] τ Q := by
  refine u_aload_n (i := 0) (pc' := 1) dX7_countByLip_0 rfl rfl rfl ?_
  refine u_getR (a := 78) (pc' := 4) dX7_countByLip_1 rfl fl_TuneDoor_TuneSet_22 rfl (by decide) kd_133 rfl ?_
  refine u_getI (z := (τ 78 5)) (pc' := 7) dX7_countByLip_4 rfl fl_TuneDoor_TuneSet_73 rfl (by decide) (by decide) kd_78 rfl (fun r1 => ?_)
  refine u_sipush (pc' := 10) dX7_countByLip_7 rfl (by decide) ?_
  refine u_invS (q' := qJ9_min_7cf53) (As := [vI (τ 78 5), vI 7776]) (st := []) (pc' := 13) dX7_countByLip_10 rfl gJ9_min_7cf53 wm_1028 wm_530 rfl (Nat.le_of_ble_eq_true rfl) (M0.mono h (fun v τ2 h => ?_))
  obtain ⟨r3, rfl, h⟩ := h
  show V0 E (d + 1) qX7_countByLip 13 [some (vR 133), some (vR a0), none, none, none, none, none] [vI r3] τ2 Q
  refine s_istore_n (i := 2) (ls' := [some (vR 133), some (vR a0), some (vI r3), none, none, none, none]) (pc' := 14) dX7_countByLip_13 rfl rfl (Nat.le_of_ble_eq_true rfl) rfl rfl ?_
  refine u_aload_n (i := 0) (pc' := 15) dX7_countByLip_14 rfl rfl rfl ?_
  refine u_getR (a := 134) (pc' := 18) dX7_countByLip_15 rfl fl_TuneDoor_TuneSet_9 rfl (by decide) kd_133 rfl ?_
  refine u_iconst (pc' := 19) dX7_countByLip_18 rfl ?_
  refine u_iload_n (i := 2) (pc' := 20) dX7_countByLip_19 rfl rfl rfl ?_
  refine u_bipush (pc' := 22) dX7_countByLip_20 rfl (by decide) ?_
  refine u_invS (q' := qJ7_fill_fda19) (As := [vR 134, vI 0, vI r3, vI 6]) (st := []) (pc' := 25) dX7_countByLip_22 rfl gJ7_fill_fda19 wm_1029 wm_1030 rfl (Nat.le_of_ble_eq_true rfl) (M0.mono h (fun v τ4 h => ?_))
  obtain ⟨rfl, h⟩ := h
  show V0 E (d + 1) qX7_countByLip 25 [some (vR 133), some (vR a0), some (vI r3), none, none, none, none] [] τ4 Q
  refine u_iconst (pc' := 26) dX7_countByLip_25 rfl ?_
  refine s_istore_n (i := 3) (ls' := [some (vR 133), some (vR a0), some (vI r3), some (vI 0), none, none, none]) (pc' := 27) dX7_countByLip_26 rfl rfl (Nat.le_of_ble_eq_true rfl) rfl rfl ?_
  exact u_less (ls' := [some (vR 133), some (vR a0), some (vI r3), some (vI 0), none, none, none]) ⟨rfl, ⟨rfl, ⟨rfl, ⟨rfl, trivial⟩⟩⟩⟩ h
theorem mX7_countByLip {E : mm_Env} {d : Nat} {τ : mm_Mem} {Q : mm_Q0} {a0 : Nat} (k_a0 : KD a0 = some (.inr 0)) (h : M0 E d qJ9_min_7cf53 [vI (τ 78 5), vI 7776] τ (fun v τ2 => ∃ r3 : Int, v = some (vI r3) ∧ M0 E d qJ7_fill_fda19 [vR 134, vI 0, vI r3, vI 6] τ2 (fun v τ4 => v = none ∧ V0 E (d + 1) qX7_countByLip 27 [some (vR 133), some (vR a0), some (vI r3), some (vI 0), none, none, none] [] τ4 Q))) : M0 E (d + 1) qX7_countByLip [vR 133, vR a0] τ Q := M0_of rfl (Nat.le_of_ble_eq_true rfl) [some (vR 133), some (vR a0), none, none, none, none, none] rfl (bX7_countByLip_0 k_a0 h)
set_option maxRecDepth 20000 in
theorem bX7_countByLip_27 {E : mm_Env} {d : Nat} {τ : mm_Mem} {Q : mm_Q0} {x1 : Nat} {x2 : Int} {x3 : Int} (k_x1 : KD x1 = some (.inr 0)) (h : inR x3 ∧ ((3 ≤ x3 → V0 E (d + 1) qX7_countByLip 120 [some (vR 133), some (vR x1), some (vI x2), some (vI 1), some (vI 0), none, none] [] τ Q) ∧ (¬ 3 ≤ x3 → 0 ≤ x3 ∧ x3 < 3 ∧ M0 E d qJ9_min_7cf53 [vI ((τ (x1 + 1) x3.toNat) + (τ x1 2)), vI 999] τ (fun v τ6 => ∃ r7 : Int, v = some (vI r7) ∧ 0 ≤ x3 ∧ x3 < 3 ∧ V0 E (d + 1) qX7_countByLip 59 [some (vR 133), some (vR x1), some (vI x2), some (vI x3), some (vI r7), some (vI (τ6 (x1 + 1) x3.toNat)), none] [] τ6 Q)))) : V0 E (d + 1) qX7_countByLip 27 [some (vR 133), some (vR x1), some (vI x2), some (vI x3), none, none, none] [] τ Q := by
  refine u_iload_n (i := 3) (pc' := 28) dX7_countByLip_27 rfl rfl rfl ?_
  refine u_iconst (pc' := 29) dX7_countByLip_28 rfl ?_
  obtain ⟨c1, h⟩ := h
  refine u_icmp_ge (tgt := 115) (pc' := 32) dX7_countByLip_29 rfl (by decide) c1 ⟨by decide, by decide⟩ (fun hb => ?_) (fun hb => ?_)
  · have h := h.1 hb
    refine u_iconst (pc' := 116) dX7_countByLip_115 rfl ?_
    refine s_istore_n (i := 3) (ls' := [some (vR 133), some (vR x1), some (vI x2), some (vI 1), none, none, none]) (pc' := 117) dX7_countByLip_116 rfl rfl (Nat.le_of_ble_eq_true rfl) rfl rfl ?_
    refine u_iconst (pc' := 118) dX7_countByLip_117 rfl ?_
    refine s_istore (i := 4) (ls' := [some (vR 133), some (vR x1), some (vI x2), some (vI 1), some (vI 0), none, none]) (pc' := 120) dX7_countByLip_118 rfl (Nat.le_of_ble_eq_true rfl) rfl rfl ?_
    exact u_less (ls' := [some (vR 133), some (vR x1), some (vI x2), some (vI 1), some (vI 0), none, none]) ⟨rfl, ⟨rfl, ⟨rfl, ⟨rfl, ⟨rfl, trivial⟩⟩⟩⟩⟩ h
  · have h := h.2 hb
    refine u_aload_n (i := 1) (pc' := 33) dX7_countByLip_32 rfl rfl rfl ?_
    refine u_getR (a := (x1 + 1)) (pc' := 36) dX7_countByLip_33 rfl fl_TuneDoor_TuneSet_42 rfl (kDoor k_x1).1 k_x1 (kDoor k_x1).2.1 ?_
    refine u_iload_n (i := 3) (pc' := 37) dX7_countByLip_36 rfl rfl rfl ?_
    obtain ⟨c2, c3, h⟩ := h
    refine u_iaload (k := x3.toNat) (z := (τ (x1 + 1) x3.toNat)) (pc' := 38) dX7_countByLip_37 rfl (Nat.le_trans (kDoor k_x1).1 (Nat.le_add_right _ _)) (kDoor k_x1).2.2.2.2.1 c2 c3 (by decide) rfl rfl (fun r4 => ?_)
    refine u_aload_n (i := 1) (pc' := 39) dX7_countByLip_38 rfl rfl rfl ?_
    refine u_getI (z := (τ x1 2)) (pc' := 42) dX7_countByLip_39 rfl fl_TuneDoor_TuneSet_82 rfl (by decide) (kDoor k_x1).1 k_x1 rfl (fun r5 => ?_)
    refine u_iadd (pc' := 43) dX7_countByLip_42 rfl ?_
    refine u_sipush (pc' := 46) dX7_countByLip_43 rfl (by decide) ?_
    refine u_invS (q' := qJ9_min_7cf53) (As := [vI ((τ (x1 + 1) x3.toNat) + (τ x1 2)), vI 999]) (st := []) (pc' := 49) dX7_countByLip_46 rfl gJ9_min_7cf53 wm_1028 wm_530 rfl (Nat.le_of_ble_eq_true rfl) (M0.mono h (fun v τ6 h => ?_))
    obtain ⟨r7, rfl, h⟩ := h
    show V0 E (d + 1) qX7_countByLip 49 [some (vR 133), some (vR x1), some (vI x2), some (vI x3), none, none, none] [vI r7] τ6 Q
    refine s_istore (i := 4) (ls' := [some (vR 133), some (vR x1), some (vI x2), some (vI x3), some (vI r7), none, none]) (pc' := 51) dX7_countByLip_49 rfl (Nat.le_of_ble_eq_true rfl) rfl rfl ?_
    refine u_aload_n (i := 1) (pc' := 52) dX7_countByLip_51 rfl rfl rfl ?_
    refine u_getR (a := (x1 + 1)) (pc' := 55) dX7_countByLip_52 rfl fl_TuneDoor_TuneSet_42 rfl (kDoor k_x1).1 k_x1 (kDoor k_x1).2.1 ?_
    refine u_iload_n (i := 3) (pc' := 56) dX7_countByLip_55 rfl rfl rfl ?_
    obtain ⟨c8, c9, h⟩ := h
    refine u_iaload (k := x3.toNat) (z := (τ6 (x1 + 1) x3.toNat)) (pc' := 57) dX7_countByLip_56 rfl (Nat.le_trans (kDoor k_x1).1 (Nat.le_add_right _ _)) (kDoor k_x1).2.2.2.2.1 c8 c9 (by decide) rfl rfl (fun r10 => ?_)
    refine s_istore (i := 5) (ls' := [some (vR 133), some (vR x1), some (vI x2), some (vI x3), some (vI r7), some (vI (τ6 (x1 + 1) x3.toNat)), none]) (pc' := 59) dX7_countByLip_57 rfl (Nat.le_of_ble_eq_true rfl) rfl rfl ?_
    exact u_less (ls' := [some (vR 133), some (vR x1), some (vI x2), some (vI x3), some (vI r7), some (vI (τ6 (x1 + 1) x3.toNat)), none]) ⟨rfl, ⟨rfl, ⟨rfl, ⟨rfl, ⟨rfl, ⟨rfl, trivial⟩⟩⟩⟩⟩⟩ h
set_option maxRecDepth 20000 in
theorem bX7_countByLip_59 {E : mm_Env} {d : Nat} {τ : mm_Mem} {Q : mm_Q0} {x1 : Nat} {x2 : Int} {x3 : Int} {x4 : Int} {x5 : Int} (k_x1 : KD x1 = some (.inr 0)) (h : inR x5 ∧ inR x4 ∧ ((x4 < x5 → V0 E (d + 1) qX7_countByLip 27 [some (vR 133), some (vR x1), some (vI x2), some (vI (x3 + 1)), none, none, none] [] τ Q) ∧ (¬ x4 < x5 → M0 E d qX0_hasEar [vR x1, vI x3] τ (fun v τ3 => ∃ b4 : Bool, v = some (vB b4) ∧ ((b4 = false → V0 E (d + 1) qX7_countByLip 27 [some (vR 133), some (vR x1), some (vI x2), some (vI (x3 + 1)), none, none, none] [] τ3 Q) ∧ (b4 = true → M0 E d qX9_numberAt [vR 78, vI x3, vI x5] τ3 (fun v τ5 => ∃ r6 : Int, v = some (vI r6) ∧ M0 E d qX7_isNumber [vR 133, vI r6] τ5 (fun v τ7 => ∃ b8 : Bool, v = some (vB b8) ∧ ((b8 = false → V0 E (d + 1) qX7_countByLip 59 [some (vR 133), some (vR x1), some (vI x2), some (vI x3), some (vI x4), some (vI (x5 + 1)), none] [] τ7 Q) ∧ (b8 = true → 0 ≤ r6 ∧ r6 < 7776 ∧ V0 E (d + 1) qX7_countByLip 59 [some (vR 133), some (vR x1), some (vI x2), some (vI x3), some (vI x4), some (vI (x5 + 1)), none] [] (wr τ7 134 r6.toNat 0) Q)))))))))) : V0 E (d + 1) qX7_countByLip 59 [some (vR 133), some (vR x1), some (vI x2), some (vI x3), some (vI x4), some (vI x5), none] [] τ Q := by
  refine u_iload (i := 5) (pc' := 61) dX7_countByLip_59 rfl rfl ?_
  refine u_iload (i := 4) (pc' := 63) dX7_countByLip_61 rfl rfl ?_
  obtain ⟨c1, c2, h⟩ := h
  refine u_icmp_gt (tgt := 109) (pc' := 66) dX7_countByLip_63 rfl (by decide) c1 c2 (fun hb => ?_) (fun hb => ?_)
  · have h := h.1 hb
    refine s_iinc (i := 3) (ls' := [some (vR 133), some (vR x1), some (vI x2), some (vI (x3 + 1)), some (vI x4), some (vI x5), none]) (pc' := 112) dX7_countByLip_109 rfl rfl (Nat.le_of_ble_eq_true rfl) rfl rfl ?_
    refine u_goto (tgt := 27) dX7_countByLip_112 (by decide) ?_
    exact u_less (ls' := [some (vR 133), some (vR x1), some (vI x2), some (vI (x3 + 1)), none, none, none]) ⟨rfl, ⟨rfl, ⟨rfl, ⟨rfl, trivial⟩⟩⟩⟩ h
  · have h := h.2 hb
    refine u_aload_n (i := 1) (pc' := 67) dX7_countByLip_66 rfl rfl rfl ?_
    refine u_iload_n (i := 3) (pc' := 68) dX7_countByLip_67 rfl rfl rfl ?_
    refine u_invV (q' := qX0_hasEar) (As := [vI x3]) (st := []) (pc' := 71) dX7_countByLip_68 rfl gX0_hasEar wm_1035 rfl rfl (kDoor k_x1).1 k_x1 wm_897 wm_898 rfl (Nat.le_of_ble_eq_true rfl) (M0.mono h (fun v τ3 h => ?_))
    obtain ⟨b4, rfl, h⟩ := h
    show V0 E (d + 1) qX7_countByLip 71 [some (vR 133), some (vR x1), some (vI x2), some (vI x3), some (vI x4), some (vI x5), none] [vB b4] τ3 Q
    refine u_if_eq (tgt := 109) (pc' := 74) dX7_countByLip_71 rfl (by decide) (bI_R _) (fun hb => ?_) (fun hb => ?_)
    · have h := h.1 (bI_0.mp hb)
      refine s_iinc (i := 3) (ls' := [some (vR 133), some (vR x1), some (vI x2), some (vI (x3 + 1)), some (vI x4), some (vI x5), none]) (pc' := 112) dX7_countByLip_109 rfl rfl (Nat.le_of_ble_eq_true rfl) rfl rfl ?_
      refine u_goto (tgt := 27) dX7_countByLip_112 (by decide) ?_
      exact u_less (ls' := [some (vR 133), some (vR x1), some (vI x2), some (vI (x3 + 1)), none, none, none]) ⟨rfl, ⟨rfl, ⟨rfl, ⟨rfl, trivial⟩⟩⟩⟩ h
    · have h := h.2 (bI_n0.mp hb)
      refine u_aload_n (i := 0) (pc' := 75) dX7_countByLip_74 rfl rfl rfl ?_
      refine u_getR (a := 78) (pc' := 78) dX7_countByLip_75 rfl fl_TuneDoor_TuneSet_22 rfl (by decide) kd_133 rfl ?_
      refine u_iload_n (i := 3) (pc' := 79) dX7_countByLip_78 rfl rfl rfl ?_
      refine u_iload (i := 5) (pc' := 81) dX7_countByLip_79 rfl rfl ?_
      refine u_invV (q' := qX9_numberAt) (As := [vI x3, vI x5]) (st := []) (pc' := 84) dX7_countByLip_81 rfl gX9_numberAt wm_1036 rfl rfl (by decide) kd_78 wm_861 wm_862 rfl (Nat.le_of_ble_eq_true rfl) (M0.mono h (fun v τ5 h => ?_))
      obtain ⟨r6, rfl, h⟩ := h
      show V0 E (d + 1) qX7_countByLip 84 [some (vR 133), some (vR x1), some (vI x2), some (vI x3), some (vI x4), some (vI x5), none] [vI r6] τ5 Q
      refine s_istore (i := 6) (ls' := [some (vR 133), some (vR x1), some (vI x2), some (vI x3), some (vI x4), some (vI x5), some (vI r6)]) (pc' := 86) dX7_countByLip_84 rfl (Nat.le_of_ble_eq_true rfl) rfl rfl ?_
      refine u_aload_n (i := 0) (pc' := 87) dX7_countByLip_86 rfl rfl rfl ?_
      refine u_iload (i := 6) (pc' := 89) dX7_countByLip_87 rfl rfl ?_
      refine u_invV (q' := qX7_isNumber) (As := [vI r6]) (st := []) (pc' := 92) dX7_countByLip_89 rfl gX7_isNumber wm_1037 rfl rfl (by decide) kd_133 wm_1039 wp_55 rfl (Nat.le_of_ble_eq_true rfl) (M0.mono h (fun v τ7 h => ?_))
      obtain ⟨b8, rfl, h⟩ := h
      show V0 E (d + 1) qX7_countByLip 92 [some (vR 133), some (vR x1), some (vI x2), some (vI x3), some (vI x4), some (vI x5), some (vI r6)] [vB b8] τ7 Q
      refine u_if_eq (tgt := 103) (pc' := 95) dX7_countByLip_92 rfl (by decide) (bI_R _) (fun hb => ?_) (fun hb => ?_)
      · have h := h.1 (bI_0.mp hb)
        refine s_iinc (i := 5) (ls' := [some (vR 133), some (vR x1), some (vI x2), some (vI x3), some (vI x4), some (vI (x5 + 1)), some (vI r6)]) (pc' := 106) dX7_countByLip_103 rfl rfl (Nat.le_of_ble_eq_true rfl) rfl rfl ?_
        refine u_goto (tgt := 59) dX7_countByLip_106 (by decide) ?_
        exact u_less (ls' := [some (vR 133), some (vR x1), some (vI x2), some (vI x3), some (vI x4), some (vI (x5 + 1)), none]) ⟨rfl, ⟨rfl, ⟨rfl, ⟨rfl, ⟨rfl, ⟨rfl, trivial⟩⟩⟩⟩⟩⟩ h
      · have h := h.2 (bI_n0.mp hb)
        refine u_aload_n (i := 0) (pc' := 96) dX7_countByLip_95 rfl rfl rfl ?_
        refine u_getR (a := 134) (pc' := 99) dX7_countByLip_96 rfl fl_TuneDoor_TuneSet_9 rfl (by decide) kd_133 rfl ?_
        refine u_iload (i := 6) (pc' := 101) dX7_countByLip_99 rfl rfl ?_
        refine u_iconst (pc' := 102) dX7_countByLip_101 rfl ?_
        obtain ⟨c9, c10, h⟩ := h
        refine u_iastore (k := r6.toNat) (pc' := 103) dX7_countByLip_102 rfl (by decide) kd_134 c9 c10 (by decide) rfl ⟨by decide, by decide⟩ ?_
        refine s_iinc (i := 5) (ls' := [some (vR 133), some (vR x1), some (vI x2), some (vI x3), some (vI x4), some (vI (x5 + 1)), some (vI r6)]) (pc' := 106) dX7_countByLip_103 rfl rfl (Nat.le_of_ble_eq_true rfl) rfl rfl ?_
        refine u_goto (tgt := 59) dX7_countByLip_106 (by decide) ?_
        exact u_less (ls' := [some (vR 133), some (vR x1), some (vI x2), some (vI x3), some (vI x4), some (vI (x5 + 1)), none]) ⟨rfl, ⟨rfl, ⟨rfl, ⟨rfl, ⟨rfl, ⟨rfl, trivial⟩⟩⟩⟩⟩⟩ h
set_option maxRecDepth 20000 in
theorem bX7_countByLip_120 {E : mm_Env} {d : Nat} {τ : mm_Mem} {Q : mm_Q0} {x1 : Nat} {x2 : Int} {x3 : Int} {x4 : Int} (k_x1 : KD x1 = some (.inr 0)) (h : inR x4 ∧ (((τ 78 4) ≤ x4 → V0 E (d + 1) qX7_countByLip 160 [some (vR 133), some (vR x1), some (vI x2), none, some (vI 0), some (vI 0), none] [] τ Q) ∧ (¬ (τ 78 4) ≤ x4 → M0 E d qX7_spread [vR 133, vI x3, vI x2] τ (fun v τ3 => v = none ∧ V0 E (d + 1) qX7_countByLip 120 [some (vR 133), some (vR x1), some (vI x2), some (vI (x3 * (τ3 78 3))), some (vI (x4 + 1)), none, none] [] τ3 Q)))) : V0 E (d + 1) qX7_countByLip 120 [some (vR 133), some (vR x1), some (vI x2), some (vI x3), some (vI x4), none, none] [] τ Q := by
  refine u_iload (i := 4) (pc' := 122) dX7_countByLip_120 rfl rfl ?_
  refine u_aload_n (i := 0) (pc' := 123) dX7_countByLip_122 rfl rfl rfl ?_
  refine u_getR (a := 78) (pc' := 126) dX7_countByLip_123 rfl fl_TuneDoor_TuneSet_22 rfl (by decide) kd_133 rfl ?_
  refine u_getI (z := (τ 78 4)) (pc' := 129) dX7_countByLip_126 rfl fl_TuneDoor_TuneSet_85 rfl (by decide) (by decide) kd_78 rfl (fun r1 => ?_)
  obtain ⟨c2, h⟩ := h
  refine u_icmp_ge (tgt := 154) (pc' := 132) dX7_countByLip_129 rfl (by decide) c2 r1 (fun hb => ?_) (fun hb => ?_)
  · have h := h.1 hb
    refine u_iconst (pc' := 155) dX7_countByLip_154 rfl ?_
    refine s_istore (i := 4) (ls' := [some (vR 133), some (vR x1), some (vI x2), some (vI x3), some (vI 0), none, none]) (pc' := 157) dX7_countByLip_155 rfl (Nat.le_of_ble_eq_true rfl) rfl rfl ?_
    refine u_iconst (pc' := 158) dX7_countByLip_157 rfl ?_
    refine s_istore (i := 5) (ls' := [some (vR 133), some (vR x1), some (vI x2), some (vI x3), some (vI 0), some (vI 0), none]) (pc' := 160) dX7_countByLip_158 rfl (Nat.le_of_ble_eq_true rfl) rfl rfl ?_
    exact u_less (ls' := [some (vR 133), some (vR x1), some (vI x2), none, some (vI 0), some (vI 0), none]) ⟨rfl, ⟨rfl, ⟨rfl, ⟨rfl, ⟨rfl, trivial⟩⟩⟩⟩⟩ h
  · have h := h.2 hb
    refine u_aload_n (i := 0) (pc' := 133) dX7_countByLip_132 rfl rfl rfl ?_
    refine u_iload_n (i := 3) (pc' := 134) dX7_countByLip_133 rfl rfl rfl ?_
    refine u_iload_n (i := 2) (pc' := 135) dX7_countByLip_134 rfl rfl rfl ?_
    refine u_invV (q' := qX7_spread) (As := [vI x3, vI x2]) (st := []) (pc' := 138) dX7_countByLip_135 rfl gX7_spread wm_1041 rfl rfl (by decide) kd_133 wm_1043 wp_56 rfl (Nat.le_of_ble_eq_true rfl) (M0.mono h (fun v τ3 h => ?_))
    obtain ⟨rfl, h⟩ := h
    show V0 E (d + 1) qX7_countByLip 138 [some (vR 133), some (vR x1), some (vI x2), some (vI x3), some (vI x4), none, none] [] τ3 Q
    refine u_iload_n (i := 3) (pc' := 139) dX7_countByLip_138 rfl rfl rfl ?_
    refine u_aload_n (i := 0) (pc' := 140) dX7_countByLip_139 rfl rfl rfl ?_
    refine u_getR (a := 78) (pc' := 143) dX7_countByLip_140 rfl fl_TuneDoor_TuneSet_22 rfl (by decide) kd_133 rfl ?_
    refine u_getI (z := (τ3 78 3)) (pc' := 146) dX7_countByLip_143 rfl fl_TuneDoor_TuneSet_92 rfl (by decide) (by decide) kd_78 rfl (fun r4 => ?_)
    refine u_imul (pc' := 147) dX7_countByLip_146 rfl ?_
    refine s_istore_n (i := 3) (ls' := [some (vR 133), some (vR x1), some (vI x2), some (vI (x3 * (τ3 78 3))), some (vI x4), none, none]) (pc' := 148) dX7_countByLip_147 rfl rfl (Nat.le_of_ble_eq_true rfl) rfl rfl ?_
    refine s_iinc (i := 4) (ls' := [some (vR 133), some (vR x1), some (vI x2), some (vI (x3 * (τ3 78 3))), some (vI (x4 + 1)), none, none]) (pc' := 151) dX7_countByLip_148 rfl rfl (Nat.le_of_ble_eq_true rfl) rfl rfl ?_
    refine u_goto (tgt := 120) dX7_countByLip_151 (by decide) ?_
    exact u_less (ls' := [some (vR 133), some (vR x1), some (vI x2), some (vI (x3 * (τ3 78 3))), some (vI (x4 + 1)), none, none]) ⟨rfl, ⟨rfl, ⟨rfl, ⟨rfl, ⟨rfl, trivial⟩⟩⟩⟩⟩ h
set_option maxRecDepth 20000 in
theorem bX7_countByLip_160 {E : mm_Env} {d : Nat} {τ : mm_Mem} {Q : mm_Q0} {x1 : Nat} {x2 : Int} {x4 : Int} {x5 : Int} (k_x1 : KD x1 = some (.inr 0)) (h : inR x5 ∧ inR x2 ∧ ((x2 ≤ x5 → Q (some (vI x4)) τ) ∧ (¬ x2 ≤ x5 → 0 ≤ x5 ∧ x5 < 7776 ∧ (((τ x1 3) < (τ 134 x5.toNat) → V0 E (d + 1) qX7_countByLip 160 [some (vR 133), some (vR x1), some (vI x2), none, some (vI x4), some (vI (x5 + 1)), none] [] τ Q) ∧ (¬ (τ x1 3) < (τ 134 x5.toNat) → V0 E (d + 1) qX7_countByLip 160 [some (vR 133), some (vR x1), some (vI x2), none, some (vI (x4 + 1)), some (vI (x5 + 1)), none] [] τ Q))))) : V0 E (d + 1) qX7_countByLip 160 [some (vR 133), some (vR x1), some (vI x2), none, some (vI x4), some (vI x5), none] [] τ Q := by
  refine u_iload (i := 5) (pc' := 162) dX7_countByLip_160 rfl rfl ?_
  refine u_iload_n (i := 2) (pc' := 163) dX7_countByLip_162 rfl rfl rfl ?_
  obtain ⟨c1, c2, h⟩ := h
  refine u_icmp_ge (tgt := 189) (pc' := 166) dX7_countByLip_163 rfl (by decide) c1 c2 (fun hb => ?_) (fun hb => ?_)
  · have h := h.1 hb
    refine u_iload (i := 4) (pc' := 191) dX7_countByLip_189 rfl rfl ?_
    exact u_iret dX7_countByLip_191 rfl h
  · have h := h.2 hb
    refine u_aload_n (i := 0) (pc' := 167) dX7_countByLip_166 rfl rfl rfl ?_
    refine u_getR (a := 134) (pc' := 170) dX7_countByLip_167 rfl fl_TuneDoor_TuneSet_9 rfl (by decide) kd_133 rfl ?_
    refine u_iload (i := 5) (pc' := 172) dX7_countByLip_170 rfl rfl ?_
    obtain ⟨c3, c4, h⟩ := h
    refine u_iaload (k := x5.toNat) (z := (τ 134 x5.toNat)) (pc' := 173) dX7_countByLip_172 rfl (by decide) kd_134 c3 c4 (by decide) rfl rfl (fun r5 => ?_)
    refine u_aload_n (i := 1) (pc' := 174) dX7_countByLip_173 rfl rfl rfl ?_
    refine u_getI (z := (τ x1 3)) (pc' := 177) dX7_countByLip_174 rfl fl_TuneDoor_TuneSet_39 rfl (by decide) (kDoor k_x1).1 k_x1 rfl (fun r6 => ?_)
    refine u_icmp_gt (tgt := 183) (pc' := 180) dX7_countByLip_177 rfl (by decide) r5 r6 (fun hb => ?_) (fun hb => ?_)
    · have h := h.1 hb
      refine s_iinc (i := 5) (ls' := [some (vR 133), some (vR x1), some (vI x2), none, some (vI x4), some (vI (x5 + 1)), none]) (pc' := 186) dX7_countByLip_183 rfl rfl (Nat.le_of_ble_eq_true rfl) rfl rfl ?_
      refine u_goto (tgt := 160) dX7_countByLip_186 (by decide) ?_
      exact u_less (ls' := [some (vR 133), some (vR x1), some (vI x2), none, some (vI x4), some (vI (x5 + 1)), none]) ⟨rfl, ⟨rfl, ⟨rfl, ⟨rfl, ⟨rfl, trivial⟩⟩⟩⟩⟩ h
    · have h := h.2 hb
      refine s_iinc (i := 4) (ls' := [some (vR 133), some (vR x1), some (vI x2), none, some (vI (x4 + 1)), some (vI x5), none]) (pc' := 183) dX7_countByLip_180 rfl rfl (Nat.le_of_ble_eq_true rfl) rfl rfl ?_
      refine s_iinc (i := 5) (ls' := [some (vR 133), some (vR x1), some (vI x2), none, some (vI (x4 + 1)), some (vI (x5 + 1)), none]) (pc' := 186) dX7_countByLip_183 rfl rfl (Nat.le_of_ble_eq_true rfl) rfl rfl ?_
      refine u_goto (tgt := 160) dX7_countByLip_186 (by decide) ?_
      exact u_less (ls' := [some (vR 133), some (vR x1), some (vI x2), none, some (vI (x4 + 1)), some (vI (x5 + 1)), none]) ⟨rfl, ⟨rfl, ⟨rfl, ⟨rfl, ⟨rfl, trivial⟩⟩⟩⟩⟩ h
set_option maxRecDepth 20000 in
theorem bX7_isNumber_0 {E : mm_Env} {d : Nat} {τ : mm_Mem} {Q : mm_Q0} {a0 : Int} (h : inR a0 ∧ ((a0 < 0 → Q (some (vB false)) τ) ∧ (¬ a0 < 0 → ((7776 ≤ a0 → Q (some (vB false)) τ) ∧ (¬ 7776 ≤ a0 → Q (some (vB true)) τ))))) : V0 E d qX7_isNumber 0 [some (vR 133), some (vI a0)] [] τ Q := by
  refine u_iload_n (i := 1) (pc' := 1) dX7_isNumber_0 rfl rfl rfl ?_
  obtain ⟨c1, h⟩ := h
  refine u_if_lt (tgt := 15) (pc' := 4) dX7_isNumber_1 rfl (by decide) c1 (fun hb => ?_) (fun hb => ?_)
  · have h := h.1 hb
    refine u_iconst (pc' := 16) dX7_isNumber_15 rfl ?_
    exact u_zret (b := false) dX7_isNumber_16 rfl rfl h
  · have h := h.2 hb
    refine u_iload_n (i := 1) (pc' := 5) dX7_isNumber_4 rfl rfl rfl ?_
    refine u_sipush (pc' := 8) dX7_isNumber_5 rfl (by decide) ?_
    refine u_icmp_ge (tgt := 15) (pc' := 11) dX7_isNumber_8 rfl (by decide) c1 ⟨by decide, by decide⟩ (fun hb => ?_) (fun hb => ?_)
    · have h := h.1 hb
      refine u_iconst (pc' := 16) dX7_isNumber_15 rfl ?_
      exact u_zret (b := false) dX7_isNumber_16 rfl rfl h
    · have h := h.2 hb
      refine u_iconst (pc' := 12) dX7_isNumber_11 rfl ?_
      refine u_goto (tgt := 16) dX7_isNumber_12 (by decide) ?_
      exact u_zret (b := true) dX7_isNumber_16 rfl rfl h
theorem mX7_isNumber {E : mm_Env} {d : Nat} {τ : mm_Mem} {Q : mm_Q0} {a0 : Int} (h : inR a0 ∧ ((a0 < 0 → Q (some (vB false)) τ) ∧ (¬ a0 < 0 → ((7776 ≤ a0 → Q (some (vB false)) τ) ∧ (¬ 7776 ≤ a0 → Q (some (vB true)) τ))))) : M0 E d qX7_isNumber [vR 133, vI a0] τ Q := M0_of rfl (Nat.le_of_ble_eq_true rfl) [some (vR 133), some (vI a0)] rfl (bX7_isNumber_0  h)
set_option maxRecDepth 20000 in
theorem bX7_spread_0 {E : mm_Env} {d : Nat} {τ : mm_Mem} {Q : mm_Q0} {a0 : Int} {a1 : Int} (h : V0 E (d + 1) qX7_spread 13 [some (vR 133), some (vI a0), some (vI a1), some (vI (a0 * (τ 78 3))), some (vI 0), none] [] τ Q) : V0 E (d + 1) qX7_spread 0 [some (vR 133), some (vI a0), some (vI a1), none, none, none] [] τ Q := by
  refine u_iload_n (i := 1) (pc' := 1) dX7_spread_0 rfl rfl rfl ?_
  refine u_aload_n (i := 0) (pc' := 2) dX7_spread_1 rfl rfl rfl ?_
  refine u_getR (a := 78) (pc' := 5) dX7_spread_2 rfl fl_TuneDoor_TuneSet_22 rfl (by decide) kd_133 rfl ?_
  refine u_getI (z := (τ 78 3)) (pc' := 8) dX7_spread_5 rfl fl_TuneDoor_TuneSet_92 rfl (by decide) (by decide) kd_78 rfl (fun r1 => ?_)
  refine u_imul (pc' := 9) dX7_spread_8 rfl ?_
  refine s_istore_n (i := 3) (ls' := [some (vR 133), some (vI a0), some (vI a1), some (vI (a0 * (τ 78 3))), none, none]) (pc' := 10) dX7_spread_9 rfl rfl (Nat.le_of_ble_eq_true rfl) rfl rfl ?_
  refine u_iconst (pc' := 11) dX7_spread_10 rfl ?_
  refine s_istore (i := 4) (ls' := [some (vR 133), some (vI a0), some (vI a1), some (vI (a0 * (τ 78 3))), some (vI 0), none]) (pc' := 13) dX7_spread_11 rfl (Nat.le_of_ble_eq_true rfl) rfl rfl ?_
  exact u_less (ls' := [some (vR 133), some (vI a0), some (vI a1), some (vI (a0 * (τ 78 3))), some (vI 0), none]) ⟨rfl, ⟨rfl, ⟨rfl, ⟨rfl, ⟨rfl, trivial⟩⟩⟩⟩⟩ h
theorem mX7_spread {E : mm_Env} {d : Nat} {τ : mm_Mem} {Q : mm_Q0} {a0 : Int} {a1 : Int} (h : V0 E (d + 1) qX7_spread 13 [some (vR 133), some (vI a0), some (vI a1), some (vI (a0 * (τ 78 3))), some (vI 0), none] [] τ Q) : M0 E (d + 1) qX7_spread [vR 133, vI a0, vI a1] τ Q := M0_of rfl (Nat.le_of_ble_eq_true rfl) [some (vR 133), some (vI a0), some (vI a1), none, none, none] rfl (bX7_spread_0  h)
set_option maxRecDepth 20000 in
theorem bX7_spread_13 {E : mm_Env} {d : Nat} {τ : mm_Mem} {Q : mm_Q0} {x1 : Int} {x2 : Int} {x3 : Int} {x4 : Int} (h : inR x4 ∧ inR x2 ∧ ((x2 ≤ x4 → Q none τ) ∧ (¬ x2 ≤ x4 → inR x3 ∧ ((x3 ≤ 0 → Q none τ) ∧ (¬ x3 ≤ 0 → V0 E (d + 1) qX7_spread 27 [some (vR 133), some (vI x1), some (vI x2), some (vI x3), some (vI x4), some (vI x4)] [] τ Q))))) : V0 E (d + 1) qX7_spread 13 [some (vR 133), some (vI x1), some (vI x2), some (vI x3), some (vI x4), none] [] τ Q := by
  refine u_iload (i := 4) (pc' := 15) dX7_spread_13 rfl rfl ?_
  refine u_iload_n (i := 2) (pc' := 16) dX7_spread_15 rfl rfl rfl ?_
  obtain ⟨c1, c2, h⟩ := h
  refine u_icmp_ge (tgt := 58) (pc' := 19) dX7_spread_16 rfl (by decide) c1 c2 (fun hb => ?_) (fun hb => ?_)
  · have h := h.1 hb
    exact u_ret dX7_spread_58 rfl h
  · have h := h.2 hb
    refine u_iload_n (i := 3) (pc' := 20) dX7_spread_19 rfl rfl rfl ?_
    obtain ⟨c3, h⟩ := h
    refine u_if_le (tgt := 58) (pc' := 23) dX7_spread_20 rfl (by decide) c3 (fun hb => ?_) (fun hb => ?_)
    · have h := h.1 hb
      exact u_ret dX7_spread_58 rfl h
    · have h := h.2 hb
      refine u_iload (i := 4) (pc' := 25) dX7_spread_23 rfl rfl ?_
      refine s_istore (i := 5) (ls' := [some (vR 133), some (vI x1), some (vI x2), some (vI x3), some (vI x4), some (vI x4)]) (pc' := 27) dX7_spread_25 rfl (Nat.le_of_ble_eq_true rfl) rfl rfl ?_
      exact u_less (ls' := [some (vR 133), some (vI x1), some (vI x2), some (vI x3), some (vI x4), some (vI x4)]) ⟨rfl, ⟨rfl, ⟨rfl, ⟨rfl, ⟨rfl, ⟨rfl, trivial⟩⟩⟩⟩⟩⟩ h
set_option maxRecDepth 20000 in
theorem bX7_spread_27 {E : mm_Env} {d : Nat} {τ : mm_Mem} {Q : mm_Q0} {x1 : Int} {x2 : Int} {x3 : Int} {x4 : Int} {x5 : Int} (h : inR x5 ∧ inR (x4 + x1) ∧ (((x4 + x1) ≤ x5 → V0 E (d + 1) qX7_spread 13 [some (vR 133), some (vI x1), some (vI x2), some (vI x3), some (vI (x4 + x3)), none] [] τ Q) ∧ (¬ (x4 + x1) ≤ x5 → M0 E d qX7_spreadLine [vR 133, vI x5, vI x1] τ (fun v τ3 => v = none ∧ V0 E (d + 1) qX7_spread 27 [some (vR 133), some (vI x1), some (vI x2), some (vI x3), some (vI x4), some (vI (x5 + 1))] [] τ3 Q)))) : V0 E (d + 1) qX7_spread 27 [some (vR 133), some (vI x1), some (vI x2), some (vI x3), some (vI x4), some (vI x5)] [] τ Q := by
  refine u_iload (i := 5) (pc' := 29) dX7_spread_27 rfl rfl ?_
  refine u_iload (i := 4) (pc' := 31) dX7_spread_29 rfl rfl ?_
  refine u_iload_n (i := 1) (pc' := 32) dX7_spread_31 rfl rfl rfl ?_
  refine u_iadd (pc' := 33) dX7_spread_32 rfl ?_
  obtain ⟨c1, c2, h⟩ := h
  refine u_icmp_ge (tgt := 49) (pc' := 36) dX7_spread_33 rfl (by decide) c1 c2 (fun hb => ?_) (fun hb => ?_)
  · have h := h.1 hb
    refine u_iload (i := 4) (pc' := 51) dX7_spread_49 rfl rfl ?_
    refine u_iload_n (i := 3) (pc' := 52) dX7_spread_51 rfl rfl rfl ?_
    refine u_iadd (pc' := 53) dX7_spread_52 rfl ?_
    refine s_istore (i := 4) (ls' := [some (vR 133), some (vI x1), some (vI x2), some (vI x3), some (vI (x4 + x3)), some (vI x5)]) (pc' := 55) dX7_spread_53 rfl (Nat.le_of_ble_eq_true rfl) rfl rfl ?_
    refine u_goto (tgt := 13) dX7_spread_55 (by decide) ?_
    exact u_less (ls' := [some (vR 133), some (vI x1), some (vI x2), some (vI x3), some (vI (x4 + x3)), none]) ⟨rfl, ⟨rfl, ⟨rfl, ⟨rfl, ⟨rfl, trivial⟩⟩⟩⟩⟩ h
  · have h := h.2 hb
    refine u_aload_n (i := 0) (pc' := 37) dX7_spread_36 rfl rfl rfl ?_
    refine u_iload (i := 5) (pc' := 39) dX7_spread_37 rfl rfl ?_
    refine u_iload_n (i := 1) (pc' := 40) dX7_spread_39 rfl rfl rfl ?_
    refine u_invV (q' := qX7_spreadLine) (As := [vI x5, vI x1]) (st := []) (pc' := 43) dX7_spread_40 rfl gX7_spreadLine wm_1045 rfl rfl (by decide) kd_133 wm_1047 wp_57 rfl (Nat.le_of_ble_eq_true rfl) (M0.mono h (fun v τ3 h => ?_))
    obtain ⟨rfl, h⟩ := h
    show V0 E (d + 1) qX7_spread 43 [some (vR 133), some (vI x1), some (vI x2), some (vI x3), some (vI x4), some (vI x5)] [] τ3 Q
    refine s_iinc (i := 5) (ls' := [some (vR 133), some (vI x1), some (vI x2), some (vI x3), some (vI x4), some (vI (x5 + 1))]) (pc' := 46) dX7_spread_43 rfl rfl (Nat.le_of_ble_eq_true rfl) rfl rfl ?_
    refine u_goto (tgt := 27) dX7_spread_46 (by decide) ?_
    exact u_less (ls' := [some (vR 133), some (vI x1), some (vI x2), some (vI x3), some (vI x4), some (vI (x5 + 1))]) ⟨rfl, ⟨rfl, ⟨rfl, ⟨rfl, ⟨rfl, ⟨rfl, trivial⟩⟩⟩⟩⟩⟩ h
set_option maxRecDepth 20000 in
theorem bX7_spreadLine_0 {E : mm_Env} {d : Nat} {τ : mm_Mem} {Q : mm_Q0} {a0 : Int} {a1 : Int} (h : V0 E (d + 1) qX7_spreadLine 9 [some (vR 133), some (vI a0), some (vI a1), some (vI 6), some (vI 0), some (vI a0)] [] τ Q) : V0 E (d + 1) qX7_spreadLine 0 [some (vR 133), some (vI a0), some (vI a1), none, none, none] [] τ Q := by
  refine u_bipush (pc' := 2) dX7_spreadLine_0 rfl (by decide) ?_
  refine s_istore_n (i := 3) (ls' := [some (vR 133), some (vI a0), some (vI a1), some (vI 6), none, none]) (pc' := 3) dX7_spreadLine_2 rfl rfl (Nat.le_of_ble_eq_true rfl) rfl rfl ?_
  refine u_iconst (pc' := 4) dX7_spreadLine_3 rfl ?_
  refine s_istore (i := 4) (ls' := [some (vR 133), some (vI a0), some (vI a1), some (vI 6), some (vI 0), none]) (pc' := 6) dX7_spreadLine_4 rfl (Nat.le_of_ble_eq_true rfl) rfl rfl ?_
  refine u_iload_n (i := 1) (pc' := 7) dX7_spreadLine_6 rfl rfl rfl ?_
  refine s_istore (i := 5) (ls' := [some (vR 133), some (vI a0), some (vI a1), some (vI 6), some (vI 0), some (vI a0)]) (pc' := 9) dX7_spreadLine_7 rfl (Nat.le_of_ble_eq_true rfl) rfl rfl ?_
  exact u_less (ls' := [some (vR 133), some (vI a0), some (vI a1), some (vI 6), some (vI 0), some (vI a0)]) ⟨rfl, ⟨rfl, ⟨rfl, ⟨rfl, ⟨rfl, ⟨rfl, trivial⟩⟩⟩⟩⟩⟩ h
theorem mX7_spreadLine {E : mm_Env} {d : Nat} {τ : mm_Mem} {Q : mm_Q0} {a0 : Int} {a1 : Int} (h : V0 E (d + 1) qX7_spreadLine 9 [some (vR 133), some (vI a0), some (vI a1), some (vI 6), some (vI 0), some (vI a0)] [] τ Q) : M0 E (d + 1) qX7_spreadLine [vR 133, vI a0, vI a1] τ Q := M0_of rfl (Nat.le_of_ble_eq_true rfl) [some (vR 133), some (vI a0), some (vI a1), none, none, none] rfl (bX7_spreadLine_0  h)
set_option maxRecDepth 20000 in
theorem bX7_spreadLine_9 {E : mm_Env} {d : Nat} {τ : mm_Mem} {Q : mm_Q0} {x1 : Int} {x2 : Int} {x3 : Int} {x4 : Int} {x5 : Int} (h : inR x4 ∧ (((τ 78 3) ≤ x4 → V0 E (d + 1) qX7_spreadLine 59 [some (vR 133), none, some (vI x2), some (vI x3), some (vI 0), some (vI x1)] [] τ Q) ∧ (¬ (τ 78 3) ≤ x4 → inR x5 ∧ ((7776 ≤ x5 → V0 E (d + 1) qX7_spreadLine 59 [some (vR 133), none, some (vI x2), some (vI x3), some (vI 0), some (vI x1)] [] τ Q) ∧ (¬ 7776 ≤ x5 → 0 ≤ x5 ∧ x5 < 7776 ∧ M0 E d qJ9_min_7cf53 [vI x3, vI (τ 134 x5.toNat)] τ (fun v τ7 => ∃ r8 : Int, v = some (vI r8) ∧ V0 E (d + 1) qX7_spreadLine 9 [some (vR 133), some (vI x1), some (vI x2), some (vI r8), some (vI (x4 + 1)), some (vI (x5 + x2))] [] τ7 Q)))))) : V0 E (d + 1) qX7_spreadLine 9 [some (vR 133), some (vI x1), some (vI x2), some (vI x3), some (vI x4), some (vI x5)] [] τ Q := by
  refine u_iload (i := 4) (pc' := 11) dX7_spreadLine_9 rfl rfl ?_
  refine u_aload_n (i := 0) (pc' := 12) dX7_spreadLine_11 rfl rfl rfl ?_
  refine u_getR (a := 78) (pc' := 15) dX7_spreadLine_12 rfl fl_TuneDoor_TuneSet_22 rfl (by decide) kd_133 rfl ?_
  refine u_getI (z := (τ 78 3)) (pc' := 18) dX7_spreadLine_15 rfl fl_TuneDoor_TuneSet_92 rfl (by decide) (by decide) kd_78 rfl (fun r1 => ?_)
  obtain ⟨c2, h⟩ := h
  refine u_icmp_ge (tgt := 53) (pc' := 21) dX7_spreadLine_18 rfl (by decide) c2 r1 (fun hb => ?_) (fun hb => ?_)
  · have h := h.1 hb
    refine u_iconst (pc' := 54) dX7_spreadLine_53 rfl ?_
    refine s_istore (i := 4) (ls' := [some (vR 133), some (vI x1), some (vI x2), some (vI x3), some (vI 0), some (vI x5)]) (pc' := 56) dX7_spreadLine_54 rfl (Nat.le_of_ble_eq_true rfl) rfl rfl ?_
    refine u_iload_n (i := 1) (pc' := 57) dX7_spreadLine_56 rfl rfl rfl ?_
    refine s_istore (i := 5) (ls' := [some (vR 133), some (vI x1), some (vI x2), some (vI x3), some (vI 0), some (vI x1)]) (pc' := 59) dX7_spreadLine_57 rfl (Nat.le_of_ble_eq_true rfl) rfl rfl ?_
    exact u_less (ls' := [some (vR 133), none, some (vI x2), some (vI x3), some (vI 0), some (vI x1)]) ⟨rfl, ⟨rfl, ⟨rfl, ⟨rfl, ⟨rfl, trivial⟩⟩⟩⟩⟩ h
  · have h := h.2 hb
    refine u_iload (i := 5) (pc' := 23) dX7_spreadLine_21 rfl rfl ?_
    refine u_sipush (pc' := 26) dX7_spreadLine_23 rfl (by decide) ?_
    obtain ⟨c3, h⟩ := h
    refine u_icmp_ge (tgt := 53) (pc' := 29) dX7_spreadLine_26 rfl (by decide) c3 ⟨by decide, by decide⟩ (fun hb => ?_) (fun hb => ?_)
    · have h := h.1 hb
      refine u_iconst (pc' := 54) dX7_spreadLine_53 rfl ?_
      refine s_istore (i := 4) (ls' := [some (vR 133), some (vI x1), some (vI x2), some (vI x3), some (vI 0), some (vI x5)]) (pc' := 56) dX7_spreadLine_54 rfl (Nat.le_of_ble_eq_true rfl) rfl rfl ?_
      refine u_iload_n (i := 1) (pc' := 57) dX7_spreadLine_56 rfl rfl rfl ?_
      refine s_istore (i := 5) (ls' := [some (vR 133), some (vI x1), some (vI x2), some (vI x3), some (vI 0), some (vI x1)]) (pc' := 59) dX7_spreadLine_57 rfl (Nat.le_of_ble_eq_true rfl) rfl rfl ?_
      exact u_less (ls' := [some (vR 133), none, some (vI x2), some (vI x3), some (vI 0), some (vI x1)]) ⟨rfl, ⟨rfl, ⟨rfl, ⟨rfl, ⟨rfl, trivial⟩⟩⟩⟩⟩ h
    · have h := h.2 hb
      refine u_iload_n (i := 3) (pc' := 30) dX7_spreadLine_29 rfl rfl rfl ?_
      refine u_aload_n (i := 0) (pc' := 31) dX7_spreadLine_30 rfl rfl rfl ?_
      refine u_getR (a := 134) (pc' := 34) dX7_spreadLine_31 rfl fl_TuneDoor_TuneSet_9 rfl (by decide) kd_133 rfl ?_
      refine u_iload (i := 5) (pc' := 36) dX7_spreadLine_34 rfl rfl ?_
      obtain ⟨c4, c5, h⟩ := h
      refine u_iaload (k := x5.toNat) (z := (τ 134 x5.toNat)) (pc' := 37) dX7_spreadLine_36 rfl (by decide) kd_134 c4 c5 (by decide) rfl rfl (fun r6 => ?_)
      refine u_invS (q' := qJ9_min_7cf53) (As := [vI x3, vI (τ 134 x5.toNat)]) (st := []) (pc' := 40) dX7_spreadLine_37 rfl gJ9_min_7cf53 wm_1028 wm_530 rfl (Nat.le_of_ble_eq_true rfl) (M0.mono h (fun v τ7 h => ?_))
      obtain ⟨r8, rfl, h⟩ := h
      show V0 E (d + 1) qX7_spreadLine 40 [some (vR 133), some (vI x1), some (vI x2), some (vI x3), some (vI x4), some (vI x5)] [vI r8] τ7 Q
      refine s_istore_n (i := 3) (ls' := [some (vR 133), some (vI x1), some (vI x2), some (vI r8), some (vI x4), some (vI x5)]) (pc' := 41) dX7_spreadLine_40 rfl rfl (Nat.le_of_ble_eq_true rfl) rfl rfl ?_
      refine s_iinc (i := 4) (ls' := [some (vR 133), some (vI x1), some (vI x2), some (vI r8), some (vI (x4 + 1)), some (vI x5)]) (pc' := 44) dX7_spreadLine_41 rfl rfl (Nat.le_of_ble_eq_true rfl) rfl rfl ?_
      refine u_iload (i := 5) (pc' := 46) dX7_spreadLine_44 rfl rfl ?_
      refine u_iload_n (i := 2) (pc' := 47) dX7_spreadLine_46 rfl rfl rfl ?_
      refine u_iadd (pc' := 48) dX7_spreadLine_47 rfl ?_
      refine s_istore (i := 5) (ls' := [some (vR 133), some (vI x1), some (vI x2), some (vI r8), some (vI (x4 + 1)), some (vI (x5 + x2))]) (pc' := 50) dX7_spreadLine_48 rfl (Nat.le_of_ble_eq_true rfl) rfl rfl ?_
      refine u_goto (tgt := 9) dX7_spreadLine_50 (by decide) ?_
      exact u_less (ls' := [some (vR 133), some (vI x1), some (vI x2), some (vI r8), some (vI (x4 + 1)), some (vI (x5 + x2))]) ⟨rfl, ⟨rfl, ⟨rfl, ⟨rfl, ⟨rfl, ⟨rfl, trivial⟩⟩⟩⟩⟩⟩ h
set_option maxRecDepth 20000 in
theorem bX7_spreadLine_59 {E : mm_Env} {d : Nat} {τ : mm_Mem} {Q : mm_Q0} {x2 : Int} {x3 : Int} {x4 : Int} {x5 : Int} (h : inR x4 ∧ (((τ 78 3) ≤ x4 → Q none τ) ∧ (¬ (τ 78 3) ≤ x4 → inR x5 ∧ ((7776 ≤ x5 → Q none τ) ∧ (¬ 7776 ≤ x5 → 0 ≤ x5 ∧ x5 < 7776 ∧ M0 E d qJ9_min_7cf53 [vI (τ 134 x5.toNat), vI (x3 + 1)] τ (fun v τ7 => ∃ r8 : Int, v = some (vI r8) ∧ 0 ≤ x5 ∧ x5 < 7776 ∧ inR r8 ∧ V0 E (d + 1) qX7_spreadLine 59 [some (vR 133), none, some (vI x2), some (vI x3), some (vI (x4 + 1)), some (vI (x5 + x2))] [] (wr τ7 134 x5.toNat r8) Q)))))) : V0 E (d + 1) qX7_spreadLine 59 [some (vR 133), none, some (vI x2), some (vI x3), some (vI x4), some (vI x5)] [] τ Q := by
  refine u_iload (i := 4) (pc' := 61) dX7_spreadLine_59 rfl rfl ?_
  refine u_aload_n (i := 0) (pc' := 62) dX7_spreadLine_61 rfl rfl rfl ?_
  refine u_getR (a := 78) (pc' := 65) dX7_spreadLine_62 rfl fl_TuneDoor_TuneSet_22 rfl (by decide) kd_133 rfl ?_
  refine u_getI (z := (τ 78 3)) (pc' := 68) dX7_spreadLine_65 rfl fl_TuneDoor_TuneSet_92 rfl (by decide) (by decide) kd_78 rfl (fun r1 => ?_)
  obtain ⟨c2, h⟩ := h
  refine u_icmp_ge (tgt := 111) (pc' := 71) dX7_spreadLine_68 rfl (by decide) c2 r1 (fun hb => ?_) (fun hb => ?_)
  · have h := h.1 hb
    exact u_ret dX7_spreadLine_111 rfl h
  · have h := h.2 hb
    refine u_iload (i := 5) (pc' := 73) dX7_spreadLine_71 rfl rfl ?_
    refine u_sipush (pc' := 76) dX7_spreadLine_73 rfl (by decide) ?_
    obtain ⟨c3, h⟩ := h
    refine u_icmp_ge (tgt := 111) (pc' := 79) dX7_spreadLine_76 rfl (by decide) c3 ⟨by decide, by decide⟩ (fun hb => ?_) (fun hb => ?_)
    · have h := h.1 hb
      exact u_ret dX7_spreadLine_111 rfl h
    · have h := h.2 hb
      refine u_aload_n (i := 0) (pc' := 80) dX7_spreadLine_79 rfl rfl rfl ?_
      refine u_getR (a := 134) (pc' := 83) dX7_spreadLine_80 rfl fl_TuneDoor_TuneSet_9 rfl (by decide) kd_133 rfl ?_
      refine u_iload (i := 5) (pc' := 85) dX7_spreadLine_83 rfl rfl ?_
      refine u_aload_n (i := 0) (pc' := 86) dX7_spreadLine_85 rfl rfl rfl ?_
      refine u_getR (a := 134) (pc' := 89) dX7_spreadLine_86 rfl fl_TuneDoor_TuneSet_9 rfl (by decide) kd_133 rfl ?_
      refine u_iload (i := 5) (pc' := 91) dX7_spreadLine_89 rfl rfl ?_
      obtain ⟨c4, c5, h⟩ := h
      refine u_iaload (k := x5.toNat) (z := (τ 134 x5.toNat)) (pc' := 92) dX7_spreadLine_91 rfl (by decide) kd_134 c4 c5 (by decide) rfl rfl (fun r6 => ?_)
      refine u_iload_n (i := 3) (pc' := 93) dX7_spreadLine_92 rfl rfl rfl ?_
      refine u_iconst (pc' := 94) dX7_spreadLine_93 rfl ?_
      refine u_iadd (pc' := 95) dX7_spreadLine_94 rfl ?_
      refine u_invS (q' := qJ9_min_7cf53) (As := [vI (τ 134 x5.toNat), vI (x3 + 1)]) (st := [vI x5, vR 134]) (pc' := 98) dX7_spreadLine_95 rfl gJ9_min_7cf53 wm_1028 wm_530 rfl (Nat.le_of_ble_eq_true rfl) (M0.mono h (fun v τ7 h => ?_))
      obtain ⟨r8, rfl, h⟩ := h
      show V0 E (d + 1) qX7_spreadLine 98 [some (vR 133), none, some (vI x2), some (vI x3), some (vI x4), some (vI x5)] [vI r8, vI x5, vR 134] τ7 Q
      obtain ⟨c9, c10, c11, h⟩ := h
      refine u_iastore (k := x5.toNat) (pc' := 99) dX7_spreadLine_98 rfl (by decide) kd_134 c9 c10 (by decide) rfl c11 ?_
      refine s_iinc (i := 4) (ls' := [some (vR 133), none, some (vI x2), some (vI x3), some (vI (x4 + 1)), some (vI x5)]) (pc' := 102) dX7_spreadLine_99 rfl rfl (Nat.le_of_ble_eq_true rfl) rfl rfl ?_
      refine u_iload (i := 5) (pc' := 104) dX7_spreadLine_102 rfl rfl ?_
      refine u_iload_n (i := 2) (pc' := 105) dX7_spreadLine_104 rfl rfl rfl ?_
      refine u_iadd (pc' := 106) dX7_spreadLine_105 rfl ?_
      refine s_istore (i := 5) (ls' := [some (vR 133), none, some (vI x2), some (vI x3), some (vI (x4 + 1)), some (vI (x5 + x2))]) (pc' := 108) dX7_spreadLine_106 rfl (Nat.le_of_ble_eq_true rfl) rfl rfl ?_
      refine u_goto (tgt := 59) dX7_spreadLine_108 (by decide) ?_
      exact u_less (ls' := [some (vR 133), none, some (vI x2), some (vI x3), some (vI (x4 + 1)), some (vI (x5 + x2))]) ⟨rfl, ⟨rfl, ⟨rfl, ⟨rfl, ⟨rfl, trivial⟩⟩⟩⟩⟩ h
set_option maxRecDepth 20000 in
theorem bX7_stampRow_0 {E : mm_Env} {d : Nat} {τ : mm_Mem} {Q : mm_Q0} {a0 : Int} {a1 : Int} {a2 : Int} (h : M0 E d qJ9_min_7cf53 [vI a2, vI 999] τ (fun v τ1 => ∃ r2 : Int, v = some (vI r2) ∧ M0 E d qJ9_max_7cf53 [vI a1, vI 0] τ1 (fun v τ3 => ∃ r4 : Int, v = some (vI r4) ∧ V0 E (d + 1) qX7_stampRow 19 [some (vR 133), some (vI a0), none, none, some (vI 0), some (vI r2), some (vI r4), none] [] τ3 Q))) : V0 E (d + 1) qX7_stampRow 0 [some (vR 133), some (vI a0), some (vI a1), some (vI a2), none, none, none, none] [] τ Q := by
  refine u_iconst (pc' := 1) dX7_stampRow_0 rfl ?_
  refine s_istore (i := 4) (ls' := [some (vR 133), some (vI a0), some (vI a1), some (vI a2), some (vI 0), none, none, none]) (pc' := 3) dX7_stampRow_1 rfl (Nat.le_of_ble_eq_true rfl) rfl rfl ?_
  refine u_iload_n (i := 3) (pc' := 4) dX7_stampRow_3 rfl rfl rfl ?_
  refine u_sipush (pc' := 7) dX7_stampRow_4 rfl (by decide) ?_
  refine u_invS (q' := qJ9_min_7cf53) (As := [vI a2, vI 999]) (st := []) (pc' := 10) dX7_stampRow_7 rfl gJ9_min_7cf53 wm_1028 wm_530 rfl (Nat.le_of_ble_eq_true rfl) (M0.mono h (fun v τ1 h => ?_))
  obtain ⟨r2, rfl, h⟩ := h
  show V0 E (d + 1) qX7_stampRow 10 [some (vR 133), some (vI a0), some (vI a1), some (vI a2), some (vI 0), none, none, none] [vI r2] τ1 Q
  refine s_istore (i := 5) (ls' := [some (vR 133), some (vI a0), some (vI a1), some (vI a2), some (vI 0), some (vI r2), none, none]) (pc' := 12) dX7_stampRow_10 rfl (Nat.le_of_ble_eq_true rfl) rfl rfl ?_
  refine u_iload_n (i := 2) (pc' := 13) dX7_stampRow_12 rfl rfl rfl ?_
  refine u_iconst (pc' := 14) dX7_stampRow_13 rfl ?_
  refine u_invS (q' := qJ9_max_7cf53) (As := [vI a1, vI 0]) (st := []) (pc' := 17) dX7_stampRow_14 rfl gJ9_max_7cf53 wm_1054 wm_814 rfl (Nat.le_of_ble_eq_true rfl) (M0.mono h (fun v τ3 h => ?_))
  obtain ⟨r4, rfl, h⟩ := h
  show V0 E (d + 1) qX7_stampRow 17 [some (vR 133), some (vI a0), some (vI a1), some (vI a2), some (vI 0), some (vI r2), none, none] [vI r4] τ3 Q
  refine s_istore (i := 6) (ls' := [some (vR 133), some (vI a0), some (vI a1), some (vI a2), some (vI 0), some (vI r2), some (vI r4), none]) (pc' := 19) dX7_stampRow_17 rfl (Nat.le_of_ble_eq_true rfl) rfl rfl ?_
  exact u_less (ls' := [some (vR 133), some (vI a0), none, none, some (vI 0), some (vI r2), some (vI r4), none]) ⟨rfl, ⟨rfl, ⟨rfl, ⟨rfl, ⟨rfl, trivial⟩⟩⟩⟩⟩ h
theorem mX7_stampRow {E : mm_Env} {d : Nat} {τ : mm_Mem} {Q : mm_Q0} {a0 : Int} {a1 : Int} {a2 : Int} (h : M0 E d qJ9_min_7cf53 [vI a2, vI 999] τ (fun v τ1 => ∃ r2 : Int, v = some (vI r2) ∧ M0 E d qJ9_max_7cf53 [vI a1, vI 0] τ1 (fun v τ3 => ∃ r4 : Int, v = some (vI r4) ∧ V0 E (d + 1) qX7_stampRow 19 [some (vR 133), some (vI a0), none, none, some (vI 0), some (vI r2), some (vI r4), none] [] τ3 Q))) : M0 E (d + 1) qX7_stampRow [vR 133, vI a0, vI a1, vI a2] τ Q := M0_of rfl (Nat.le_of_ble_eq_true rfl) [some (vR 133), some (vI a0), some (vI a1), some (vI a2), none, none, none, none] rfl (bX7_stampRow_0  h)
set_option maxRecDepth 20000 in
theorem bX7_stampRow_19 {E : mm_Env} {d : Nat} {τ : mm_Mem} {Q : mm_Q0} {x1 : Int} {x4 : Int} {x5 : Int} {x6 : Int} (h : inR x6 ∧ inR x5 ∧ ((x5 < x6 → Q (some (vI x4)) τ) ∧ (¬ x5 < x6 → M0 E d qX9_numberAt [vR 78, vI x1, vI x6] τ (fun v τ3 => ∃ r4 : Int, v = some (vI r4) ∧ M0 E d qX7_isNumber [vR 133, vI r4] τ3 (fun v τ5 => ∃ b6 : Bool, v = some (vB b6) ∧ ((b6 = false → V0 E (d + 1) qX7_stampRow 19 [some (vR 133), some (vI x1), none, none, some (vI x4), some (vI x5), some (vI (x6 + 1)), none] [] τ5 Q) ∧ (b6 = true → 0 ≤ r4 ∧ r4 < 7776 ∧ (((τ5 134 r4.toNat) = (τ5 133 2) → V0 E (d + 1) qX7_stampRow 19 [some (vR 133), some (vI x1), none, none, some (vI x4), some (vI x5), some (vI (x6 + 1)), none] [] τ5 Q) ∧ (¬ (τ5 134 r4.toNat) = (τ5 133 2) → 0 ≤ r4 ∧ r4 < 7776 ∧ V0 E (d + 1) qX7_stampRow 19 [some (vR 133), some (vI x1), none, none, some (vI (x4 + 1)), some (vI x5), some (vI (x6 + 1)), none] [] (wr τ5 134 r4.toNat (τ5 133 2)) Q))))))))) : V0 E (d + 1) qX7_stampRow 19 [some (vR 133), some (vI x1), none, none, some (vI x4), some (vI x5), some (vI x6), none] [] τ Q := by
  refine u_iload (i := 6) (pc' := 21) dX7_stampRow_19 rfl rfl ?_
  refine u_iload (i := 5) (pc' := 23) dX7_stampRow_21 rfl rfl ?_
  obtain ⟨c1, c2, h⟩ := h
  refine u_icmp_gt (tgt := 81) (pc' := 26) dX7_stampRow_23 rfl (by decide) c1 c2 (fun hb => ?_) (fun hb => ?_)
  · have h := h.1 hb
    refine u_iload (i := 4) (pc' := 83) dX7_stampRow_81 rfl rfl ?_
    exact u_iret dX7_stampRow_83 rfl h
  · have h := h.2 hb
    refine u_aload_n (i := 0) (pc' := 27) dX7_stampRow_26 rfl rfl rfl ?_
    refine u_getR (a := 78) (pc' := 30) dX7_stampRow_27 rfl fl_TuneDoor_TuneSet_22 rfl (by decide) kd_133 rfl ?_
    refine u_iload_n (i := 1) (pc' := 31) dX7_stampRow_30 rfl rfl rfl ?_
    refine u_iload (i := 6) (pc' := 33) dX7_stampRow_31 rfl rfl ?_
    refine u_invV (q' := qX9_numberAt) (As := [vI x1, vI x6]) (st := []) (pc' := 36) dX7_stampRow_33 rfl gX9_numberAt wm_1036 rfl rfl (by decide) kd_78 wm_861 wm_862 rfl (Nat.le_of_ble_eq_true rfl) (M0.mono h (fun v τ3 h => ?_))
    obtain ⟨r4, rfl, h⟩ := h
    show V0 E (d + 1) qX7_stampRow 36 [some (vR 133), some (vI x1), none, none, some (vI x4), some (vI x5), some (vI x6), none] [vI r4] τ3 Q
    refine s_istore (i := 7) (ls' := [some (vR 133), some (vI x1), none, none, some (vI x4), some (vI x5), some (vI x6), some (vI r4)]) (pc' := 38) dX7_stampRow_36 rfl (Nat.le_of_ble_eq_true rfl) rfl rfl ?_
    refine u_aload_n (i := 0) (pc' := 39) dX7_stampRow_38 rfl rfl rfl ?_
    refine u_iload (i := 7) (pc' := 41) dX7_stampRow_39 rfl rfl ?_
    refine u_invV (q' := qX7_isNumber) (As := [vI r4]) (st := []) (pc' := 44) dX7_stampRow_41 rfl gX7_isNumber wm_1037 rfl rfl (by decide) kd_133 wm_1039 wp_55 rfl (Nat.le_of_ble_eq_true rfl) (M0.mono h (fun v τ5 h => ?_))
    obtain ⟨b6, rfl, h⟩ := h
    show V0 E (d + 1) qX7_stampRow 44 [some (vR 133), some (vI x1), none, none, some (vI x4), some (vI x5), some (vI x6), some (vI r4)] [vB b6] τ5 Q
    refine u_if_eq (tgt := 75) (pc' := 47) dX7_stampRow_44 rfl (by decide) (bI_R _) (fun hb => ?_) (fun hb => ?_)
    · have h := h.1 (bI_0.mp hb)
      refine s_iinc (i := 6) (ls' := [some (vR 133), some (vI x1), none, none, some (vI x4), some (vI x5), some (vI (x6 + 1)), some (vI r4)]) (pc' := 78) dX7_stampRow_75 rfl rfl (Nat.le_of_ble_eq_true rfl) rfl rfl ?_
      refine u_goto (tgt := 19) dX7_stampRow_78 (by decide) ?_
      exact u_less (ls' := [some (vR 133), some (vI x1), none, none, some (vI x4), some (vI x5), some (vI (x6 + 1)), none]) ⟨rfl, ⟨rfl, ⟨rfl, ⟨rfl, ⟨rfl, trivial⟩⟩⟩⟩⟩ h
    · have h := h.2 (bI_n0.mp hb)
      refine u_aload_n (i := 0) (pc' := 48) dX7_stampRow_47 rfl rfl rfl ?_
      refine u_getR (a := 134) (pc' := 51) dX7_stampRow_48 rfl fl_TuneDoor_TuneSet_9 rfl (by decide) kd_133 rfl ?_
      refine u_iload (i := 7) (pc' := 53) dX7_stampRow_51 rfl rfl ?_
      obtain ⟨c7, c8, h⟩ := h
      refine u_iaload (k := r4.toNat) (z := (τ5 134 r4.toNat)) (pc' := 54) dX7_stampRow_53 rfl (by decide) kd_134 c7 c8 (by decide) rfl rfl (fun r9 => ?_)
      refine u_aload_n (i := 0) (pc' := 55) dX7_stampRow_54 rfl rfl rfl ?_
      refine u_getI (z := (τ5 133 2)) (pc' := 58) dX7_stampRow_55 rfl fl_TuneDoor_TuneSet_15 rfl (by decide) (by decide) kd_133 rfl (fun r10 => ?_)
      refine u_icmp_eq (tgt := 75) (pc' := 61) dX7_stampRow_58 rfl (by decide) r9 r10 (fun hb => ?_) (fun hb => ?_)
      · have h := h.1 hb
        refine s_iinc (i := 6) (ls' := [some (vR 133), some (vI x1), none, none, some (vI x4), some (vI x5), some (vI (x6 + 1)), some (vI r4)]) (pc' := 78) dX7_stampRow_75 rfl rfl (Nat.le_of_ble_eq_true rfl) rfl rfl ?_
        refine u_goto (tgt := 19) dX7_stampRow_78 (by decide) ?_
        exact u_less (ls' := [some (vR 133), some (vI x1), none, none, some (vI x4), some (vI x5), some (vI (x6 + 1)), none]) ⟨rfl, ⟨rfl, ⟨rfl, ⟨rfl, ⟨rfl, trivial⟩⟩⟩⟩⟩ h
      · have h := h.2 hb
        refine u_aload_n (i := 0) (pc' := 62) dX7_stampRow_61 rfl rfl rfl ?_
        refine u_getR (a := 134) (pc' := 65) dX7_stampRow_62 rfl fl_TuneDoor_TuneSet_9 rfl (by decide) kd_133 rfl ?_
        refine u_iload (i := 7) (pc' := 67) dX7_stampRow_65 rfl rfl ?_
        refine u_aload_n (i := 0) (pc' := 68) dX7_stampRow_67 rfl rfl rfl ?_
        refine u_getI (z := (τ5 133 2)) (pc' := 71) dX7_stampRow_68 rfl fl_TuneDoor_TuneSet_15 rfl (by decide) (by decide) kd_133 rfl (fun r11 => ?_)
        obtain ⟨c12, c13, h⟩ := h
        refine u_iastore (k := r4.toNat) (pc' := 72) dX7_stampRow_71 rfl (by decide) kd_134 c12 c13 (by decide) rfl r11 ?_
        refine s_iinc (i := 4) (ls' := [some (vR 133), some (vI x1), none, none, some (vI (x4 + 1)), some (vI x5), some (vI x6), some (vI r4)]) (pc' := 75) dX7_stampRow_72 rfl rfl (Nat.le_of_ble_eq_true rfl) rfl rfl ?_
        refine s_iinc (i := 6) (ls' := [some (vR 133), some (vI x1), none, none, some (vI (x4 + 1)), some (vI x5), some (vI (x6 + 1)), some (vI r4)]) (pc' := 78) dX7_stampRow_75 rfl rfl (Nat.le_of_ble_eq_true rfl) rfl rfl ?_
        refine u_goto (tgt := 19) dX7_stampRow_78 (by decide) ?_
        exact u_less (ls' := [some (vR 133), some (vI x1), none, none, some (vI (x4 + 1)), some (vI x5), some (vI (x6 + 1)), none]) ⟨rfl, ⟨rfl, ⟨rfl, ⟨rfl, ⟨rfl, trivial⟩⟩⟩⟩⟩ h
set_option maxRecDepth 20000 in
theorem bX7_leastApart_0 {E : mm_Env} {d : Nat} {τ : mm_Mem} {Q : mm_Q0} {a0 : Nat} (k_a0 : KD a0 = some (.inr 0)) (h : V0 E (d + 1) qX7_leastApart 4 [some (vR 133), some (vR a0), some (vI 0), some (vI 0), none, none, none] [] τ Q) : V0 E (d + 1) qX7_leastApart 0 [some (vR 133), some (vR a0), none, none, none, none, none] [] τ Q := by
  refine u_iconst (pc' := 1) dX7_leastApart_0 rfl ?_
  refine s_istore_n (i := 2) (ls' := [some (vR 133), some (vR a0), some (vI 0), none, none, none, none]) (pc' := 2) dX7_leastApart_1 rfl rfl (Nat.le_of_ble_eq_true rfl) rfl rfl ?_
  refine u_iconst (pc' := 3) dX7_leastApart_2 rfl ?_
  refine s_istore_n (i := 3) (ls' := [some (vR 133), some (vR a0), some (vI 0), some (vI 0), none, none, none]) (pc' := 4) dX7_leastApart_3 rfl rfl (Nat.le_of_ble_eq_true rfl) rfl rfl ?_
  exact u_less (ls' := [some (vR 133), some (vR a0), some (vI 0), some (vI 0), none, none, none]) ⟨rfl, ⟨rfl, ⟨rfl, ⟨rfl, trivial⟩⟩⟩⟩ h
theorem mX7_leastApart {E : mm_Env} {d : Nat} {τ : mm_Mem} {Q : mm_Q0} {a0 : Nat} (k_a0 : KD a0 = some (.inr 0)) (h : V0 E (d + 1) qX7_leastApart 4 [some (vR 133), some (vR a0), some (vI 0), some (vI 0), none, none, none] [] τ Q) : M0 E (d + 1) qX7_leastApart [vR 133, vR a0] τ Q := M0_of rfl (Nat.le_of_ble_eq_true rfl) [some (vR 133), some (vR a0), none, none, none, none, none] rfl (bX7_leastApart_0 k_a0 h)
set_option maxRecDepth 20000 in
theorem bX7_leastApart_4 {E : mm_Env} {d : Nat} {τ : mm_Mem} {Q : mm_Q0} {x1 : Nat} {x2 : Int} {x3 : Int} (k_x1 : KD x1 = some (.inr 0)) (h : inR x3 ∧ ((3 ≤ x3 → V0 E (d + 1) qX7_leastApart 97 [some (vR 133), none, some (vI x2), some (vI 6), some (vI 1), none, none] [] τ Q) ∧ (¬ 3 ≤ x3 → 0 ≤ x3 ∧ x3 < 3 ∧ M0 E d qJ9_min_7cf53 [vI ((τ (x1 + 1) x3.toNat) + (τ x1 2)), vI 999] τ (fun v τ6 => ∃ r7 : Int, v = some (vI r7) ∧ 0 ≤ x3 ∧ x3 < 3 ∧ V0 E (d + 1) qX7_leastApart 36 [some (vR 133), some (vR x1), some (vI x2), some (vI x3), some (vI r7), some (vI (τ6 (x1 + 1) x3.toNat)), none] [] τ6 Q)))) : V0 E (d + 1) qX7_leastApart 4 [some (vR 133), some (vR x1), some (vI x2), some (vI x3), none, none, none] [] τ Q := by
  refine u_iload_n (i := 3) (pc' := 5) dX7_leastApart_4 rfl rfl rfl ?_
  refine u_iconst (pc' := 6) dX7_leastApart_5 rfl ?_
  obtain ⟨c1, h⟩ := h
  refine u_icmp_ge (tgt := 91) (pc' := 9) dX7_leastApart_6 rfl (by decide) c1 ⟨by decide, by decide⟩ (fun hb => ?_) (fun hb => ?_)
  · have h := h.1 hb
    refine u_bipush (pc' := 93) dX7_leastApart_91 rfl (by decide) ?_
    refine s_istore_n (i := 3) (ls' := [some (vR 133), some (vR x1), some (vI x2), some (vI 6), none, none, none]) (pc' := 94) dX7_leastApart_93 rfl rfl (Nat.le_of_ble_eq_true rfl) rfl rfl ?_
    refine u_iconst (pc' := 95) dX7_leastApart_94 rfl ?_
    refine s_istore (i := 4) (ls' := [some (vR 133), some (vR x1), some (vI x2), some (vI 6), some (vI 1), none, none]) (pc' := 97) dX7_leastApart_95 rfl (Nat.le_of_ble_eq_true rfl) rfl rfl ?_
    exact u_less (ls' := [some (vR 133), none, some (vI x2), some (vI 6), some (vI 1), none, none]) ⟨rfl, ⟨rfl, ⟨rfl, ⟨rfl, trivial⟩⟩⟩⟩ h
  · have h := h.2 hb
    refine u_aload_n (i := 1) (pc' := 10) dX7_leastApart_9 rfl rfl rfl ?_
    refine u_getR (a := (x1 + 1)) (pc' := 13) dX7_leastApart_10 rfl fl_TuneDoor_TuneSet_42 rfl (kDoor k_x1).1 k_x1 (kDoor k_x1).2.1 ?_
    refine u_iload_n (i := 3) (pc' := 14) dX7_leastApart_13 rfl rfl rfl ?_
    obtain ⟨c2, c3, h⟩ := h
    refine u_iaload (k := x3.toNat) (z := (τ (x1 + 1) x3.toNat)) (pc' := 15) dX7_leastApart_14 rfl (Nat.le_trans (kDoor k_x1).1 (Nat.le_add_right _ _)) (kDoor k_x1).2.2.2.2.1 c2 c3 (by decide) rfl rfl (fun r4 => ?_)
    refine u_aload_n (i := 1) (pc' := 16) dX7_leastApart_15 rfl rfl rfl ?_
    refine u_getI (z := (τ x1 2)) (pc' := 19) dX7_leastApart_16 rfl fl_TuneDoor_TuneSet_82 rfl (by decide) (kDoor k_x1).1 k_x1 rfl (fun r5 => ?_)
    refine u_iadd (pc' := 20) dX7_leastApart_19 rfl ?_
    refine u_sipush (pc' := 23) dX7_leastApart_20 rfl (by decide) ?_
    refine u_invS (q' := qJ9_min_7cf53) (As := [vI ((τ (x1 + 1) x3.toNat) + (τ x1 2)), vI 999]) (st := []) (pc' := 26) dX7_leastApart_23 rfl gJ9_min_7cf53 wm_1028 wm_530 rfl (Nat.le_of_ble_eq_true rfl) (M0.mono h (fun v τ6 h => ?_))
    obtain ⟨r7, rfl, h⟩ := h
    show V0 E (d + 1) qX7_leastApart 26 [some (vR 133), some (vR x1), some (vI x2), some (vI x3), none, none, none] [vI r7] τ6 Q
    refine s_istore (i := 4) (ls' := [some (vR 133), some (vR x1), some (vI x2), some (vI x3), some (vI r7), none, none]) (pc' := 28) dX7_leastApart_26 rfl (Nat.le_of_ble_eq_true rfl) rfl rfl ?_
    refine u_aload_n (i := 1) (pc' := 29) dX7_leastApart_28 rfl rfl rfl ?_
    refine u_getR (a := (x1 + 1)) (pc' := 32) dX7_leastApart_29 rfl fl_TuneDoor_TuneSet_42 rfl (kDoor k_x1).1 k_x1 (kDoor k_x1).2.1 ?_
    refine u_iload_n (i := 3) (pc' := 33) dX7_leastApart_32 rfl rfl rfl ?_
    obtain ⟨c8, c9, h⟩ := h
    refine u_iaload (k := x3.toNat) (z := (τ6 (x1 + 1) x3.toNat)) (pc' := 34) dX7_leastApart_33 rfl (Nat.le_trans (kDoor k_x1).1 (Nat.le_add_right _ _)) (kDoor k_x1).2.2.2.2.1 c8 c9 (by decide) rfl rfl (fun r10 => ?_)
    refine s_istore (i := 5) (ls' := [some (vR 133), some (vR x1), some (vI x2), some (vI x3), some (vI r7), some (vI (τ6 (x1 + 1) x3.toNat)), none]) (pc' := 36) dX7_leastApart_34 rfl (Nat.le_of_ble_eq_true rfl) rfl rfl ?_
    exact u_less (ls' := [some (vR 133), some (vR x1), some (vI x2), some (vI x3), some (vI r7), some (vI (τ6 (x1 + 1) x3.toNat)), none]) ⟨rfl, ⟨rfl, ⟨rfl, ⟨rfl, ⟨rfl, ⟨rfl, trivial⟩⟩⟩⟩⟩⟩ h
set_option maxRecDepth 20000 in
theorem bX7_leastApart_36 {E : mm_Env} {d : Nat} {τ : mm_Mem} {Q : mm_Q0} {x1 : Nat} {x2 : Int} {x3 : Int} {x4 : Int} {x5 : Int} (k_x1 : KD x1 = some (.inr 0)) (h : inR x5 ∧ inR x4 ∧ ((x4 < x5 → V0 E (d + 1) qX7_leastApart 4 [some (vR 133), some (vR x1), some (vI x2), some (vI (x3 + 1)), none, none, none] [] τ Q) ∧ (¬ x4 < x5 → M0 E d qX0_hasEar [vR x1, vI x3] τ (fun v τ3 => ∃ b4 : Bool, v = some (vB b4) ∧ ((b4 = false → V0 E (d + 1) qX7_leastApart 4 [some (vR 133), some (vR x1), some (vI x2), some (vI (x3 + 1)), none, none, none] [] τ3 Q) ∧ (b4 = true → inR x2 ∧ ((123 ≤ x2 → V0 E (d + 1) qX7_leastApart 4 [some (vR 133), some (vR x1), some (vI x2), some (vI (x3 + 1)), none, none, none] [] τ3 Q) ∧ (¬ 123 ≤ x2 → M0 E d qX9_tuneAt [vR 78, vI x3, vI x5] τ3 (fun v τ6 => ∃ r7 : Int, v = some (vI r7) ∧ 0 ≤ x2 ∧ x2 < 123 ∧ inR r7 ∧ V0 E (d + 1) qX7_leastApart 36 [some (vR 133), some (vR x1), some (vI (x2 + 1)), some (vI x3), some (vI x4), some (vI (x5 + 1)), none] [] (wr τ6 135 x2.toNat r7) Q))))))))) : V0 E (d + 1) qX7_leastApart 36 [some (vR 133), some (vR x1), some (vI x2), some (vI x3), some (vI x4), some (vI x5), none] [] τ Q := by
  refine u_iload (i := 5) (pc' := 38) dX7_leastApart_36 rfl rfl ?_
  refine u_iload (i := 4) (pc' := 40) dX7_leastApart_38 rfl rfl ?_
  obtain ⟨c1, c2, h⟩ := h
  refine u_icmp_gt (tgt := 85) (pc' := 43) dX7_leastApart_40 rfl (by decide) c1 c2 (fun hb => ?_) (fun hb => ?_)
  · have h := h.1 hb
    refine s_iinc (i := 3) (ls' := [some (vR 133), some (vR x1), some (vI x2), some (vI (x3 + 1)), some (vI x4), some (vI x5), none]) (pc' := 88) dX7_leastApart_85 rfl rfl (Nat.le_of_ble_eq_true rfl) rfl rfl ?_
    refine u_goto (tgt := 4) dX7_leastApart_88 (by decide) ?_
    exact u_less (ls' := [some (vR 133), some (vR x1), some (vI x2), some (vI (x3 + 1)), none, none, none]) ⟨rfl, ⟨rfl, ⟨rfl, ⟨rfl, trivial⟩⟩⟩⟩ h
  · have h := h.2 hb
    refine u_aload_n (i := 1) (pc' := 44) dX7_leastApart_43 rfl rfl rfl ?_
    refine u_iload_n (i := 3) (pc' := 45) dX7_leastApart_44 rfl rfl rfl ?_
    refine u_invV (q' := qX0_hasEar) (As := [vI x3]) (st := []) (pc' := 48) dX7_leastApart_45 rfl gX0_hasEar wm_1035 rfl rfl (kDoor k_x1).1 k_x1 wm_897 wm_898 rfl (Nat.le_of_ble_eq_true rfl) (M0.mono h (fun v τ3 h => ?_))
    obtain ⟨b4, rfl, h⟩ := h
    show V0 E (d + 1) qX7_leastApart 48 [some (vR 133), some (vR x1), some (vI x2), some (vI x3), some (vI x4), some (vI x5), none] [vB b4] τ3 Q
    refine u_if_eq (tgt := 85) (pc' := 51) dX7_leastApart_48 rfl (by decide) (bI_R _) (fun hb => ?_) (fun hb => ?_)
    · have h := h.1 (bI_0.mp hb)
      refine s_iinc (i := 3) (ls' := [some (vR 133), some (vR x1), some (vI x2), some (vI (x3 + 1)), some (vI x4), some (vI x5), none]) (pc' := 88) dX7_leastApart_85 rfl rfl (Nat.le_of_ble_eq_true rfl) rfl rfl ?_
      refine u_goto (tgt := 4) dX7_leastApart_88 (by decide) ?_
      exact u_less (ls' := [some (vR 133), some (vR x1), some (vI x2), some (vI (x3 + 1)), none, none, none]) ⟨rfl, ⟨rfl, ⟨rfl, ⟨rfl, trivial⟩⟩⟩⟩ h
    · have h := h.2 (bI_n0.mp hb)
      refine u_iload_n (i := 2) (pc' := 52) dX7_leastApart_51 rfl rfl rfl ?_
      refine u_aload_n (i := 0) (pc' := 53) dX7_leastApart_52 rfl rfl rfl ?_
      refine u_getR (a := 135) (pc' := 56) dX7_leastApart_53 rfl fl_TuneDoor_TuneSet_19 rfl (by decide) kd_133 rfl ?_
      refine u_alen (t0 := 0) (pc' := 57) dX7_leastApart_56 rfl (by decide) kd_135 (fun _ => rfl) ?_
      obtain ⟨c5, h⟩ := h
      refine u_icmp_ge (tgt := 85) (pc' := 60) dX7_leastApart_57 rfl (by decide) c5 ⟨by decide, by decide⟩ (fun hb => ?_) (fun hb => ?_)
      · have h := h.1 hb
        refine s_iinc (i := 3) (ls' := [some (vR 133), some (vR x1), some (vI x2), some (vI (x3 + 1)), some (vI x4), some (vI x5), none]) (pc' := 88) dX7_leastApart_85 rfl rfl (Nat.le_of_ble_eq_true rfl) rfl rfl ?_
        refine u_goto (tgt := 4) dX7_leastApart_88 (by decide) ?_
        exact u_less (ls' := [some (vR 133), some (vR x1), some (vI x2), some (vI (x3 + 1)), none, none, none]) ⟨rfl, ⟨rfl, ⟨rfl, ⟨rfl, trivial⟩⟩⟩⟩ h
      · have h := h.2 hb
        refine u_aload_n (i := 0) (pc' := 61) dX7_leastApart_60 rfl rfl rfl ?_
        refine u_getR (a := 135) (pc' := 64) dX7_leastApart_61 rfl fl_TuneDoor_TuneSet_19 rfl (by decide) kd_133 rfl ?_
        refine u_iload_n (i := 2) (pc' := 65) dX7_leastApart_64 rfl rfl rfl ?_
        refine u_aload_n (i := 0) (pc' := 66) dX7_leastApart_65 rfl rfl rfl ?_
        refine u_getR (a := 78) (pc' := 69) dX7_leastApart_66 rfl fl_TuneDoor_TuneSet_22 rfl (by decide) kd_133 rfl ?_
        refine u_iload_n (i := 3) (pc' := 70) dX7_leastApart_69 rfl rfl rfl ?_
        refine u_iload (i := 5) (pc' := 72) dX7_leastApart_70 rfl rfl ?_
        refine u_invV (q' := qX9_tuneAt) (As := [vI x3, vI x5]) (st := [vI x2, vR 135]) (pc' := 75) dX7_leastApart_72 rfl gX9_tuneAt wm_1068 rfl rfl (by decide) kd_78 wm_872 wm_873 rfl (Nat.le_of_ble_eq_true rfl) (M0.mono h (fun v τ6 h => ?_))
        obtain ⟨r7, rfl, h⟩ := h
        show V0 E (d + 1) qX7_leastApart 75 [some (vR 133), some (vR x1), some (vI x2), some (vI x3), some (vI x4), some (vI x5), none] [vI r7, vI x2, vR 135] τ6 Q
        obtain ⟨c8, c9, c10, h⟩ := h
        refine u_iastore (k := x2.toNat) (pc' := 76) dX7_leastApart_75 rfl (by decide) kd_135 c8 c9 (by decide) rfl c10 ?_
        refine s_iinc (i := 2) (ls' := [some (vR 133), some (vR x1), some (vI (x2 + 1)), some (vI x3), some (vI x4), some (vI x5), none]) (pc' := 79) dX7_leastApart_76 rfl rfl (Nat.le_of_ble_eq_true rfl) rfl rfl ?_
        refine s_iinc (i := 5) (ls' := [some (vR 133), some (vR x1), some (vI (x2 + 1)), some (vI x3), some (vI x4), some (vI (x5 + 1)), none]) (pc' := 82) dX7_leastApart_79 rfl rfl (Nat.le_of_ble_eq_true rfl) rfl rfl ?_
        refine u_goto (tgt := 36) dX7_leastApart_82 (by decide) ?_
        exact u_less (ls' := [some (vR 133), some (vR x1), some (vI (x2 + 1)), some (vI x3), some (vI x4), some (vI (x5 + 1)), none]) ⟨rfl, ⟨rfl, ⟨rfl, ⟨rfl, ⟨rfl, ⟨rfl, trivial⟩⟩⟩⟩⟩⟩ h
set_option maxRecDepth 20000 in
theorem bX7_leastApart_97 {E : mm_Env} {d : Nat} {τ : mm_Mem} {Q : mm_Q0} {x2 : Int} {x3 : Int} {x4 : Int} (h : inR x4 ∧ inR x2 ∧ ((x2 ≤ x4 → inR x3 ∧ ((x3 ≠ 6 → Q (some (vI x3)) τ) ∧ (x3 = 6 → Q (some (vI (-1))) τ))) ∧ (¬ x2 ≤ x4 → inR x3 ∧ ((x3 ≤ 1 → ((x3 ≠ 6 → Q (some (vI x3)) τ) ∧ (x3 = 6 → Q (some (vI (-1))) τ))) ∧ (¬ x3 ≤ 1 → V0 E (d + 1) qX7_leastApart 111 [some (vR 133), none, some (vI x2), some (vI x3), some (vI x4), some (vI 0), none] [] τ Q))))) : V0 E (d + 1) qX7_leastApart 97 [some (vR 133), none, some (vI x2), some (vI x3), some (vI x4), none, none] [] τ Q := by
  refine u_iload (i := 4) (pc' := 99) dX7_leastApart_97 rfl rfl ?_
  refine u_iload_n (i := 2) (pc' := 100) dX7_leastApart_99 rfl rfl rfl ?_
  obtain ⟨c1, c2, h⟩ := h
  refine u_icmp_ge (tgt := 165) (pc' := 103) dX7_leastApart_100 rfl (by decide) c1 c2 (fun hb => ?_) (fun hb => ?_)
  · have h := h.1 hb
    refine u_iload_n (i := 3) (pc' := 166) dX7_leastApart_165 rfl rfl rfl ?_
    refine u_bipush (pc' := 168) dX7_leastApart_166 rfl (by decide) ?_
    obtain ⟨c3, h⟩ := h
    refine u_icmp_ne (tgt := 175) (pc' := 171) dX7_leastApart_168 rfl (by decide) c3 ⟨by decide, by decide⟩ (fun hb => ?_) (fun hb => ?_)
    · have h := h.1 hb
      refine u_iload_n (i := 3) (pc' := 176) dX7_leastApart_175 rfl rfl rfl ?_
      exact u_iret dX7_leastApart_176 rfl h
    · have h := h.2 hb
      refine u_iconst (pc' := 172) dX7_leastApart_171 rfl ?_
      refine u_goto (tgt := 176) dX7_leastApart_172 (by decide) ?_
      exact u_iret dX7_leastApart_176 rfl h
  · have h := h.2 hb
    refine u_iload_n (i := 3) (pc' := 104) dX7_leastApart_103 rfl rfl rfl ?_
    refine u_iconst (pc' := 105) dX7_leastApart_104 rfl ?_
    obtain ⟨c4, h⟩ := h
    refine u_icmp_le (tgt := 165) (pc' := 108) dX7_leastApart_105 rfl (by decide) c4 ⟨by decide, by decide⟩ (fun hb => ?_) (fun hb => ?_)
    · have h := h.1 hb
      refine u_iload_n (i := 3) (pc' := 166) dX7_leastApart_165 rfl rfl rfl ?_
      refine u_bipush (pc' := 168) dX7_leastApart_166 rfl (by decide) ?_
      refine u_icmp_ne (tgt := 175) (pc' := 171) dX7_leastApart_168 rfl (by decide) c4 ⟨by decide, by decide⟩ (fun hb => ?_) (fun hb => ?_)
      · have h := h.1 hb
        refine u_iload_n (i := 3) (pc' := 176) dX7_leastApart_175 rfl rfl rfl ?_
        exact u_iret dX7_leastApart_176 rfl h
      · have h := h.2 hb
        refine u_iconst (pc' := 172) dX7_leastApart_171 rfl ?_
        refine u_goto (tgt := 176) dX7_leastApart_172 (by decide) ?_
        exact u_iret dX7_leastApart_176 rfl h
    · have h := h.2 hb
      refine u_iconst (pc' := 109) dX7_leastApart_108 rfl ?_
      refine s_istore (i := 5) (ls' := [some (vR 133), none, some (vI x2), some (vI x3), some (vI x4), some (vI 0), none]) (pc' := 111) dX7_leastApart_109 rfl (Nat.le_of_ble_eq_true rfl) rfl rfl ?_
      exact u_less (ls' := [some (vR 133), none, some (vI x2), some (vI x3), some (vI x4), some (vI 0), none]) ⟨rfl, ⟨rfl, ⟨rfl, ⟨rfl, ⟨rfl, trivial⟩⟩⟩⟩⟩ h
set_option maxRecDepth 20000 in
theorem bX7_leastApart_111 {E : mm_Env} {d : Nat} {τ : mm_Mem} {Q : mm_Q0} {x2 : Int} {x3 : Int} {x4 : Int} {x5 : Int} (h : inR x5 ∧ inR x4 ∧ ((x4 ≤ x5 → V0 E (d + 1) qX7_leastApart 97 [some (vR 133), none, some (vI x2), some (vI x3), some (vI (x4 + 1)), none, none] [] τ Q) ∧ (¬ x4 ≤ x5 → 0 ≤ x4 ∧ x4 < 123 ∧ 0 ≤ x5 ∧ x5 < 123 ∧ M0 E d qX9_unlikeNotes [vI (τ 135 x4.toNat), vI (τ 135 x5.toNat)] τ (fun v τ9 => ∃ r10 : Int, v = some (vI r10) ∧ inR r10 ∧ ((r10 ≤ 0 → V0 E (d + 1) qX7_leastApart 111 [some (vR 133), none, some (vI x2), some (vI x3), some (vI x4), some (vI (x5 + 1)), none] [] τ9 Q) ∧ (¬ r10 ≤ 0 → M0 E d qJ9_min_7cf53 [vI x3, vI r10] τ9 (fun v τ12 => ∃ r13 : Int, v = some (vI r13) ∧ V0 E (d + 1) qX7_leastApart 111 [some (vR 133), none, some (vI x2), some (vI r13), some (vI x4), some (vI (x5 + 1)), none] [] τ12 Q))))))) : V0 E (d + 1) qX7_leastApart 111 [some (vR 133), none, some (vI x2), some (vI x3), some (vI x4), some (vI x5), none] [] τ Q := by
  refine u_iload (i := 5) (pc' := 113) dX7_leastApart_111 rfl rfl ?_
  refine u_iload (i := 4) (pc' := 115) dX7_leastApart_113 rfl rfl ?_
  obtain ⟨c1, c2, h⟩ := h
  refine u_icmp_ge (tgt := 159) (pc' := 118) dX7_leastApart_115 rfl (by decide) c1 c2 (fun hb => ?_) (fun hb => ?_)
  · have h := h.1 hb
    refine s_iinc (i := 4) (ls' := [some (vR 133), none, some (vI x2), some (vI x3), some (vI (x4 + 1)), some (vI x5), none]) (pc' := 162) dX7_leastApart_159 rfl rfl (Nat.le_of_ble_eq_true rfl) rfl rfl ?_
    refine u_goto (tgt := 97) dX7_leastApart_162 (by decide) ?_
    exact u_less (ls' := [some (vR 133), none, some (vI x2), some (vI x3), some (vI (x4 + 1)), none, none]) ⟨rfl, ⟨rfl, ⟨rfl, ⟨rfl, trivial⟩⟩⟩⟩ h
  · have h := h.2 hb
    refine u_aload_n (i := 0) (pc' := 119) dX7_leastApart_118 rfl rfl rfl ?_
    refine u_getR (a := 135) (pc' := 122) dX7_leastApart_119 rfl fl_TuneDoor_TuneSet_19 rfl (by decide) kd_133 rfl ?_
    refine u_iload (i := 4) (pc' := 124) dX7_leastApart_122 rfl rfl ?_
    obtain ⟨c3, c4, h⟩ := h
    refine u_iaload (k := x4.toNat) (z := (τ 135 x4.toNat)) (pc' := 125) dX7_leastApart_124 rfl (by decide) kd_135 c3 c4 (by decide) rfl rfl (fun r5 => ?_)
    refine u_aload_n (i := 0) (pc' := 126) dX7_leastApart_125 rfl rfl rfl ?_
    refine u_getR (a := 135) (pc' := 129) dX7_leastApart_126 rfl fl_TuneDoor_TuneSet_19 rfl (by decide) kd_133 rfl ?_
    refine u_iload (i := 5) (pc' := 131) dX7_leastApart_129 rfl rfl ?_
    obtain ⟨c6, c7, h⟩ := h
    refine u_iaload (k := x5.toNat) (z := (τ 135 x5.toNat)) (pc' := 132) dX7_leastApart_131 rfl (by decide) kd_135 c6 c7 (by decide) rfl rfl (fun r8 => ?_)
    refine u_invS (q' := qX9_unlikeNotes) (As := [vI (τ 135 x4.toNat), vI (τ 135 x5.toNat)]) (st := []) (pc' := 135) dX7_leastApart_132 rfl gX9_unlikeNotes wm_1069 wm_927 rfl (Nat.le_of_ble_eq_true rfl) (M0.mono h (fun v τ9 h => ?_))
    obtain ⟨r10, rfl, h⟩ := h
    show V0 E (d + 1) qX7_leastApart 135 [some (vR 133), none, some (vI x2), some (vI x3), some (vI x4), some (vI x5), none] [vI r10] τ9 Q
    refine s_istore (i := 6) (ls' := [some (vR 133), none, some (vI x2), some (vI x3), some (vI x4), some (vI x5), some (vI r10)]) (pc' := 137) dX7_leastApart_135 rfl (Nat.le_of_ble_eq_true rfl) rfl rfl ?_
    refine u_iload (i := 6) (pc' := 139) dX7_leastApart_137 rfl rfl ?_
    obtain ⟨c11, h⟩ := h
    refine u_if_le (tgt := 151) (pc' := 142) dX7_leastApart_139 rfl (by decide) c11 (fun hb => ?_) (fun hb => ?_)
    · have h := h.1 hb
      refine u_iload_n (i := 3) (pc' := 152) dX7_leastApart_151 rfl rfl rfl ?_
      refine s_istore_n (i := 3) (ls' := [some (vR 133), none, some (vI x2), some (vI x3), some (vI x4), some (vI x5), some (vI r10)]) (pc' := 153) dX7_leastApart_152 rfl rfl (Nat.le_of_ble_eq_true rfl) rfl rfl ?_
      refine s_iinc (i := 5) (ls' := [some (vR 133), none, some (vI x2), some (vI x3), some (vI x4), some (vI (x5 + 1)), some (vI r10)]) (pc' := 156) dX7_leastApart_153 rfl rfl (Nat.le_of_ble_eq_true rfl) rfl rfl ?_
      refine u_goto (tgt := 111) dX7_leastApart_156 (by decide) ?_
      exact u_less (ls' := [some (vR 133), none, some (vI x2), some (vI x3), some (vI x4), some (vI (x5 + 1)), none]) ⟨rfl, ⟨rfl, ⟨rfl, ⟨rfl, ⟨rfl, trivial⟩⟩⟩⟩⟩ h
    · have h := h.2 hb
      refine u_iload_n (i := 3) (pc' := 143) dX7_leastApart_142 rfl rfl rfl ?_
      refine u_iload (i := 6) (pc' := 145) dX7_leastApart_143 rfl rfl ?_
      refine u_invS (q' := qJ9_min_7cf53) (As := [vI x3, vI r10]) (st := []) (pc' := 148) dX7_leastApart_145 rfl gJ9_min_7cf53 wm_1028 wm_530 rfl (Nat.le_of_ble_eq_true rfl) (M0.mono h (fun v τ12 h => ?_))
      obtain ⟨r13, rfl, h⟩ := h
      show V0 E (d + 1) qX7_leastApart 148 [some (vR 133), none, some (vI x2), some (vI x3), some (vI x4), some (vI x5), some (vI r10)] [vI r13] τ12 Q
      refine u_goto (tgt := 152) dX7_leastApart_148 (by decide) ?_
      refine s_istore_n (i := 3) (ls' := [some (vR 133), none, some (vI x2), some (vI r13), some (vI x4), some (vI x5), some (vI r10)]) (pc' := 153) dX7_leastApart_152 rfl rfl (Nat.le_of_ble_eq_true rfl) rfl rfl ?_
      refine s_iinc (i := 5) (ls' := [some (vR 133), none, some (vI x2), some (vI r13), some (vI x4), some (vI (x5 + 1)), some (vI r10)]) (pc' := 156) dX7_leastApart_153 rfl rfl (Nat.le_of_ble_eq_true rfl) rfl rfl ?_
      refine u_goto (tgt := 111) dX7_leastApart_156 (by decide) ?_
      exact u_less (ls' := [some (vR 133), none, some (vI x2), some (vI r13), some (vI x4), some (vI (x5 + 1)), none]) ⟨rfl, ⟨rfl, ⟨rfl, ⟨rfl, ⟨rfl, trivial⟩⟩⟩⟩⟩ h
set_option maxRecDepth 20000 in
theorem bX7_noteFirsts_0 {E : mm_Env} {d : Nat} {τ : mm_Mem} {Q : mm_Q0} {a0 : Int} {a1 : Int} (h : M0 E d qJ7_fill_53178 [vR 134, vI (-1)] τ (fun v τ1 => v = none ∧ V0 E (d + 1) qX7_noteFirsts 12 [some (vR 133), some (vI a0), none, some (vI (a1 - 1)), none] [] τ1 Q)) : V0 E (d + 1) qX7_noteFirsts 0 [some (vR 133), some (vI a0), some (vI a1), none, none] [] τ Q := by
  refine u_aload_n (i := 0) (pc' := 1) dX7_noteFirsts_0 rfl rfl rfl ?_
  refine u_getR (a := 134) (pc' := 4) dX7_noteFirsts_1 rfl fl_TuneDoor_TuneSet_9 rfl (by decide) kd_133 rfl ?_
  refine u_iconst (pc' := 5) dX7_noteFirsts_4 rfl ?_
  refine u_invS (q' := qJ7_fill_53178) (As := [vR 134, vI (-1)]) (st := []) (pc' := 8) dX7_noteFirsts_5 rfl gJ7_fill_53178 wm_1133 wm_567 rfl (Nat.le_of_ble_eq_true rfl) (M0.mono h (fun v τ1 h => ?_))
  obtain ⟨rfl, h⟩ := h
  show V0 E (d + 1) qX7_noteFirsts 8 [some (vR 133), some (vI a0), some (vI a1), none, none] [] τ1 Q
  refine u_iload_n (i := 2) (pc' := 9) dX7_noteFirsts_8 rfl rfl rfl ?_
  refine u_iconst (pc' := 10) dX7_noteFirsts_9 rfl ?_
  refine u_isub (pc' := 11) dX7_noteFirsts_10 rfl ?_
  refine s_istore_n (i := 3) (ls' := [some (vR 133), some (vI a0), some (vI a1), some (vI (a1 - 1)), none]) (pc' := 12) dX7_noteFirsts_11 rfl rfl (Nat.le_of_ble_eq_true rfl) rfl rfl ?_
  exact u_less (ls' := [some (vR 133), some (vI a0), none, some (vI (a1 - 1)), none]) ⟨rfl, ⟨rfl, ⟨rfl, trivial⟩⟩⟩ h
theorem mX7_noteFirsts {E : mm_Env} {d : Nat} {τ : mm_Mem} {Q : mm_Q0} {a0 : Int} {a1 : Int} (h : M0 E d qJ7_fill_53178 [vR 134, vI (-1)] τ (fun v τ1 => v = none ∧ V0 E (d + 1) qX7_noteFirsts 12 [some (vR 133), some (vI a0), none, some (vI (a1 - 1)), none] [] τ1 Q)) : M0 E (d + 1) qX7_noteFirsts [vR 133, vI a0, vI a1] τ Q := M0_of rfl (Nat.le_of_ble_eq_true rfl) [some (vR 133), some (vI a0), some (vI a1), none, none] rfl (bX7_noteFirsts_0  h)
set_option maxRecDepth 20000 in
theorem bX7_noteFirsts_12 {E : mm_Env} {d : Nat} {τ : mm_Mem} {Q : mm_Q0} {x1 : Int} {x3 : Int} (h : inR x3 ∧ ((x3 < 0 → Q none τ) ∧ (¬ x3 < 0 → M0 E d qX9_numberAt [vR 78, vI x1, vI x3] τ (fun v τ2 => ∃ r3 : Int, v = some (vI r3) ∧ M0 E d qX7_isNumber [vR 133, vI r3] τ2 (fun v τ4 => ∃ b5 : Bool, v = some (vB b5) ∧ ((b5 = false → V0 E (d + 1) qX7_noteFirsts 12 [some (vR 133), some (vI x1), none, some (vI (x3 + (-1))), none] [] τ4 Q) ∧ (b5 = true → 0 ≤ r3 ∧ r3 < 7776 ∧ V0 E (d + 1) qX7_noteFirsts 12 [some (vR 133), some (vI x1), none, some (vI (x3 + (-1))), none] [] (wr τ4 134 r3.toNat x3) Q))))))) : V0 E (d + 1) qX7_noteFirsts 12 [some (vR 133), some (vI x1), none, some (vI x3), none] [] τ Q := by
  refine u_iload_n (i := 3) (pc' := 13) dX7_noteFirsts_12 rfl rfl rfl ?_
  obtain ⟨c1, h⟩ := h
  refine u_if_lt (tgt := 50) (pc' := 16) dX7_noteFirsts_13 rfl (by decide) c1 (fun hb => ?_) (fun hb => ?_)
  · have h := h.1 hb
    exact u_ret dX7_noteFirsts_50 rfl h
  · have h := h.2 hb
    refine u_aload_n (i := 0) (pc' := 17) dX7_noteFirsts_16 rfl rfl rfl ?_
    refine u_getR (a := 78) (pc' := 20) dX7_noteFirsts_17 rfl fl_TuneDoor_TuneSet_22 rfl (by decide) kd_133 rfl ?_
    refine u_iload_n (i := 1) (pc' := 21) dX7_noteFirsts_20 rfl rfl rfl ?_
    refine u_iload_n (i := 3) (pc' := 22) dX7_noteFirsts_21 rfl rfl rfl ?_
    refine u_invV (q' := qX9_numberAt) (As := [vI x1, vI x3]) (st := []) (pc' := 25) dX7_noteFirsts_22 rfl gX9_numberAt wm_1036 rfl rfl (by decide) kd_78 wm_861 wm_862 rfl (Nat.le_of_ble_eq_true rfl) (M0.mono h (fun v τ2 h => ?_))
    obtain ⟨r3, rfl, h⟩ := h
    show V0 E (d + 1) qX7_noteFirsts 25 [some (vR 133), some (vI x1), none, some (vI x3), none] [vI r3] τ2 Q
    refine s_istore (i := 4) (ls' := [some (vR 133), some (vI x1), none, some (vI x3), some (vI r3)]) (pc' := 27) dX7_noteFirsts_25 rfl (Nat.le_of_ble_eq_true rfl) rfl rfl ?_
    refine u_aload_n (i := 0) (pc' := 28) dX7_noteFirsts_27 rfl rfl rfl ?_
    refine u_iload (i := 4) (pc' := 30) dX7_noteFirsts_28 rfl rfl ?_
    refine u_invV (q' := qX7_isNumber) (As := [vI r3]) (st := []) (pc' := 33) dX7_noteFirsts_30 rfl gX7_isNumber wm_1037 rfl rfl (by decide) kd_133 wm_1039 wp_55 rfl (Nat.le_of_ble_eq_true rfl) (M0.mono h (fun v τ4 h => ?_))
    obtain ⟨b5, rfl, h⟩ := h
    show V0 E (d + 1) qX7_noteFirsts 33 [some (vR 133), some (vI x1), none, some (vI x3), some (vI r3)] [vB b5] τ4 Q
    refine u_if_eq (tgt := 44) (pc' := 36) dX7_noteFirsts_33 rfl (by decide) (bI_R _) (fun hb => ?_) (fun hb => ?_)
    · have h := h.1 (bI_0.mp hb)
      refine s_iinc (i := 3) (ls' := [some (vR 133), some (vI x1), none, some (vI (x3 + (-1))), some (vI r3)]) (pc' := 47) dX7_noteFirsts_44 rfl rfl (Nat.le_of_ble_eq_true rfl) rfl rfl ?_
      refine u_goto (tgt := 12) dX7_noteFirsts_47 (by decide) ?_
      exact u_less (ls' := [some (vR 133), some (vI x1), none, some (vI (x3 + (-1))), none]) ⟨rfl, ⟨rfl, ⟨rfl, trivial⟩⟩⟩ h
    · have h := h.2 (bI_n0.mp hb)
      refine u_aload_n (i := 0) (pc' := 37) dX7_noteFirsts_36 rfl rfl rfl ?_
      refine u_getR (a := 134) (pc' := 40) dX7_noteFirsts_37 rfl fl_TuneDoor_TuneSet_9 rfl (by decide) kd_133 rfl ?_
      refine u_iload (i := 4) (pc' := 42) dX7_noteFirsts_40 rfl rfl ?_
      refine u_iload_n (i := 3) (pc' := 43) dX7_noteFirsts_42 rfl rfl rfl ?_
      obtain ⟨c6, c7, h⟩ := h
      refine u_iastore (k := r3.toNat) (pc' := 44) dX7_noteFirsts_43 rfl (by decide) kd_134 c6 c7 (by decide) rfl c1 ?_
      refine s_iinc (i := 3) (ls' := [some (vR 133), some (vI x1), none, some (vI (x3 + (-1))), some (vI r3)]) (pc' := 47) dX7_noteFirsts_44 rfl rfl (Nat.le_of_ble_eq_true rfl) rfl rfl ?_
      refine u_goto (tgt := 12) dX7_noteFirsts_47 (by decide) ?_
      exact u_less (ls' := [some (vR 133), some (vI x1), none, some (vI (x3 + (-1))), none]) ⟨rfl, ⟨rfl, ⟨rfl, trivial⟩⟩⟩ h
set_option maxRecDepth 20000 in
theorem bX7_firstOf_0 {E : mm_Env} {d : Nat} {τ : mm_Mem} {Q : mm_Q0} {a0 : Int} (h : M0 E d qX7_isNumber [vR 133, vI a0] τ (fun v τ1 => ∃ b2 : Bool, v = some (vB b2) ∧ ((b2 = false → Q (some (vI (-1))) τ1) ∧ (b2 = true → 0 ≤ a0 ∧ a0 < 7776 ∧ Q (some (vI (τ1 134 a0.toNat))) τ1)))) : V0 E (d + 1) qX7_firstOf 0 [some (vR 133), some (vI a0)] [] τ Q := by
  refine u_aload_n (i := 0) (pc' := 1) dX7_firstOf_0 rfl rfl rfl ?_
  refine u_iload_n (i := 1) (pc' := 2) dX7_firstOf_1 rfl rfl rfl ?_
  refine u_invV (q' := qX7_isNumber) (As := [vI a0]) (st := []) (pc' := 5) dX7_firstOf_2 rfl gX7_isNumber wm_1037 rfl rfl (by decide) kd_133 wm_1039 wp_55 rfl (Nat.le_of_ble_eq_true rfl) (M0.mono h (fun v τ1 h => ?_))
  obtain ⟨b2, rfl, h⟩ := h
  show V0 E (d + 1) qX7_firstOf 5 [some (vR 133), some (vI a0)] [vB b2] τ1 Q
  refine u_if_eq (tgt := 17) (pc' := 8) dX7_firstOf_5 rfl (by decide) (bI_R _) (fun hb => ?_) (fun hb => ?_)
  · have h := h.1 (bI_0.mp hb)
    refine u_iconst (pc' := 18) dX7_firstOf_17 rfl ?_
    exact u_iret dX7_firstOf_18 rfl h
  · have h := h.2 (bI_n0.mp hb)
    refine u_aload_n (i := 0) (pc' := 9) dX7_firstOf_8 rfl rfl rfl ?_
    refine u_getR (a := 134) (pc' := 12) dX7_firstOf_9 rfl fl_TuneDoor_TuneSet_9 rfl (by decide) kd_133 rfl ?_
    refine u_iload_n (i := 1) (pc' := 13) dX7_firstOf_12 rfl rfl rfl ?_
    obtain ⟨c3, c4, h⟩ := h
    refine u_iaload (k := a0.toNat) (z := (τ1 134 a0.toNat)) (pc' := 14) dX7_firstOf_13 rfl (by decide) kd_134 c3 c4 (by decide) rfl rfl (fun r5 => ?_)
    refine u_goto (tgt := 18) dX7_firstOf_14 (by decide) ?_
    exact u_iret dX7_firstOf_18 rfl h
theorem mX7_firstOf {E : mm_Env} {d : Nat} {τ : mm_Mem} {Q : mm_Q0} {a0 : Int} (h : M0 E d qX7_isNumber [vR 133, vI a0] τ (fun v τ1 => ∃ b2 : Bool, v = some (vB b2) ∧ ((b2 = false → Q (some (vI (-1))) τ1) ∧ (b2 = true → 0 ≤ a0 ∧ a0 < 7776 ∧ Q (some (vI (τ1 134 a0.toNat))) τ1)))) : M0 E (d + 1) qX7_firstOf [vR 133, vI a0] τ Q := M0_of rfl (Nat.le_of_ble_eq_true rfl) [some (vR 133), some (vI a0)] rfl (bX7_firstOf_0  h)
