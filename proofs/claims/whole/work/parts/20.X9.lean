set_option maxRecDepth 20000 in
theorem bX9_withNote_0 {E : mm_Env} {d : Nat} {τ : mm_Mem} {Q : mm_Q0} {a0 : Int} {a1 : Int} {a2 : Int} (h : Q (some (vI (mm_or (mm_and a0 (mm_xor (mm_shl 7 (3 * a1)) (-1))) (mm_shl a2 (3 * a1))))) τ) : V0 E d qX9_withNote 0 [some (vI a0), some (vI a1), some (vI a2)] [] τ Q := by
  refine u_iload_n (i := 0) (pc' := 1) dX9_withNote_0 rfl rfl rfl ?_
  refine u_bipush (pc' := 3) dX9_withNote_1 rfl (by decide) ?_
  refine u_iconst (pc' := 4) dX9_withNote_3 rfl ?_
  refine u_iload_n (i := 1) (pc' := 5) dX9_withNote_4 rfl rfl rfl ?_
  refine u_imul (pc' := 6) dX9_withNote_5 rfl ?_
  refine u_ishl (pc' := 7) dX9_withNote_6 rfl ?_
  refine u_iconst (pc' := 8) dX9_withNote_7 rfl ?_
  refine u_ixor (pc' := 9) dX9_withNote_8 rfl ?_
  refine u_iand (pc' := 10) dX9_withNote_9 rfl ?_
  refine u_iload_n (i := 2) (pc' := 11) dX9_withNote_10 rfl rfl rfl ?_
  refine u_iconst (pc' := 12) dX9_withNote_11 rfl ?_
  refine u_iload_n (i := 1) (pc' := 13) dX9_withNote_12 rfl rfl rfl ?_
  refine u_imul (pc' := 14) dX9_withNote_13 rfl ?_
  refine u_ishl (pc' := 15) dX9_withNote_14 rfl ?_
  refine u_ior (pc' := 16) dX9_withNote_15 rfl ?_
  exact u_iret dX9_withNote_16 rfl h
theorem mX9_withNote {E : mm_Env} {d : Nat} {τ : mm_Mem} {Q : mm_Q0} {a0 : Int} {a1 : Int} {a2 : Int} (h : Q (some (vI (mm_or (mm_and a0 (mm_xor (mm_shl 7 (3 * a1)) (-1))) (mm_shl a2 (3 * a1))))) τ) : M0 E d qX9_withNote [vI a0, vI a1, vI a2] τ Q := M0_of rfl (Nat.le_of_ble_eq_true rfl) [some (vI a0), some (vI a1), some (vI a2)] rfl (bX9_withNote_0  h)
set_option maxRecDepth 20000 in
theorem bX9_make_0 {E : mm_Env} {d : Nat} {τ : mm_Mem} {Q : mm_Q0} {a0 : Nat} (k_a0 : KD a0 = some (.inr 2)) (h : V0 E (d + 1) qX9_make 23 [some (vR 78), some (vR a0), some (vI 0)] [] (wr (wr (wr τ 78 3 (τ a0 0)) 78 4 ((wr τ 78 3 (τ a0 0)) a0 1)) 78 5 1) Q) : V0 E (d + 1) qX9_make 0 [some (vR 78), some (vR a0), none] [] τ Q := by
  refine u_aload_n (i := 0) (pc' := 1) dX9_make_0 rfl rfl rfl ?_
  refine u_aload_n (i := 1) (pc' := 2) dX9_make_1 rfl rfl rfl ?_
  refine u_getI (z := (τ a0 0)) (pc' := 5) dX9_make_2 rfl fl_TuneDoor_Whistles_32 rfl (by decide) (kHouse k_a0).1 k_a0 rfl (fun r1 => ?_)
  refine u_putI (pc' := 8) dX9_make_5 rfl fl_TuneDoor_Whistles_38 rfl rfl (by decide) (by decide) kd_78 r1 ?_
  refine u_aload_n (i := 0) (pc' := 9) dX9_make_8 rfl rfl rfl ?_
  refine u_aload_n (i := 1) (pc' := 10) dX9_make_9 rfl rfl rfl ?_
  refine u_getI (z := ((wr τ 78 3 (τ a0 0)) a0 1)) (pc' := 13) dX9_make_10 rfl fl_TuneDoor_Whistles_39 rfl (by decide) (kHouse k_a0).1 k_a0 rfl (fun r2 => ?_)
  refine u_putI (pc' := 16) dX9_make_13 rfl fl_TuneDoor_Whistles_42 rfl rfl (by decide) (by decide) kd_78 r2 ?_
  refine u_aload_n (i := 0) (pc' := 17) dX9_make_16 rfl rfl rfl ?_
  refine u_iconst (pc' := 18) dX9_make_17 rfl ?_
  refine u_putI (pc' := 21) dX9_make_18 rfl fl_TuneDoor_Whistles_43 rfl rfl (by decide) (by decide) kd_78 ⟨by decide, by decide⟩ ?_
  refine u_iconst (pc' := 22) dX9_make_21 rfl ?_
  refine s_istore_n (i := 2) (ls' := [some (vR 78), some (vR a0), some (vI 0)]) (pc' := 23) dX9_make_22 rfl rfl (Nat.le_of_ble_eq_true rfl) rfl rfl ?_
  exact u_less (ls' := [some (vR 78), some (vR a0), some (vI 0)]) ⟨rfl, ⟨rfl, ⟨rfl, trivial⟩⟩⟩ h
theorem mX9_make {E : mm_Env} {d : Nat} {τ : mm_Mem} {Q : mm_Q0} {a0 : Nat} (k_a0 : KD a0 = some (.inr 2)) (h : V0 E (d + 1) qX9_make 23 [some (vR 78), some (vR a0), some (vI 0)] [] (wr (wr (wr τ 78 3 (τ a0 0)) 78 4 ((wr τ 78 3 (τ a0 0)) a0 1)) 78 5 1) Q) : M0 E (d + 1) qX9_make [vR 78, vR a0] τ Q := M0_of rfl (Nat.le_of_ble_eq_true rfl) [some (vR 78), some (vR a0), none] rfl (bX9_make_0 k_a0 h)
set_option maxRecDepth 20000 in
theorem bX9_make_23 {E : mm_Env} {d : Nat} {τ : mm_Mem} {Q : mm_Q0} {x1 : Nat} {x2 : Int} (k_x1 : KD x1 = some (.inr 2)) (h : inR x2 ∧ (((τ 78 4) ≤ x2 → V0 E (d + 1) qX9_make 52 [some (vR 78), some (vR x1), some (vI 0)] [] τ Q) ∧ (¬ (τ 78 4) ≤ x2 → inR ((τ 78 5) * (τ 78 3)) ∧ V0 E (d + 1) qX9_make 23 [some (vR 78), some (vR x1), some (vI (x2 + 1))] [] (wr τ 78 5 ((τ 78 5) * (τ 78 3))) Q))) : V0 E (d + 1) qX9_make 23 [some (vR 78), some (vR x1), some (vI x2)] [] τ Q := by
  refine u_iload_n (i := 2) (pc' := 24) dX9_make_23 rfl rfl rfl ?_
  refine u_aload_n (i := 0) (pc' := 25) dX9_make_24 rfl rfl rfl ?_
  refine u_getI (z := (τ 78 4)) (pc' := 28) dX9_make_25 rfl fl_TuneDoor_Whistles_42 rfl (by decide) (by decide) kd_78 rfl (fun r1 => ?_)
  obtain ⟨c2, h⟩ := h
  refine u_icmp_ge (tgt := 50) (pc' := 31) dX9_make_28 rfl (by decide) c2 r1 (fun hb => ?_) (fun hb => ?_)
  · have h := h.1 hb
    refine u_iconst (pc' := 51) dX9_make_50 rfl ?_
    refine s_istore_n (i := 2) (ls' := [some (vR 78), some (vR x1), some (vI 0)]) (pc' := 52) dX9_make_51 rfl rfl (Nat.le_of_ble_eq_true rfl) rfl rfl ?_
    exact u_less (ls' := [some (vR 78), some (vR x1), some (vI 0)]) ⟨rfl, ⟨rfl, ⟨rfl, trivial⟩⟩⟩ h
  · have h := h.2 hb
    refine u_aload_n (i := 0) (pc' := 32) dX9_make_31 rfl rfl rfl ?_
    refine u_dup (pc' := 33) dX9_make_32 rfl (fun _ hh => by cases hh) ?_
    refine u_getI (z := (τ 78 5)) (pc' := 36) dX9_make_33 rfl fl_TuneDoor_Whistles_43 rfl (by decide) (by decide) kd_78 rfl (fun r3 => ?_)
    refine u_aload_n (i := 0) (pc' := 37) dX9_make_36 rfl rfl rfl ?_
    refine u_getI (z := (τ 78 3)) (pc' := 40) dX9_make_37 rfl fl_TuneDoor_Whistles_38 rfl (by decide) (by decide) kd_78 rfl (fun r4 => ?_)
    refine u_imul (pc' := 41) dX9_make_40 rfl ?_
    obtain ⟨c5, h⟩ := h
    refine u_putI (pc' := 44) dX9_make_41 rfl fl_TuneDoor_Whistles_43 rfl rfl (by decide) (by decide) kd_78 c5 ?_
    refine s_iinc (i := 2) (ls' := [some (vR 78), some (vR x1), some (vI (x2 + 1))]) (pc' := 47) dX9_make_44 rfl rfl (Nat.le_of_ble_eq_true rfl) rfl rfl ?_
    refine u_goto (tgt := 23) dX9_make_47 (by decide) ?_
    exact u_less (ls' := [some (vR 78), some (vR x1), some (vI (x2 + 1))]) ⟨rfl, ⟨rfl, ⟨rfl, trivial⟩⟩⟩ h
set_option maxRecDepth 20000 in
theorem bX9_make_52 {E : mm_Env} {d : Nat} {τ : mm_Mem} {Q : mm_Q0} {x1 : Nat} {x2 : Int} (k_x1 : KD x1 = some (.inr 2)) (h : inR x2 ∧ (((τ x1 2) ≤ x2 → Q none τ) ∧ (¬ (τ x1 2) ≤ x2 → ((3 ≤ x2 → Q none τ) ∧ (¬ 3 ≤ x2 → 0 ≤ x2 ∧ x2 < 3 ∧ 0 ≤ x2 ∧ x2 < 3 ∧ M0 E d qX9_put [vR 78, vI x2, vI 0, vI (τ (x1 + 2) x2.toNat), vI (τ (x1 + 3) x2.toNat)] τ (fun v τ9 => v = none ∧ M0 E d qX9_makeRow [vR 78, vR (x1 + 6), vI x2] τ9 (fun v τ10 => v = none ∧ V0 E (d + 1) qX9_make 52 [some (vR 78), some (vR x1), some (vI (x2 + 1))] [] τ10 Q))))))) : V0 E (d + 1) qX9_make 52 [some (vR 78), some (vR x1), some (vI x2)] [] τ Q := by
  refine u_iload_n (i := 2) (pc' := 53) dX9_make_52 rfl rfl rfl ?_
  refine u_aload_n (i := 1) (pc' := 54) dX9_make_53 rfl rfl rfl ?_
  refine u_getI (z := (τ x1 2)) (pc' := 57) dX9_make_54 rfl fl_TuneDoor_Whistles_46 rfl (by decide) (kHouse k_x1).1 k_x1 rfl (fun r1 => ?_)
  obtain ⟨c2, h⟩ := h
  refine u_icmp_ge (tgt := 98) (pc' := 60) dX9_make_57 rfl (by decide) c2 r1 (fun hb => ?_) (fun hb => ?_)
  · have h := h.1 hb
    exact u_ret dX9_make_98 rfl h
  · have h := h.2 hb
    refine u_iload_n (i := 2) (pc' := 61) dX9_make_60 rfl rfl rfl ?_
    refine u_iconst (pc' := 62) dX9_make_61 rfl ?_
    refine u_icmp_ge (tgt := 98) (pc' := 65) dX9_make_62 rfl (by decide) c2 ⟨by decide, by decide⟩ (fun hb => ?_) (fun hb => ?_)
    · have h := h.1 hb
      exact u_ret dX9_make_98 rfl h
    · have h := h.2 hb
      refine u_aload_n (i := 0) (pc' := 66) dX9_make_65 rfl rfl rfl ?_
      refine u_iload_n (i := 2) (pc' := 67) dX9_make_66 rfl rfl rfl ?_
      refine u_iconst (pc' := 68) dX9_make_67 rfl ?_
      refine u_aload_n (i := 1) (pc' := 69) dX9_make_68 rfl rfl rfl ?_
      refine u_getR (a := (x1 + 2)) (pc' := 72) dX9_make_69 rfl fl_TuneDoor_Whistles_48 rfl (kHouse k_x1).1 k_x1 (kHouse k_x1).2.2.1 ?_
      refine u_iload_n (i := 2) (pc' := 73) dX9_make_72 rfl rfl rfl ?_
      obtain ⟨c3, c4, h⟩ := h
      refine u_iaload (k := x2.toNat) (z := (τ (x1 + 2) x2.toNat)) (pc' := 74) dX9_make_73 rfl (Nat.le_trans (kHouse k_x1).1 (Nat.le_add_right _ _)) (kHouse k_x1).2.2.2.2.2.2.2.2.1 c3 c4 (by decide) rfl rfl (fun r5 => ?_)
      refine u_aload_n (i := 1) (pc' := 75) dX9_make_74 rfl rfl rfl ?_
      refine u_getR (a := (x1 + 3)) (pc' := 78) dX9_make_75 rfl fl_TuneDoor_Whistles_52 rfl (kHouse k_x1).1 k_x1 (kHouse k_x1).2.2.2.1 ?_
      refine u_iload_n (i := 2) (pc' := 79) dX9_make_78 rfl rfl rfl ?_
      obtain ⟨c6, c7, h⟩ := h
      refine u_iaload (k := x2.toNat) (z := (τ (x1 + 3) x2.toNat)) (pc' := 80) dX9_make_79 rfl (Nat.le_trans (kHouse k_x1).1 (Nat.le_add_right _ _)) (kHouse k_x1).2.2.2.2.2.2.2.2.2.1 c6 c7 (by decide) rfl rfl (fun r8 => ?_)
      refine u_invV (q' := qX9_put) (As := [vI x2, vI 0, vI (τ (x1 + 2) x2.toNat), vI (τ (x1 + 3) x2.toNat)]) (st := []) (pc' := 83) dX9_make_80 rfl gX9_put wm_739 rfl rfl (by decide) kd_78 wm_741 wp_34 rfl (Nat.le_of_ble_eq_true rfl) (M0.mono h (fun v τ9 h => ?_))
      obtain ⟨rfl, h⟩ := h
      show V0 E (d + 1) qX9_make 83 [some (vR 78), some (vR x1), some (vI x2)] [] τ9 Q
      refine u_aload_n (i := 0) (pc' := 84) dX9_make_83 rfl rfl rfl ?_
      refine u_aload_n (i := 1) (pc' := 85) dX9_make_84 rfl rfl rfl ?_
      refine u_getR (a := (x1 + 6)) (pc' := 88) dX9_make_85 rfl fl_TuneDoor_Whistles_59 rfl (kHouse k_x1).1 k_x1 (kHouse k_x1).2.2.2.2.2.2.1 ?_
      refine u_iload_n (i := 2) (pc' := 89) dX9_make_88 rfl rfl rfl ?_
      refine u_invV (q' := qX9_makeRow) (As := [vR (x1 + 6), vI x2]) (st := []) (pc' := 92) dX9_make_89 rfl gX9_makeRow wm_746 rfl rfl (by decide) kd_78 wm_748 wp_35 rfl (Nat.le_of_ble_eq_true rfl) (M0.mono h (fun v τ10 h => ?_))
      obtain ⟨rfl, h⟩ := h
      show V0 E (d + 1) qX9_make 92 [some (vR 78), some (vR x1), some (vI x2)] [] τ10 Q
      refine s_iinc (i := 2) (ls' := [some (vR 78), some (vR x1), some (vI (x2 + 1))]) (pc' := 95) dX9_make_92 rfl rfl (Nat.le_of_ble_eq_true rfl) rfl rfl ?_
      refine u_goto (tgt := 52) dX9_make_95 (by decide) ?_
      exact u_less (ls' := [some (vR 78), some (vR x1), some (vI (x2 + 1))]) ⟨rfl, ⟨rfl, ⟨rfl, trivial⟩⟩⟩ h
set_option maxRecDepth 20000 in
theorem bX9_put_0 {E : mm_Env} {d : Nat} {τ : mm_Mem} {Q : mm_Q0} {a0 : Int} {a1 : Int} {a2 : Int} {a3 : Int} (h : V0 E (d + 1) qX9_put 6 [some (vR 78), some (vI a0), some (vI a1), some (vI a2), some (vI a3), some (vI 0), some (vI 0)] [] τ Q) : V0 E (d + 1) qX9_put 0 [some (vR 78), some (vI a0), some (vI a1), some (vI a2), some (vI a3), none, none] [] τ Q := by
  refine u_iconst (pc' := 1) dX9_put_0 rfl ?_
  refine s_istore (i := 5) (ls' := [some (vR 78), some (vI a0), some (vI a1), some (vI a2), some (vI a3), some (vI 0), none]) (pc' := 3) dX9_put_1 rfl (Nat.le_of_ble_eq_true rfl) rfl rfl ?_
  refine u_iconst (pc' := 4) dX9_put_3 rfl ?_
  refine s_istore (i := 6) (ls' := [some (vR 78), some (vI a0), some (vI a1), some (vI a2), some (vI a3), some (vI 0), some (vI 0)]) (pc' := 6) dX9_put_4 rfl (Nat.le_of_ble_eq_true rfl) rfl rfl ?_
  exact u_less (ls' := [some (vR 78), some (vI a0), some (vI a1), some (vI a2), some (vI a3), some (vI 0), some (vI 0)]) ⟨rfl, ⟨rfl, ⟨rfl, ⟨rfl, ⟨rfl, ⟨rfl, ⟨rfl, trivial⟩⟩⟩⟩⟩⟩⟩ h
theorem mX9_put {E : mm_Env} {d : Nat} {τ : mm_Mem} {Q : mm_Q0} {a0 : Int} {a1 : Int} {a2 : Int} {a3 : Int} (h : V0 E (d + 1) qX9_put 6 [some (vR 78), some (vI a0), some (vI a1), some (vI a2), some (vI a3), some (vI 0), some (vI 0)] [] τ Q) : M0 E (d + 1) qX9_put [vR 78, vI a0, vI a1, vI a2, vI a3] τ Q := M0_of rfl (Nat.le_of_ble_eq_true rfl) [some (vR 78), some (vI a0), some (vI a1), some (vI a2), some (vI a3), none, none] rfl (bX9_put_0  h)
set_option maxRecDepth 20000 in
theorem bX9_put_6 {E : mm_Env} {d : Nat} {τ : mm_Mem} {Q : mm_Q0} {x1 : Int} {x2 : Int} {x3 : Int} {x4 : Int} {x5 : Int} {x6 : Int} (h : inR x6 ∧ (((τ 78 4) ≤ x6 → 0 ≤ x1 ∧ x1 < 3 ∧ 0 ≤ x2 ∧ x2 < 1000 ∧ inR x3 ∧ 0 ≤ x1 ∧ x1 < 3 ∧ 0 ≤ x2 ∧ x2 < 1000 ∧ inR x5 ∧ 0 ≤ x1 ∧ x1 < 3 ∧ 0 ≤ x2 ∧ x2 < 1000 ∧ inR x4 ∧ Q none (wr (wr (wr τ (79 + 1 + x1.toNat) x2.toNat x3) (83 + 1 + x1.toNat) x2.toNat x5) (87 + 1 + x1.toNat) x2.toNat x4)) ∧ (¬ (τ 78 4) ≤ x6 → M0 E d qX9_noteIn [vI x3, vI x6] τ (fun v τ22 => ∃ r23 : Int, v = some (vI r23) ∧ V0 E (d + 1) qX9_put 6 [some (vR 78), some (vI x1), some (vI x2), some (vI x3), some (vI x4), some (vI ((x5 * (τ 78 3)) + r23)), some (vI (x6 + 1))] [] τ22 Q)))) : V0 E (d + 1) qX9_put 6 [some (vR 78), some (vI x1), some (vI x2), some (vI x3), some (vI x4), some (vI x5), some (vI x6)] [] τ Q := by
  refine u_iload (i := 6) (pc' := 8) dX9_put_6 rfl rfl ?_
  refine u_aload_n (i := 0) (pc' := 9) dX9_put_8 rfl rfl rfl ?_
  refine u_getI (z := (τ 78 4)) (pc' := 12) dX9_put_9 rfl fl_TuneDoor_Whistles_42 rfl (by decide) (by decide) kd_78 rfl (fun r1 => ?_)
  obtain ⟨c2, h⟩ := h
  refine u_icmp_ge (tgt := 37) (pc' := 15) dX9_put_12 rfl (by decide) c2 r1 (fun hb => ?_) (fun hb => ?_)
  · have h := h.1 hb
    refine u_aload_n (i := 0) (pc' := 38) dX9_put_37 rfl rfl rfl ?_
    refine u_getR (a := 79) (pc' := 41) dX9_put_38 rfl fl_TuneDoor_Whistles_11 rfl (by decide) kd_78 rfl ?_
    refine u_iload_n (i := 1) (pc' := 42) dX9_put_41 rfl rfl rfl ?_
    obtain ⟨c3, c4, h⟩ := h
    have j5 : x1.toNat < 3 := by omega
    refine u_aaload_A (k := x1.toNat) (a := (79 + 1 + x1.toNat)) (pc' := 43) dX9_put_42 rfl (by decide) kd_79 c3 c4 (by decide) rfl (kWhi (Or.inl rfl) j5).1 ?_
    refine u_iload_n (i := 2) (pc' := 44) dX9_put_43 rfl rfl rfl ?_
    refine u_iload_n (i := 3) (pc' := 45) dX9_put_44 rfl rfl rfl ?_
    obtain ⟨c6, c7, c8, h⟩ := h
    refine u_iastore (k := x2.toNat) (pc' := 46) dX9_put_45 rfl (by omega) (kWhi (Or.inl rfl) j5).2 c6 c7 (by decide) rfl c8 ?_
    refine u_aload_n (i := 0) (pc' := 47) dX9_put_46 rfl rfl rfl ?_
    refine u_getR (a := 83) (pc' := 50) dX9_put_47 rfl fl_TuneDoor_Whistles_16 rfl (by decide) kd_78 rfl ?_
    refine u_iload_n (i := 1) (pc' := 51) dX9_put_50 rfl rfl rfl ?_
    obtain ⟨c9, c10, h⟩ := h
    have j11 : x1.toNat < 3 := by omega
    refine u_aaload_A (k := x1.toNat) (a := (83 + 1 + x1.toNat)) (pc' := 52) dX9_put_51 rfl (by decide) kd_83 c9 c10 (by decide) rfl (kWhi (Or.inr (Or.inl rfl)) j11).1 ?_
    refine u_iload_n (i := 2) (pc' := 53) dX9_put_52 rfl rfl rfl ?_
    refine u_iload (i := 5) (pc' := 55) dX9_put_53 rfl rfl ?_
    obtain ⟨c12, c13, c14, h⟩ := h
    refine u_iastore (k := x2.toNat) (pc' := 56) dX9_put_55 rfl (by omega) (kWhi (Or.inr (Or.inl rfl)) j11).2 c12 c13 (by decide) rfl c14 ?_
    refine u_aload_n (i := 0) (pc' := 57) dX9_put_56 rfl rfl rfl ?_
    refine u_getR (a := 87) (pc' := 60) dX9_put_57 rfl fl_TuneDoor_Whistles_19 rfl (by decide) kd_78 rfl ?_
    refine u_iload_n (i := 1) (pc' := 61) dX9_put_60 rfl rfl rfl ?_
    obtain ⟨c15, c16, h⟩ := h
    have j17 : x1.toNat < 3 := by omega
    refine u_aaload_A (k := x1.toNat) (a := (87 + 1 + x1.toNat)) (pc' := 62) dX9_put_61 rfl (by decide) kd_87 c15 c16 (by decide) rfl (kWhi (Or.inr (Or.inr rfl)) j17).1 ?_
    refine u_iload_n (i := 2) (pc' := 63) dX9_put_62 rfl rfl rfl ?_
    refine u_iload (i := 4) (pc' := 65) dX9_put_63 rfl rfl ?_
    obtain ⟨c18, c19, c20, h⟩ := h
    refine u_iastore (k := x2.toNat) (pc' := 66) dX9_put_65 rfl (by omega) (kWhi (Or.inr (Or.inr rfl)) j17).2 c18 c19 (by decide) rfl c20 ?_
    exact u_ret dX9_put_66 rfl h
  · have h := h.2 hb
    refine u_iload (i := 5) (pc' := 17) dX9_put_15 rfl rfl ?_
    refine u_aload_n (i := 0) (pc' := 18) dX9_put_17 rfl rfl rfl ?_
    refine u_getI (z := (τ 78 3)) (pc' := 21) dX9_put_18 rfl fl_TuneDoor_Whistles_38 rfl (by decide) (by decide) kd_78 rfl (fun r21 => ?_)
    refine u_imul (pc' := 22) dX9_put_21 rfl ?_
    refine u_iload_n (i := 3) (pc' := 23) dX9_put_22 rfl rfl rfl ?_
    refine u_iload (i := 6) (pc' := 25) dX9_put_23 rfl rfl ?_
    refine u_invS (q' := qX9_noteIn) (As := [vI x3, vI x6]) (st := [vI (x5 * (τ 78 3))]) (pc' := 28) dX9_put_25 rfl gX9_noteIn wm_743 wm_744 rfl (Nat.le_of_ble_eq_true rfl) (M0.mono h (fun v τ22 h => ?_))
    obtain ⟨r23, rfl, h⟩ := h
    show V0 E (d + 1) qX9_put 28 [some (vR 78), some (vI x1), some (vI x2), some (vI x3), some (vI x4), some (vI x5), some (vI x6)] [vI r23, vI (x5 * (τ 78 3))] τ22 Q
    refine u_iadd (pc' := 29) dX9_put_28 rfl ?_
    refine s_istore (i := 5) (ls' := [some (vR 78), some (vI x1), some (vI x2), some (vI x3), some (vI x4), some (vI ((x5 * (τ 78 3)) + r23)), some (vI x6)]) (pc' := 31) dX9_put_29 rfl (Nat.le_of_ble_eq_true rfl) rfl rfl ?_
    refine s_iinc (i := 6) (ls' := [some (vR 78), some (vI x1), some (vI x2), some (vI x3), some (vI x4), some (vI ((x5 * (τ 78 3)) + r23)), some (vI (x6 + 1))]) (pc' := 34) dX9_put_31 rfl rfl (Nat.le_of_ble_eq_true rfl) rfl rfl ?_
    refine u_goto (tgt := 6) dX9_put_34 (by decide) ?_
    exact u_less (ls' := [some (vR 78), some (vI x1), some (vI x2), some (vI x3), some (vI x4), some (vI ((x5 * (τ 78 3)) + r23)), some (vI (x6 + 1))]) ⟨rfl, ⟨rfl, ⟨rfl, ⟨rfl, ⟨rfl, ⟨rfl, ⟨rfl, trivial⟩⟩⟩⟩⟩⟩⟩ h
set_option maxRecDepth 20000 in
theorem bX9_noteIn_0 {E : mm_Env} {d : Nat} {τ : mm_Mem} {Q : mm_Q0} {a0 : Int} {a1 : Int} (h : Q (some (vI (mm_and (mm_shr a0 (3 * a1)) 7))) τ) : V0 E d qX9_noteIn 0 [some (vI a0), some (vI a1)] [] τ Q := by
  refine u_iload_n (i := 0) (pc' := 1) dX9_noteIn_0 rfl rfl rfl ?_
  refine u_iconst (pc' := 2) dX9_noteIn_1 rfl ?_
  refine u_iload_n (i := 1) (pc' := 3) dX9_noteIn_2 rfl rfl rfl ?_
  refine u_imul (pc' := 4) dX9_noteIn_3 rfl ?_
  refine u_ishr (pc' := 5) dX9_noteIn_4 rfl ?_
  refine u_bipush (pc' := 7) dX9_noteIn_5 rfl (by decide) ?_
  refine u_iand (pc' := 8) dX9_noteIn_7 rfl ?_
  exact u_iret dX9_noteIn_8 rfl h
theorem mX9_noteIn {E : mm_Env} {d : Nat} {τ : mm_Mem} {Q : mm_Q0} {a0 : Int} {a1 : Int} (h : Q (some (vI (mm_and (mm_shr a0 (3 * a1)) 7))) τ) : M0 E d qX9_noteIn [vI a0, vI a1] τ Q := M0_of rfl (Nat.le_of_ble_eq_true rfl) [some (vI a0), some (vI a1)] rfl (bX9_noteIn_0  h)
set_option maxRecDepth 20000 in
theorem bX9_makeRow_0 {E : mm_Env} {d : Nat} {τ : mm_Mem} {Q : mm_Q0} {a0 : Nat} {a1 : Int} (k_a0 : KD a0 = some (.inr 5)) (h : V0 E (d + 1) qX9_makeRow 5 [some (vR 78), some (vR a0), some (vI a1), some (vI 0), some (vI 1)] [] τ Q) : V0 E (d + 1) qX9_makeRow 0 [some (vR 78), some (vR a0), some (vI a1), none, none] [] τ Q := by
  refine u_iconst (pc' := 1) dX9_makeRow_0 rfl ?_
  refine s_istore_n (i := 3) (ls' := [some (vR 78), some (vR a0), some (vI a1), some (vI 0), none]) (pc' := 2) dX9_makeRow_1 rfl rfl (Nat.le_of_ble_eq_true rfl) rfl rfl ?_
  refine u_iconst (pc' := 3) dX9_makeRow_2 rfl ?_
  refine s_istore (i := 4) (ls' := [some (vR 78), some (vR a0), some (vI a1), some (vI 0), some (vI 1)]) (pc' := 5) dX9_makeRow_3 rfl (Nat.le_of_ble_eq_true rfl) rfl rfl ?_
  exact u_less (ls' := [some (vR 78), some (vR a0), some (vI a1), some (vI 0), some (vI 1)]) ⟨rfl, ⟨rfl, ⟨rfl, ⟨rfl, ⟨rfl, trivial⟩⟩⟩⟩⟩ h
theorem mX9_makeRow {E : mm_Env} {d : Nat} {τ : mm_Mem} {Q : mm_Q0} {a0 : Nat} {a1 : Int} (k_a0 : KD a0 = some (.inr 5)) (h : V0 E (d + 1) qX9_makeRow 5 [some (vR 78), some (vR a0), some (vI a1), some (vI 0), some (vI 1)] [] τ Q) : M0 E (d + 1) qX9_makeRow [vR 78, vR a0, vI a1] τ Q := M0_of rfl (Nat.le_of_ble_eq_true rfl) [some (vR 78), some (vR a0), some (vI a1), none, none] rfl (bX9_makeRow_0 k_a0 h)
set_option maxRecDepth 20000 in
theorem bX9_makeRow_5 {E : mm_Env} {d : Nat} {τ : mm_Mem} {Q : mm_Q0} {x1 : Nat} {x2 : Int} {x3 : Int} {x4 : Int} (k_x1 : KD x1 = some (.inr 5)) (h : inR x4 ∧ ((1000 ≤ x4 → Q none τ) ∧ (¬ 1000 ≤ x4 → M0 E d qX9_makeNext [vR 78, vR x1, vI x2, vI x4] τ (fun v τ2 => v = none ∧ M0 E d qX9_isAlike [vR 78, vI x2, vI x3, vI x4] τ2 (fun v τ3 => ∃ b4 : Bool, v = some (vB b4) ∧ ((b4 = false → inR ((2 * x3) + 1) ∧ ((x4 ≠ ((2 * x3) + 1) → V0 E (d + 1) qX9_makeRow 5 [some (vR 78), some (vR x1), some (vI x2), some (vI x3), some (vI (x4 + 1))] [] τ3 Q) ∧ (x4 = ((2 * x3) + 1) → V0 E (d + 1) qX9_makeRow 5 [some (vR 78), some (vR x1), some (vI x2), some (vI x4), some (vI (x4 + 1))] [] τ3 Q))) ∧ (b4 = true → M0 E d qX9_repeatRow [vR 78, vI x2, vI x4, vI (x4 - x3)] τ3 (fun v τ6 => v = none ∧ Q none τ6)))))))) : V0 E (d + 1) qX9_makeRow 5 [some (vR 78), some (vR x1), some (vI x2), some (vI x3), some (vI x4)] [] τ Q := by
  refine u_iload (i := 4) (pc' := 7) dX9_makeRow_5 rfl rfl ?_
  refine u_sipush (pc' := 10) dX9_makeRow_7 rfl (by decide) ?_
  obtain ⟨c1, h⟩ := h
  refine u_icmp_ge (tgt := 63) (pc' := 13) dX9_makeRow_10 rfl (by decide) c1 ⟨by decide, by decide⟩ (fun hb => ?_) (fun hb => ?_)
  · have h := h.1 hb
    exact u_ret dX9_makeRow_63 rfl h
  · have h := h.2 hb
    refine u_aload_n (i := 0) (pc' := 14) dX9_makeRow_13 rfl rfl rfl ?_
    refine u_aload_n (i := 1) (pc' := 15) dX9_makeRow_14 rfl rfl rfl ?_
    refine u_iload_n (i := 2) (pc' := 16) dX9_makeRow_15 rfl rfl rfl ?_
    refine u_iload (i := 4) (pc' := 18) dX9_makeRow_16 rfl rfl ?_
    refine u_invV (q' := qX9_makeNext) (As := [vR x1, vI x2, vI x4]) (st := []) (pc' := 21) dX9_makeRow_18 rfl gX9_makeNext wm_750 rfl rfl (by decide) kd_78 wm_752 wp_36 rfl (Nat.le_of_ble_eq_true rfl) (M0.mono h (fun v τ2 h => ?_))
    obtain ⟨rfl, h⟩ := h
    show V0 E (d + 1) qX9_makeRow 21 [some (vR 78), some (vR x1), some (vI x2), some (vI x3), some (vI x4)] [] τ2 Q
    refine u_aload_n (i := 0) (pc' := 22) dX9_makeRow_21 rfl rfl rfl ?_
    refine u_iload_n (i := 2) (pc' := 23) dX9_makeRow_22 rfl rfl rfl ?_
    refine u_iload_n (i := 3) (pc' := 24) dX9_makeRow_23 rfl rfl rfl ?_
    refine u_iload (i := 4) (pc' := 26) dX9_makeRow_24 rfl rfl ?_
    refine u_invV (q' := qX9_isAlike) (As := [vI x2, vI x3, vI x4]) (st := []) (pc' := 29) dX9_makeRow_26 rfl gX9_isAlike wm_805 rfl rfl (by decide) kd_78 wm_807 wp_40 rfl (Nat.le_of_ble_eq_true rfl) (M0.mono h (fun v τ3 h => ?_))
    obtain ⟨b4, rfl, h⟩ := h
    show V0 E (d + 1) qX9_makeRow 29 [some (vR 78), some (vR x1), some (vI x2), some (vI x3), some (vI x4)] [vB b4] τ3 Q
    refine u_if_eq (tgt := 44) (pc' := 32) dX9_makeRow_29 rfl (by decide) (bI_R _) (fun hb => ?_) (fun hb => ?_)
    · have h := h.1 (bI_0.mp hb)
      refine u_iload (i := 4) (pc' := 46) dX9_makeRow_44 rfl rfl ?_
      refine u_iconst (pc' := 47) dX9_makeRow_46 rfl ?_
      refine u_iload_n (i := 3) (pc' := 48) dX9_makeRow_47 rfl rfl rfl ?_
      refine u_imul (pc' := 49) dX9_makeRow_48 rfl ?_
      refine u_iconst (pc' := 50) dX9_makeRow_49 rfl ?_
      refine u_iadd (pc' := 51) dX9_makeRow_50 rfl ?_
      obtain ⟨c5, h⟩ := h
      refine u_icmp_ne (tgt := 57) (pc' := 54) dX9_makeRow_51 rfl (by decide) c1 c5 (fun hb => ?_) (fun hb => ?_)
      · have h := h.1 hb
        refine s_iinc (i := 4) (ls' := [some (vR 78), some (vR x1), some (vI x2), some (vI x3), some (vI (x4 + 1))]) (pc' := 60) dX9_makeRow_57 rfl rfl (Nat.le_of_ble_eq_true rfl) rfl rfl ?_
        refine u_goto (tgt := 5) dX9_makeRow_60 (by decide) ?_
        exact u_less (ls' := [some (vR 78), some (vR x1), some (vI x2), some (vI x3), some (vI (x4 + 1))]) ⟨rfl, ⟨rfl, ⟨rfl, ⟨rfl, ⟨rfl, trivial⟩⟩⟩⟩⟩ h
      · have h := h.2 hb
        refine u_iload (i := 4) (pc' := 56) dX9_makeRow_54 rfl rfl ?_
        refine s_istore_n (i := 3) (ls' := [some (vR 78), some (vR x1), some (vI x2), some (vI x4), some (vI x4)]) (pc' := 57) dX9_makeRow_56 rfl rfl (Nat.le_of_ble_eq_true rfl) rfl rfl ?_
        refine s_iinc (i := 4) (ls' := [some (vR 78), some (vR x1), some (vI x2), some (vI x4), some (vI (x4 + 1))]) (pc' := 60) dX9_makeRow_57 rfl rfl (Nat.le_of_ble_eq_true rfl) rfl rfl ?_
        refine u_goto (tgt := 5) dX9_makeRow_60 (by decide) ?_
        exact u_less (ls' := [some (vR 78), some (vR x1), some (vI x2), some (vI x4), some (vI (x4 + 1))]) ⟨rfl, ⟨rfl, ⟨rfl, ⟨rfl, ⟨rfl, trivial⟩⟩⟩⟩⟩ h
    · have h := h.2 (bI_n0.mp hb)
      refine u_aload_n (i := 0) (pc' := 33) dX9_makeRow_32 rfl rfl rfl ?_
      refine u_iload_n (i := 2) (pc' := 34) dX9_makeRow_33 rfl rfl rfl ?_
      refine u_iload (i := 4) (pc' := 36) dX9_makeRow_34 rfl rfl ?_
      refine u_iload (i := 4) (pc' := 38) dX9_makeRow_36 rfl rfl ?_
      refine u_iload_n (i := 3) (pc' := 39) dX9_makeRow_38 rfl rfl rfl ?_
      refine u_isub (pc' := 40) dX9_makeRow_39 rfl ?_
      refine u_invV (q' := qX9_repeatRow) (As := [vI x2, vI x4, vI (x4 - x3)]) (st := []) (pc' := 43) dX9_makeRow_40 rfl gX9_repeatRow wm_809 rfl rfl (by decide) kd_78 wm_811 wp_41 rfl (Nat.le_of_ble_eq_true rfl) (M0.mono h (fun v τ6 h => ?_))
      obtain ⟨rfl, h⟩ := h
      show V0 E (d + 1) qX9_makeRow 43 [some (vR 78), some (vR x1), some (vI x2), some (vI x3), some (vI x4)] [] τ6 Q
      exact u_ret dX9_makeRow_43 rfl h
set_option maxRecDepth 20000 in
theorem bX9_makeNext_0 {E : mm_Env} {d : Nat} {τ : mm_Mem} {Q : mm_Q0} {a0 : Nat} {a1 : Int} {a2 : Int} (k_a0 : KD a0 = some (.inr 5)) (h : 0 ≤ a1 ∧ a1 < 3 ∧ 0 ≤ (a2 - 1) ∧ (a2 - 1) < 1000 ∧ 0 ≤ a1 ∧ a1 < 3 ∧ 0 ≤ (a2 - 1) ∧ (a2 - 1) < 1000 ∧ M0 E d qX9_sumOf [vI (τ (79 + 1 + a1.toNat) (a2 - 1).toNat), vI (τ 78 4)] τ (fun v τ14 => ∃ r15 : Int, v = some (vI r15) ∧ M0 E d qX9_noteIn [vI (τ (79 + 1 + a1.toNat) (a2 - 1).toNat), vI 0] τ14 (fun v τ16 => ∃ r17 : Int, v = some (vI r17) ∧ M0 E d qX9_noteIn [vI (τ (79 + 1 + a1.toNat) (a2 - 1).toNat), vI ((τ16 78 4) - 1)] τ16 (fun v τ19 => ∃ r20 : Int, v = some (vI r20) ∧ M0 E d qX5_tell [vR a0, vI r15, vI r17, vI r20, vI (τ (87 + 1 + a1.toNat) (a2 - 1).toNat)] τ19 (fun v τ21 => v = none ∧ M0 E d qX5_point [vR a0, vI 0, vI 0] τ21 (fun v τ22 => v = none ∧ M0 E d qX5_choose [vR a0, vI 0, vI 0] τ22 (fun v τ23 => ∃ r24 : Int, v = some (vI r24) ∧ M0 E d qX10_modulo [vI r24, vI (τ23 78 4)] τ23 (fun v τ26 => ∃ r27 : Int, v = some (vI r27) ∧ M0 E d qX9_noteIn [vI (τ (79 + 1 + a1.toNat) (a2 - 1).toNat), vI r27] τ26 (fun v τ28 => ∃ r29 : Int, v = some (vI r29) ∧ M0 E d qX5_point [vR a0, vI r29, vI r27] τ28 (fun v τ30 => v = none ∧ M0 E d qX5_choose [vR a0, vI 1, vI (r29 + 1)] τ30 (fun v τ31 => ∃ r32 : Int, v = some (vI r32) ∧ M0 E d qX10_modulo [vI r32, vI (τ31 78 3)] τ31 (fun v τ34 => ∃ r35 : Int, v = some (vI r35) ∧ M0 E d qX5_point [vR a0, vI 0, vI 0] τ34 (fun v τ36 => v = none ∧ M0 E d qX9_withNote [vI (τ (79 + 1 + a1.toNat) (a2 - 1).toNat), vI r27, vI r35] τ36 (fun v τ37 => ∃ r38 : Int, v = some (vI r38) ∧ M0 E d qX5_choose [vR a0, vI 2, vI (τ (87 + 1 + a1.toNat) (a2 - 1).toNat)] τ37 (fun v τ39 => ∃ r40 : Int, v = some (vI r40) ∧ M0 E d qX10_modulo [vI r40, vI 100] τ39 (fun v τ41 => ∃ r42 : Int, v = some (vI r42) ∧ M0 E d qX9_put [vR 78, vI a1, vI a2, vI r38, vI r42] τ41 (fun v τ43 => v = none ∧ Q none τ43))))))))))))))))) : V0 E (d + 1) qX9_makeNext 0 [some (vR 78), some (vR a0), some (vI a1), some (vI a2), none, none, none, none, none] [] τ Q := by
  refine u_aload_n (i := 0) (pc' := 1) dX9_makeNext_0 rfl rfl rfl ?_
  refine u_getR (a := 79) (pc' := 4) dX9_makeNext_1 rfl fl_TuneDoor_Whistles_11 rfl (by decide) kd_78 rfl ?_
  refine u_iload_n (i := 2) (pc' := 5) dX9_makeNext_4 rfl rfl rfl ?_
  obtain ⟨c1, c2, h⟩ := h
  have j3 : a1.toNat < 3 := by omega
  refine u_aaload_A (k := a1.toNat) (a := (79 + 1 + a1.toNat)) (pc' := 6) dX9_makeNext_5 rfl (by decide) kd_79 c1 c2 (by decide) rfl (kWhi (Or.inl rfl) j3).1 ?_
  refine u_iload_n (i := 3) (pc' := 7) dX9_makeNext_6 rfl rfl rfl ?_
  refine u_iconst (pc' := 8) dX9_makeNext_7 rfl ?_
  refine u_isub (pc' := 9) dX9_makeNext_8 rfl ?_
  obtain ⟨c4, c5, h⟩ := h
  refine u_iaload (k := (a2 - 1).toNat) (z := (τ (79 + 1 + a1.toNat) (a2 - 1).toNat)) (pc' := 10) dX9_makeNext_9 rfl (by omega) (kWhi (Or.inl rfl) j3).2 c4 c5 (by decide) rfl rfl (fun r6 => ?_)
  refine s_istore (i := 4) (ls' := [some (vR 78), some (vR a0), some (vI a1), some (vI a2), some (vI (τ (79 + 1 + a1.toNat) (a2 - 1).toNat)), none, none, none, none]) (pc' := 12) dX9_makeNext_10 rfl (Nat.le_of_ble_eq_true rfl) rfl rfl ?_
  refine u_aload_n (i := 0) (pc' := 13) dX9_makeNext_12 rfl rfl rfl ?_
  refine u_getR (a := 87) (pc' := 16) dX9_makeNext_13 rfl fl_TuneDoor_Whistles_19 rfl (by decide) kd_78 rfl ?_
  refine u_iload_n (i := 2) (pc' := 17) dX9_makeNext_16 rfl rfl rfl ?_
  obtain ⟨c7, c8, h⟩ := h
  have j9 : a1.toNat < 3 := by omega
  refine u_aaload_A (k := a1.toNat) (a := (87 + 1 + a1.toNat)) (pc' := 18) dX9_makeNext_17 rfl (by decide) kd_87 c7 c8 (by decide) rfl (kWhi (Or.inr (Or.inr rfl)) j9).1 ?_
  refine u_iload_n (i := 3) (pc' := 19) dX9_makeNext_18 rfl rfl rfl ?_
  refine u_iconst (pc' := 20) dX9_makeNext_19 rfl ?_
  refine u_isub (pc' := 21) dX9_makeNext_20 rfl ?_
  obtain ⟨c10, c11, h⟩ := h
  refine u_iaload (k := (a2 - 1).toNat) (z := (τ (87 + 1 + a1.toNat) (a2 - 1).toNat)) (pc' := 22) dX9_makeNext_21 rfl (by omega) (kWhi (Or.inr (Or.inr rfl)) j9).2 c10 c11 (by decide) rfl rfl (fun r12 => ?_)
  refine s_istore (i := 5) (ls' := [some (vR 78), some (vR a0), some (vI a1), some (vI a2), some (vI (τ (79 + 1 + a1.toNat) (a2 - 1).toNat)), some (vI (τ (87 + 1 + a1.toNat) (a2 - 1).toNat)), none, none, none]) (pc' := 24) dX9_makeNext_22 rfl (Nat.le_of_ble_eq_true rfl) rfl rfl ?_
  refine u_aload_n (i := 1) (pc' := 25) dX9_makeNext_24 rfl rfl rfl ?_
  refine u_iload (i := 4) (pc' := 27) dX9_makeNext_25 rfl rfl ?_
  refine u_aload_n (i := 0) (pc' := 28) dX9_makeNext_27 rfl rfl rfl ?_
  refine u_getI (z := (τ 78 4)) (pc' := 31) dX9_makeNext_28 rfl fl_TuneDoor_Whistles_42 rfl (by decide) (by decide) kd_78 rfl (fun r13 => ?_)
  refine u_invS (q' := qX9_sumOf) (As := [vI (τ (79 + 1 + a1.toNat) (a2 - 1).toNat), vI (τ 78 4)]) (st := [vR a0]) (pc' := 34) dX9_makeNext_31 rfl gX9_sumOf wm_754 wm_755 rfl (Nat.le_of_ble_eq_true rfl) (M0.mono h (fun v τ14 h => ?_))
  obtain ⟨r15, rfl, h⟩ := h
  show V0 E (d + 1) qX9_makeNext 34 [some (vR 78), some (vR a0), some (vI a1), some (vI a2), some (vI (τ (79 + 1 + a1.toNat) (a2 - 1).toNat)), some (vI (τ (87 + 1 + a1.toNat) (a2 - 1).toNat)), none, none, none] [vI r15, vR a0] τ14 Q
  refine u_iload (i := 4) (pc' := 36) dX9_makeNext_34 rfl rfl ?_
  refine u_iconst (pc' := 37) dX9_makeNext_36 rfl ?_
  refine u_invS (q' := qX9_noteIn) (As := [vI (τ (79 + 1 + a1.toNat) (a2 - 1).toNat), vI 0]) (st := [vI r15, vR a0]) (pc' := 40) dX9_makeNext_37 rfl gX9_noteIn wm_743 wm_744 rfl (Nat.le_of_ble_eq_true rfl) (M0.mono h (fun v τ16 h => ?_))
  obtain ⟨r17, rfl, h⟩ := h
  show V0 E (d + 1) qX9_makeNext 40 [some (vR 78), some (vR a0), some (vI a1), some (vI a2), some (vI (τ (79 + 1 + a1.toNat) (a2 - 1).toNat)), some (vI (τ (87 + 1 + a1.toNat) (a2 - 1).toNat)), none, none, none] [vI r17, vI r15, vR a0] τ16 Q
  refine u_iload (i := 4) (pc' := 42) dX9_makeNext_40 rfl rfl ?_
  refine u_aload_n (i := 0) (pc' := 43) dX9_makeNext_42 rfl rfl rfl ?_
  refine u_getI (z := (τ16 78 4)) (pc' := 46) dX9_makeNext_43 rfl fl_TuneDoor_Whistles_42 rfl (by decide) (by decide) kd_78 rfl (fun r18 => ?_)
  refine u_iconst (pc' := 47) dX9_makeNext_46 rfl ?_
  refine u_isub (pc' := 48) dX9_makeNext_47 rfl ?_
  refine u_invS (q' := qX9_noteIn) (As := [vI (τ (79 + 1 + a1.toNat) (a2 - 1).toNat), vI ((τ16 78 4) - 1)]) (st := [vI r17, vI r15, vR a0]) (pc' := 51) dX9_makeNext_48 rfl gX9_noteIn wm_743 wm_744 rfl (Nat.le_of_ble_eq_true rfl) (M0.mono h (fun v τ19 h => ?_))
  obtain ⟨r20, rfl, h⟩ := h
  show V0 E (d + 1) qX9_makeNext 51 [some (vR 78), some (vR a0), some (vI a1), some (vI a2), some (vI (τ (79 + 1 + a1.toNat) (a2 - 1).toNat)), some (vI (τ (87 + 1 + a1.toNat) (a2 - 1).toNat)), none, none, none] [vI r20, vI r17, vI r15, vR a0] τ19 Q
  refine u_iload (i := 5) (pc' := 53) dX9_makeNext_51 rfl rfl ?_
  refine u_invV (q' := qX5_tell) (As := [vI r15, vI r17, vI r20, vI (τ (87 + 1 + a1.toNat) (a2 - 1).toNat)]) (st := []) (pc' := 56) dX9_makeNext_53 rfl gX5_tell wm_757 rfl rfl (kRules k_a0).1 k_a0 wm_758 wm_759 rfl (Nat.le_of_ble_eq_true rfl) (M0.mono h (fun v τ21 h => ?_))
  obtain ⟨rfl, h⟩ := h
  show V0 E (d + 1) qX9_makeNext 56 [some (vR 78), some (vR a0), some (vI a1), some (vI a2), some (vI (τ (79 + 1 + a1.toNat) (a2 - 1).toNat)), some (vI (τ (87 + 1 + a1.toNat) (a2 - 1).toNat)), none, none, none] [] τ21 Q
  refine u_aload_n (i := 1) (pc' := 57) dX9_makeNext_56 rfl rfl rfl ?_
  refine u_iconst (pc' := 58) dX9_makeNext_57 rfl ?_
  refine u_iconst (pc' := 59) dX9_makeNext_58 rfl ?_
  refine u_invV (q' := qX5_point) (As := [vI 0, vI 0]) (st := []) (pc' := 62) dX9_makeNext_59 rfl gX5_point wm_761 rfl rfl (kRules k_a0).1 k_a0 wm_762 wm_763 rfl (Nat.le_of_ble_eq_true rfl) (M0.mono h (fun v τ22 h => ?_))
  obtain ⟨rfl, h⟩ := h
  show V0 E (d + 1) qX9_makeNext 62 [some (vR 78), some (vR a0), some (vI a1), some (vI a2), some (vI (τ (79 + 1 + a1.toNat) (a2 - 1).toNat)), some (vI (τ (87 + 1 + a1.toNat) (a2 - 1).toNat)), none, none, none] [] τ22 Q
  refine u_aload_n (i := 1) (pc' := 63) dX9_makeNext_62 rfl rfl rfl ?_
  refine u_iconst (pc' := 64) dX9_makeNext_63 rfl ?_
  refine u_iconst (pc' := 65) dX9_makeNext_64 rfl ?_
  refine u_invV (q' := qX5_choose) (As := [vI 0, vI 0]) (st := []) (pc' := 68) dX9_makeNext_65 rfl gX5_choose wm_765 rfl rfl (kRules k_a0).1 k_a0 wm_766 wm_767 rfl (Nat.le_of_ble_eq_true rfl) (M0.mono h (fun v τ23 h => ?_))
  obtain ⟨r24, rfl, h⟩ := h
  show V0 E (d + 1) qX9_makeNext 68 [some (vR 78), some (vR a0), some (vI a1), some (vI a2), some (vI (τ (79 + 1 + a1.toNat) (a2 - 1).toNat)), some (vI (τ (87 + 1 + a1.toNat) (a2 - 1).toNat)), none, none, none] [vI r24] τ23 Q
  refine u_aload_n (i := 0) (pc' := 69) dX9_makeNext_68 rfl rfl rfl ?_
  refine u_getI (z := (τ23 78 4)) (pc' := 72) dX9_makeNext_69 rfl fl_TuneDoor_Whistles_42 rfl (by decide) (by decide) kd_78 rfl (fun r25 => ?_)
  refine u_invSN (q' := qX10_modulo) (As := [vI r24, vI (τ23 78 4)]) (st := []) (pc' := 75) dX9_makeNext_72 rfl gX10_modulo wm_798 wm_799 rfl (Nat.le_of_ble_eq_true rfl) (M0.mono h (fun v τ26 h => ?_))
  obtain ⟨r27, rfl, h⟩ := h
  show V0 E (d + 1) qX9_makeNext 75 [some (vR 78), some (vR a0), some (vI a1), some (vI a2), some (vI (τ (79 + 1 + a1.toNat) (a2 - 1).toNat)), some (vI (τ (87 + 1 + a1.toNat) (a2 - 1).toNat)), none, none, none] [vI r27] τ26 Q
  refine s_istore (i := 6) (ls' := [some (vR 78), some (vR a0), some (vI a1), some (vI a2), some (vI (τ (79 + 1 + a1.toNat) (a2 - 1).toNat)), some (vI (τ (87 + 1 + a1.toNat) (a2 - 1).toNat)), some (vI r27), none, none]) (pc' := 77) dX9_makeNext_75 rfl (Nat.le_of_ble_eq_true rfl) rfl rfl ?_
  refine u_iload (i := 4) (pc' := 79) dX9_makeNext_77 rfl rfl ?_
  refine u_iload (i := 6) (pc' := 81) dX9_makeNext_79 rfl rfl ?_
  refine u_invS (q' := qX9_noteIn) (As := [vI (τ (79 + 1 + a1.toNat) (a2 - 1).toNat), vI r27]) (st := []) (pc' := 84) dX9_makeNext_81 rfl gX9_noteIn wm_743 wm_744 rfl (Nat.le_of_ble_eq_true rfl) (M0.mono h (fun v τ28 h => ?_))
  obtain ⟨r29, rfl, h⟩ := h
  show V0 E (d + 1) qX9_makeNext 84 [some (vR 78), some (vR a0), some (vI a1), some (vI a2), some (vI (τ (79 + 1 + a1.toNat) (a2 - 1).toNat)), some (vI (τ (87 + 1 + a1.toNat) (a2 - 1).toNat)), some (vI r27), none, none] [vI r29] τ28 Q
  refine s_istore (i := 7) (ls' := [some (vR 78), some (vR a0), some (vI a1), some (vI a2), some (vI (τ (79 + 1 + a1.toNat) (a2 - 1).toNat)), some (vI (τ (87 + 1 + a1.toNat) (a2 - 1).toNat)), some (vI r27), some (vI r29), none]) (pc' := 86) dX9_makeNext_84 rfl (Nat.le_of_ble_eq_true rfl) rfl rfl ?_
  refine u_aload_n (i := 1) (pc' := 87) dX9_makeNext_86 rfl rfl rfl ?_
  refine u_iload (i := 7) (pc' := 89) dX9_makeNext_87 rfl rfl ?_
  refine u_iload (i := 6) (pc' := 91) dX9_makeNext_89 rfl rfl ?_
  refine u_invV (q' := qX5_point) (As := [vI r29, vI r27]) (st := []) (pc' := 94) dX9_makeNext_91 rfl gX5_point wm_761 rfl rfl (kRules k_a0).1 k_a0 wm_762 wm_763 rfl (Nat.le_of_ble_eq_true rfl) (M0.mono h (fun v τ30 h => ?_))
  obtain ⟨rfl, h⟩ := h
  show V0 E (d + 1) qX9_makeNext 94 [some (vR 78), some (vR a0), some (vI a1), some (vI a2), some (vI (τ (79 + 1 + a1.toNat) (a2 - 1).toNat)), some (vI (τ (87 + 1 + a1.toNat) (a2 - 1).toNat)), some (vI r27), some (vI r29), none] [] τ30 Q
  refine u_aload_n (i := 1) (pc' := 95) dX9_makeNext_94 rfl rfl rfl ?_
  refine u_iconst (pc' := 96) dX9_makeNext_95 rfl ?_
  refine u_iload (i := 7) (pc' := 98) dX9_makeNext_96 rfl rfl ?_
  refine u_iconst (pc' := 99) dX9_makeNext_98 rfl ?_
  refine u_iadd (pc' := 100) dX9_makeNext_99 rfl ?_
  refine u_invV (q' := qX5_choose) (As := [vI 1, vI (r29 + 1)]) (st := []) (pc' := 103) dX9_makeNext_100 rfl gX5_choose wm_765 rfl rfl (kRules k_a0).1 k_a0 wm_766 wm_767 rfl (Nat.le_of_ble_eq_true rfl) (M0.mono h (fun v τ31 h => ?_))
  obtain ⟨r32, rfl, h⟩ := h
  show V0 E (d + 1) qX9_makeNext 103 [some (vR 78), some (vR a0), some (vI a1), some (vI a2), some (vI (τ (79 + 1 + a1.toNat) (a2 - 1).toNat)), some (vI (τ (87 + 1 + a1.toNat) (a2 - 1).toNat)), some (vI r27), some (vI r29), none] [vI r32] τ31 Q
  refine u_aload_n (i := 0) (pc' := 104) dX9_makeNext_103 rfl rfl rfl ?_
  refine u_getI (z := (τ31 78 3)) (pc' := 107) dX9_makeNext_104 rfl fl_TuneDoor_Whistles_38 rfl (by decide) (by decide) kd_78 rfl (fun r33 => ?_)
  refine u_invSN (q' := qX10_modulo) (As := [vI r32, vI (τ31 78 3)]) (st := []) (pc' := 110) dX9_makeNext_107 rfl gX10_modulo wm_798 wm_799 rfl (Nat.le_of_ble_eq_true rfl) (M0.mono h (fun v τ34 h => ?_))
  obtain ⟨r35, rfl, h⟩ := h
  show V0 E (d + 1) qX9_makeNext 110 [some (vR 78), some (vR a0), some (vI a1), some (vI a2), some (vI (τ (79 + 1 + a1.toNat) (a2 - 1).toNat)), some (vI (τ (87 + 1 + a1.toNat) (a2 - 1).toNat)), some (vI r27), some (vI r29), none] [vI r35] τ34 Q
  refine s_istore (i := 8) (ls' := [some (vR 78), some (vR a0), some (vI a1), some (vI a2), some (vI (τ (79 + 1 + a1.toNat) (a2 - 1).toNat)), some (vI (τ (87 + 1 + a1.toNat) (a2 - 1).toNat)), some (vI r27), some (vI r29), some (vI r35)]) (pc' := 112) dX9_makeNext_110 rfl (Nat.le_of_ble_eq_true rfl) rfl rfl ?_
  refine u_aload_n (i := 1) (pc' := 113) dX9_makeNext_112 rfl rfl rfl ?_
  refine u_iconst (pc' := 114) dX9_makeNext_113 rfl ?_
  refine u_iconst (pc' := 115) dX9_makeNext_114 rfl ?_
  refine u_invV (q' := qX5_point) (As := [vI 0, vI 0]) (st := []) (pc' := 118) dX9_makeNext_115 rfl gX5_point wm_761 rfl rfl (kRules k_a0).1 k_a0 wm_762 wm_763 rfl (Nat.le_of_ble_eq_true rfl) (M0.mono h (fun v τ36 h => ?_))
  obtain ⟨rfl, h⟩ := h
  show V0 E (d + 1) qX9_makeNext 118 [some (vR 78), some (vR a0), some (vI a1), some (vI a2), some (vI (τ (79 + 1 + a1.toNat) (a2 - 1).toNat)), some (vI (τ (87 + 1 + a1.toNat) (a2 - 1).toNat)), some (vI r27), some (vI r29), some (vI r35)] [] τ36 Q
  refine u_aload_n (i := 0) (pc' := 119) dX9_makeNext_118 rfl rfl rfl ?_
  refine u_iload_n (i := 2) (pc' := 120) dX9_makeNext_119 rfl rfl rfl ?_
  refine u_iload_n (i := 3) (pc' := 121) dX9_makeNext_120 rfl rfl rfl ?_
  refine u_iload (i := 4) (pc' := 123) dX9_makeNext_121 rfl rfl ?_
  refine u_iload (i := 6) (pc' := 125) dX9_makeNext_123 rfl rfl ?_
  refine u_iload (i := 8) (pc' := 127) dX9_makeNext_125 rfl rfl ?_
  refine u_invS (q' := qX9_withNote) (As := [vI (τ (79 + 1 + a1.toNat) (a2 - 1).toNat), vI r27, vI r35]) (st := [vI a2, vI a1, vR 78]) (pc' := 130) dX9_makeNext_127 rfl gX9_withNote wm_804 wm_630 rfl (Nat.le_of_ble_eq_true rfl) (M0.mono h (fun v τ37 h => ?_))
  obtain ⟨r38, rfl, h⟩ := h
  show V0 E (d + 1) qX9_makeNext 130 [some (vR 78), some (vR a0), some (vI a1), some (vI a2), some (vI (τ (79 + 1 + a1.toNat) (a2 - 1).toNat)), some (vI (τ (87 + 1 + a1.toNat) (a2 - 1).toNat)), some (vI r27), some (vI r29), some (vI r35)] [vI r38, vI a2, vI a1, vR 78] τ37 Q
  refine u_aload_n (i := 1) (pc' := 131) dX9_makeNext_130 rfl rfl rfl ?_
  refine u_iconst (pc' := 132) dX9_makeNext_131 rfl ?_
  refine u_iload (i := 5) (pc' := 134) dX9_makeNext_132 rfl rfl ?_
  refine u_invV (q' := qX5_choose) (As := [vI 2, vI (τ (87 + 1 + a1.toNat) (a2 - 1).toNat)]) (st := [vI r38, vI a2, vI a1, vR 78]) (pc' := 137) dX9_makeNext_134 rfl gX5_choose wm_765 rfl rfl (kRules k_a0).1 k_a0 wm_766 wm_767 rfl (Nat.le_of_ble_eq_true rfl) (M0.mono h (fun v τ39 h => ?_))
  obtain ⟨r40, rfl, h⟩ := h
  show V0 E (d + 1) qX9_makeNext 137 [some (vR 78), some (vR a0), some (vI a1), some (vI a2), some (vI (τ (79 + 1 + a1.toNat) (a2 - 1).toNat)), some (vI (τ (87 + 1 + a1.toNat) (a2 - 1).toNat)), some (vI r27), some (vI r29), some (vI r35)] [vI r40, vI r38, vI a2, vI a1, vR 78] τ39 Q
  refine u_bipush (pc' := 139) dX9_makeNext_137 rfl (by decide) ?_
  refine u_invSN (q' := qX10_modulo) (As := [vI r40, vI 100]) (st := [vI r38, vI a2, vI a1, vR 78]) (pc' := 142) dX9_makeNext_139 rfl gX10_modulo wm_798 wm_799 rfl (Nat.le_of_ble_eq_true rfl) (M0.mono h (fun v τ41 h => ?_))
  obtain ⟨r42, rfl, h⟩ := h
  show V0 E (d + 1) qX9_makeNext 142 [some (vR 78), some (vR a0), some (vI a1), some (vI a2), some (vI (τ (79 + 1 + a1.toNat) (a2 - 1).toNat)), some (vI (τ (87 + 1 + a1.toNat) (a2 - 1).toNat)), some (vI r27), some (vI r29), some (vI r35)] [vI r42, vI r38, vI a2, vI a1, vR 78] τ41 Q
  refine u_invV (q' := qX9_put) (As := [vI a1, vI a2, vI r38, vI r42]) (st := []) (pc' := 145) dX9_makeNext_142 rfl gX9_put wm_739 rfl rfl (by decide) kd_78 wm_741 wp_34 rfl (Nat.le_of_ble_eq_true rfl) (M0.mono h (fun v τ43 h => ?_))
  obtain ⟨rfl, h⟩ := h
  show V0 E (d + 1) qX9_makeNext 145 [some (vR 78), some (vR a0), some (vI a1), some (vI a2), some (vI (τ (79 + 1 + a1.toNat) (a2 - 1).toNat)), some (vI (τ (87 + 1 + a1.toNat) (a2 - 1).toNat)), some (vI r27), some (vI r29), some (vI r35)] [] τ43 Q
  exact u_ret dX9_makeNext_145 rfl h
theorem mX9_makeNext {E : mm_Env} {d : Nat} {τ : mm_Mem} {Q : mm_Q0} {a0 : Nat} {a1 : Int} {a2 : Int} (k_a0 : KD a0 = some (.inr 5)) (h : 0 ≤ a1 ∧ a1 < 3 ∧ 0 ≤ (a2 - 1) ∧ (a2 - 1) < 1000 ∧ 0 ≤ a1 ∧ a1 < 3 ∧ 0 ≤ (a2 - 1) ∧ (a2 - 1) < 1000 ∧ M0 E d qX9_sumOf [vI (τ (79 + 1 + a1.toNat) (a2 - 1).toNat), vI (τ 78 4)] τ (fun v τ14 => ∃ r15 : Int, v = some (vI r15) ∧ M0 E d qX9_noteIn [vI (τ (79 + 1 + a1.toNat) (a2 - 1).toNat), vI 0] τ14 (fun v τ16 => ∃ r17 : Int, v = some (vI r17) ∧ M0 E d qX9_noteIn [vI (τ (79 + 1 + a1.toNat) (a2 - 1).toNat), vI ((τ16 78 4) - 1)] τ16 (fun v τ19 => ∃ r20 : Int, v = some (vI r20) ∧ M0 E d qX5_tell [vR a0, vI r15, vI r17, vI r20, vI (τ (87 + 1 + a1.toNat) (a2 - 1).toNat)] τ19 (fun v τ21 => v = none ∧ M0 E d qX5_point [vR a0, vI 0, vI 0] τ21 (fun v τ22 => v = none ∧ M0 E d qX5_choose [vR a0, vI 0, vI 0] τ22 (fun v τ23 => ∃ r24 : Int, v = some (vI r24) ∧ M0 E d qX10_modulo [vI r24, vI (τ23 78 4)] τ23 (fun v τ26 => ∃ r27 : Int, v = some (vI r27) ∧ M0 E d qX9_noteIn [vI (τ (79 + 1 + a1.toNat) (a2 - 1).toNat), vI r27] τ26 (fun v τ28 => ∃ r29 : Int, v = some (vI r29) ∧ M0 E d qX5_point [vR a0, vI r29, vI r27] τ28 (fun v τ30 => v = none ∧ M0 E d qX5_choose [vR a0, vI 1, vI (r29 + 1)] τ30 (fun v τ31 => ∃ r32 : Int, v = some (vI r32) ∧ M0 E d qX10_modulo [vI r32, vI (τ31 78 3)] τ31 (fun v τ34 => ∃ r35 : Int, v = some (vI r35) ∧ M0 E d qX5_point [vR a0, vI 0, vI 0] τ34 (fun v τ36 => v = none ∧ M0 E d qX9_withNote [vI (τ (79 + 1 + a1.toNat) (a2 - 1).toNat), vI r27, vI r35] τ36 (fun v τ37 => ∃ r38 : Int, v = some (vI r38) ∧ M0 E d qX5_choose [vR a0, vI 2, vI (τ (87 + 1 + a1.toNat) (a2 - 1).toNat)] τ37 (fun v τ39 => ∃ r40 : Int, v = some (vI r40) ∧ M0 E d qX10_modulo [vI r40, vI 100] τ39 (fun v τ41 => ∃ r42 : Int, v = some (vI r42) ∧ M0 E d qX9_put [vR 78, vI a1, vI a2, vI r38, vI r42] τ41 (fun v τ43 => v = none ∧ Q none τ43))))))))))))))))) : M0 E (d + 1) qX9_makeNext [vR 78, vR a0, vI a1, vI a2] τ Q := M0_of rfl (Nat.le_of_ble_eq_true rfl) [some (vR 78), some (vR a0), some (vI a1), some (vI a2), none, none, none, none, none] rfl (bX9_makeNext_0 k_a0 h)
set_option maxRecDepth 20000 in
theorem bX9_sumOf_0 {E : mm_Env} {d : Nat} {τ : mm_Mem} {Q : mm_Q0} {a0 : Int} {a1 : Int} (h : V0 E (d + 1) qX9_sumOf 4 [some (vI a0), some (vI a1), some (vI 0), some (vI 0)] [] τ Q) : V0 E (d + 1) qX9_sumOf 0 [some (vI a0), some (vI a1), none, none] [] τ Q := by
  refine u_iconst (pc' := 1) dX9_sumOf_0 rfl ?_
  refine s_istore_n (i := 2) (ls' := [some (vI a0), some (vI a1), some (vI 0), none]) (pc' := 2) dX9_sumOf_1 rfl rfl (Nat.le_of_ble_eq_true rfl) rfl rfl ?_
  refine u_iconst (pc' := 3) dX9_sumOf_2 rfl ?_
  refine s_istore_n (i := 3) (ls' := [some (vI a0), some (vI a1), some (vI 0), some (vI 0)]) (pc' := 4) dX9_sumOf_3 rfl rfl (Nat.le_of_ble_eq_true rfl) rfl rfl ?_
  exact u_less (ls' := [some (vI a0), some (vI a1), some (vI 0), some (vI 0)]) ⟨rfl, ⟨rfl, ⟨rfl, ⟨rfl, trivial⟩⟩⟩⟩ h
theorem mX9_sumOf {E : mm_Env} {d : Nat} {τ : mm_Mem} {Q : mm_Q0} {a0 : Int} {a1 : Int} (h : V0 E (d + 1) qX9_sumOf 4 [some (vI a0), some (vI a1), some (vI 0), some (vI 0)] [] τ Q) : M0 E (d + 1) qX9_sumOf [vI a0, vI a1] τ Q := M0_of rfl (Nat.le_of_ble_eq_true rfl) [some (vI a0), some (vI a1), none, none] rfl (bX9_sumOf_0  h)
set_option maxRecDepth 20000 in
theorem bX9_sumOf_4 {E : mm_Env} {d : Nat} {τ : mm_Mem} {Q : mm_Q0} {x0 : Int} {x1 : Int} {x2 : Int} {x3 : Int} (h : inR x3 ∧ inR x1 ∧ ((x1 ≤ x3 → Q (some (vI x2)) τ) ∧ (¬ x1 ≤ x3 → M0 E d qX9_noteIn [vI x0, vI x3] τ (fun v τ3 => ∃ r4 : Int, v = some (vI r4) ∧ V0 E (d + 1) qX9_sumOf 4 [some (vI x0), some (vI x1), some (vI (x2 + r4)), some (vI (x3 + 1))] [] τ3 Q)))) : V0 E (d + 1) qX9_sumOf 4 [some (vI x0), some (vI x1), some (vI x2), some (vI x3)] [] τ Q := by
  refine u_iload_n (i := 3) (pc' := 5) dX9_sumOf_4 rfl rfl rfl ?_
  refine u_iload_n (i := 1) (pc' := 6) dX9_sumOf_5 rfl rfl rfl ?_
  obtain ⟨c1, c2, h⟩ := h
  refine u_icmp_ge (tgt := 23) (pc' := 9) dX9_sumOf_6 rfl (by decide) c1 c2 (fun hb => ?_) (fun hb => ?_)
  · have h := h.1 hb
    refine u_iload_n (i := 2) (pc' := 24) dX9_sumOf_23 rfl rfl rfl ?_
    exact u_iret dX9_sumOf_24 rfl h
  · have h := h.2 hb
    refine u_iload_n (i := 2) (pc' := 10) dX9_sumOf_9 rfl rfl rfl ?_
    refine u_iload_n (i := 0) (pc' := 11) dX9_sumOf_10 rfl rfl rfl ?_
    refine u_iload_n (i := 3) (pc' := 12) dX9_sumOf_11 rfl rfl rfl ?_
    refine u_invS (q' := qX9_noteIn) (As := [vI x0, vI x3]) (st := [vI x2]) (pc' := 15) dX9_sumOf_12 rfl gX9_noteIn wm_743 wm_744 rfl (Nat.le_of_ble_eq_true rfl) (M0.mono h (fun v τ3 h => ?_))
    obtain ⟨r4, rfl, h⟩ := h
    show V0 E (d + 1) qX9_sumOf 15 [some (vI x0), some (vI x1), some (vI x2), some (vI x3)] [vI r4, vI x2] τ3 Q
    refine u_iadd (pc' := 16) dX9_sumOf_15 rfl ?_
    refine s_istore_n (i := 2) (ls' := [some (vI x0), some (vI x1), some (vI (x2 + r4)), some (vI x3)]) (pc' := 17) dX9_sumOf_16 rfl rfl (Nat.le_of_ble_eq_true rfl) rfl rfl ?_
    refine s_iinc (i := 3) (ls' := [some (vI x0), some (vI x1), some (vI (x2 + r4)), some (vI (x3 + 1))]) (pc' := 20) dX9_sumOf_17 rfl rfl (Nat.le_of_ble_eq_true rfl) rfl rfl ?_
    refine u_goto (tgt := 4) dX9_sumOf_20 (by decide) ?_
    exact u_less (ls' := [some (vI x0), some (vI x1), some (vI (x2 + r4)), some (vI (x3 + 1))]) ⟨rfl, ⟨rfl, ⟨rfl, ⟨rfl, trivial⟩⟩⟩⟩ h
set_option maxRecDepth 20000 in
theorem bX9_isAlike_0 {E : mm_Env} {d : Nat} {τ : mm_Mem} {Q : mm_Q0} {a0 : Int} {a1 : Int} {a2 : Int} (h : 0 ≤ a0 ∧ a0 < 3 ∧ 0 ≤ a1 ∧ a1 < 1000 ∧ 0 ≤ a0 ∧ a0 < 3 ∧ 0 ≤ a2 ∧ a2 < 1000 ∧ (((τ (79 + 1 + a0.toNat) a1.toNat) ≠ (τ (79 + 1 + a0.toNat) a2.toNat) → Q (some (vB false)) τ) ∧ ((τ (79 + 1 + a0.toNat) a1.toNat) = (τ (79 + 1 + a0.toNat) a2.toNat) → 0 ≤ a0 ∧ a0 < 3 ∧ 0 ≤ a1 ∧ a1 < 1000 ∧ 0 ≤ a0 ∧ a0 < 3 ∧ 0 ≤ a2 ∧ a2 < 1000 ∧ (((τ (87 + 1 + a0.toNat) a1.toNat) ≠ (τ (87 + 1 + a0.toNat) a2.toNat) → Q (some (vB false)) τ) ∧ ((τ (87 + 1 + a0.toNat) a1.toNat) = (τ (87 + 1 + a0.toNat) a2.toNat) → Q (some (vB true)) τ))))) : V0 E d qX9_isAlike 0 [some (vR 78), some (vI a0), some (vI a1), some (vI a2)] [] τ Q := by
  refine u_aload_n (i := 0) (pc' := 1) dX9_isAlike_0 rfl rfl rfl ?_
  refine u_getR (a := 79) (pc' := 4) dX9_isAlike_1 rfl fl_TuneDoor_Whistles_11 rfl (by decide) kd_78 rfl ?_
  refine u_iload_n (i := 1) (pc' := 5) dX9_isAlike_4 rfl rfl rfl ?_
  obtain ⟨c1, c2, h⟩ := h
  have j3 : a0.toNat < 3 := by omega
  refine u_aaload_A (k := a0.toNat) (a := (79 + 1 + a0.toNat)) (pc' := 6) dX9_isAlike_5 rfl (by decide) kd_79 c1 c2 (by decide) rfl (kWhi (Or.inl rfl) j3).1 ?_
  refine u_iload_n (i := 2) (pc' := 7) dX9_isAlike_6 rfl rfl rfl ?_
  obtain ⟨c4, c5, h⟩ := h
  refine u_iaload (k := a1.toNat) (z := (τ (79 + 1 + a0.toNat) a1.toNat)) (pc' := 8) dX9_isAlike_7 rfl (by omega) (kWhi (Or.inl rfl) j3).2 c4 c5 (by decide) rfl rfl (fun r6 => ?_)
  refine u_aload_n (i := 0) (pc' := 9) dX9_isAlike_8 rfl rfl rfl ?_
  refine u_getR (a := 79) (pc' := 12) dX9_isAlike_9 rfl fl_TuneDoor_Whistles_11 rfl (by decide) kd_78 rfl ?_
  refine u_iload_n (i := 1) (pc' := 13) dX9_isAlike_12 rfl rfl rfl ?_
  obtain ⟨c7, c8, h⟩ := h
  have j9 : a0.toNat < 3 := by omega
  refine u_aaload_A (k := a0.toNat) (a := (79 + 1 + a0.toNat)) (pc' := 14) dX9_isAlike_13 rfl (by decide) kd_79 c7 c8 (by decide) rfl (kWhi (Or.inl rfl) j9).1 ?_
  refine u_iload_n (i := 3) (pc' := 15) dX9_isAlike_14 rfl rfl rfl ?_
  obtain ⟨c10, c11, h⟩ := h
  refine u_iaload (k := a2.toNat) (z := (τ (79 + 1 + a0.toNat) a2.toNat)) (pc' := 16) dX9_isAlike_15 rfl (by omega) (kWhi (Or.inl rfl) j9).2 c10 c11 (by decide) rfl rfl (fun r12 => ?_)
  refine u_icmp_ne (tgt := 42) (pc' := 19) dX9_isAlike_16 rfl (by decide) r6 r12 (fun hb => ?_) (fun hb => ?_)
  · have h := h.1 hb
    refine u_iconst (pc' := 43) dX9_isAlike_42 rfl ?_
    exact u_zret (b := false) dX9_isAlike_43 rfl rfl h
  · have h := h.2 hb
    refine u_aload_n (i := 0) (pc' := 20) dX9_isAlike_19 rfl rfl rfl ?_
    refine u_getR (a := 87) (pc' := 23) dX9_isAlike_20 rfl fl_TuneDoor_Whistles_19 rfl (by decide) kd_78 rfl ?_
    refine u_iload_n (i := 1) (pc' := 24) dX9_isAlike_23 rfl rfl rfl ?_
    obtain ⟨c13, c14, h⟩ := h
    have j15 : a0.toNat < 3 := by omega
    refine u_aaload_A (k := a0.toNat) (a := (87 + 1 + a0.toNat)) (pc' := 25) dX9_isAlike_24 rfl (by decide) kd_87 c13 c14 (by decide) rfl (kWhi (Or.inr (Or.inr rfl)) j15).1 ?_
    refine u_iload_n (i := 2) (pc' := 26) dX9_isAlike_25 rfl rfl rfl ?_
    obtain ⟨c16, c17, h⟩ := h
    refine u_iaload (k := a1.toNat) (z := (τ (87 + 1 + a0.toNat) a1.toNat)) (pc' := 27) dX9_isAlike_26 rfl (by omega) (kWhi (Or.inr (Or.inr rfl)) j15).2 c16 c17 (by decide) rfl rfl (fun r18 => ?_)
    refine u_aload_n (i := 0) (pc' := 28) dX9_isAlike_27 rfl rfl rfl ?_
    refine u_getR (a := 87) (pc' := 31) dX9_isAlike_28 rfl fl_TuneDoor_Whistles_19 rfl (by decide) kd_78 rfl ?_
    refine u_iload_n (i := 1) (pc' := 32) dX9_isAlike_31 rfl rfl rfl ?_
    obtain ⟨c19, c20, h⟩ := h
    have j21 : a0.toNat < 3 := by omega
    refine u_aaload_A (k := a0.toNat) (a := (87 + 1 + a0.toNat)) (pc' := 33) dX9_isAlike_32 rfl (by decide) kd_87 c19 c20 (by decide) rfl (kWhi (Or.inr (Or.inr rfl)) j21).1 ?_
    refine u_iload_n (i := 3) (pc' := 34) dX9_isAlike_33 rfl rfl rfl ?_
    obtain ⟨c22, c23, h⟩ := h
    refine u_iaload (k := a2.toNat) (z := (τ (87 + 1 + a0.toNat) a2.toNat)) (pc' := 35) dX9_isAlike_34 rfl (by omega) (kWhi (Or.inr (Or.inr rfl)) j21).2 c22 c23 (by decide) rfl rfl (fun r24 => ?_)
    refine u_icmp_ne (tgt := 42) (pc' := 38) dX9_isAlike_35 rfl (by decide) r18 r24 (fun hb => ?_) (fun hb => ?_)
    · have h := h.1 hb
      refine u_iconst (pc' := 43) dX9_isAlike_42 rfl ?_
      exact u_zret (b := false) dX9_isAlike_43 rfl rfl h
    · have h := h.2 hb
      refine u_iconst (pc' := 39) dX9_isAlike_38 rfl ?_
      refine u_goto (tgt := 43) dX9_isAlike_39 (by decide) ?_
      exact u_zret (b := true) dX9_isAlike_43 rfl rfl h
theorem mX9_isAlike {E : mm_Env} {d : Nat} {τ : mm_Mem} {Q : mm_Q0} {a0 : Int} {a1 : Int} {a2 : Int} (h : 0 ≤ a0 ∧ a0 < 3 ∧ 0 ≤ a1 ∧ a1 < 1000 ∧ 0 ≤ a0 ∧ a0 < 3 ∧ 0 ≤ a2 ∧ a2 < 1000 ∧ (((τ (79 + 1 + a0.toNat) a1.toNat) ≠ (τ (79 + 1 + a0.toNat) a2.toNat) → Q (some (vB false)) τ) ∧ ((τ (79 + 1 + a0.toNat) a1.toNat) = (τ (79 + 1 + a0.toNat) a2.toNat) → 0 ≤ a0 ∧ a0 < 3 ∧ 0 ≤ a1 ∧ a1 < 1000 ∧ 0 ≤ a0 ∧ a0 < 3 ∧ 0 ≤ a2 ∧ a2 < 1000 ∧ (((τ (87 + 1 + a0.toNat) a1.toNat) ≠ (τ (87 + 1 + a0.toNat) a2.toNat) → Q (some (vB false)) τ) ∧ ((τ (87 + 1 + a0.toNat) a1.toNat) = (τ (87 + 1 + a0.toNat) a2.toNat) → Q (some (vB true)) τ))))) : M0 E d qX9_isAlike [vR 78, vI a0, vI a1, vI a2] τ Q := M0_of rfl (Nat.le_of_ble_eq_true rfl) [some (vR 78), some (vI a0), some (vI a1), some (vI a2)] rfl (bX9_isAlike_0  h)
set_option maxRecDepth 20000 in
theorem bX9_repeatRow_0 {E : mm_Env} {d : Nat} {τ : mm_Mem} {Q : mm_Q0} {a0 : Int} {a1 : Int} {a2 : Int} (h : M0 E d qJ9_max_7cf53 [vI a1, vI a2] τ (fun v τ1 => ∃ r2 : Int, v = some (vI r2) ∧ V0 E (d + 1) qX9_repeatRow 7 [some (vR 78), some (vI a0), none, some (vI a2), some (vI r2)] [] τ1 Q)) : V0 E (d + 1) qX9_repeatRow 0 [some (vR 78), some (vI a0), some (vI a1), some (vI a2), none] [] τ Q := by
  refine u_iload_n (i := 2) (pc' := 1) dX9_repeatRow_0 rfl rfl rfl ?_
  refine u_iload_n (i := 3) (pc' := 2) dX9_repeatRow_1 rfl rfl rfl ?_
  refine u_invS (q' := qJ9_max_7cf53) (As := [vI a1, vI a2]) (st := []) (pc' := 5) dX9_repeatRow_2 rfl gJ9_max_7cf53 wm_813 wm_814 rfl (Nat.le_of_ble_eq_true rfl) (M0.mono h (fun v τ1 h => ?_))
  obtain ⟨r2, rfl, h⟩ := h
  show V0 E (d + 1) qX9_repeatRow 5 [some (vR 78), some (vI a0), some (vI a1), some (vI a2), none] [vI r2] τ1 Q
  refine s_istore (i := 4) (ls' := [some (vR 78), some (vI a0), some (vI a1), some (vI a2), some (vI r2)]) (pc' := 7) dX9_repeatRow_5 rfl (Nat.le_of_ble_eq_true rfl) rfl rfl ?_
  exact u_less (ls' := [some (vR 78), some (vI a0), none, some (vI a2), some (vI r2)]) ⟨rfl, ⟨rfl, ⟨rfl, ⟨rfl, trivial⟩⟩⟩⟩ h
theorem mX9_repeatRow {E : mm_Env} {d : Nat} {τ : mm_Mem} {Q : mm_Q0} {a0 : Int} {a1 : Int} {a2 : Int} (h : M0 E d qJ9_max_7cf53 [vI a1, vI a2] τ (fun v τ1 => ∃ r2 : Int, v = some (vI r2) ∧ V0 E (d + 1) qX9_repeatRow 7 [some (vR 78), some (vI a0), none, some (vI a2), some (vI r2)] [] τ1 Q)) : M0 E (d + 1) qX9_repeatRow [vR 78, vI a0, vI a1, vI a2] τ Q := M0_of rfl (Nat.le_of_ble_eq_true rfl) [some (vR 78), some (vI a0), some (vI a1), some (vI a2), none] rfl (bX9_repeatRow_0  h)
set_option maxRecDepth 20000 in
theorem bX9_repeatRow_7 {E : mm_Env} {d : Nat} {τ : mm_Mem} {Q : mm_Q0} {x1 : Int} {x3 : Int} {x4 : Int} (h : inR x4 ∧ ((1000 ≤ x4 → Q none τ) ∧ (¬ 1000 ≤ x4 → 0 ≤ x1 ∧ x1 < 3 ∧ 0 ≤ x1 ∧ x1 < 3 ∧ 0 ≤ (x4 - x3) ∧ (x4 - x3) < 1000 ∧ 0 ≤ x4 ∧ x4 < 1000 ∧ 0 ≤ x1 ∧ x1 < 3 ∧ 0 ≤ x1 ∧ x1 < 3 ∧ 0 ≤ (x4 - x3) ∧ (x4 - x3) < 1000 ∧ 0 ≤ x4 ∧ x4 < 1000 ∧ 0 ≤ x1 ∧ x1 < 3 ∧ 0 ≤ x1 ∧ x1 < 3 ∧ 0 ≤ (x4 - x3) ∧ (x4 - x3) < 1000 ∧ 0 ≤ x4 ∧ x4 < 1000 ∧ V0 E (d + 1) qX9_repeatRow 7 [some (vR 78), some (vI x1), none, some (vI x3), some (vI (x4 + 1))] [] (wr (wr (wr τ (79 + 1 + x1.toNat) x4.toNat (τ (79 + 1 + x1.toNat) (x4 - x3).toNat)) (83 + 1 + x1.toNat) x4.toNat ((wr τ (79 + 1 + x1.toNat) x4.toNat (τ (79 + 1 + x1.toNat) (x4 - x3).toNat)) (83 + 1 + x1.toNat) (x4 - x3).toNat)) (87 + 1 + x1.toNat) x4.toNat ((wr (wr τ (79 + 1 + x1.toNat) x4.toNat (τ (79 + 1 + x1.toNat) (x4 - x3).toNat)) (83 + 1 + x1.toNat) x4.toNat ((wr τ (79 + 1 + x1.toNat) x4.toNat (τ (79 + 1 + x1.toNat) (x4 - x3).toNat)) (83 + 1 + x1.toNat) (x4 - x3).toNat)) (87 + 1 + x1.toNat) (x4 - x3).toNat)) Q))) : V0 E (d + 1) qX9_repeatRow 7 [some (vR 78), some (vI x1), none, some (vI x3), some (vI x4)] [] τ Q := by
  refine u_iload (i := 4) (pc' := 9) dX9_repeatRow_7 rfl rfl ?_
  refine u_sipush (pc' := 12) dX9_repeatRow_9 rfl (by decide) ?_
  obtain ⟨c1, h⟩ := h
  refine u_icmp_ge (tgt := 81) (pc' := 15) dX9_repeatRow_12 rfl (by decide) c1 ⟨by decide, by decide⟩ (fun hb => ?_) (fun hb => ?_)
  · have h := h.1 hb
    exact u_ret dX9_repeatRow_81 rfl h
  · have h := h.2 hb
    refine u_aload_n (i := 0) (pc' := 16) dX9_repeatRow_15 rfl rfl rfl ?_
    refine u_getR (a := 79) (pc' := 19) dX9_repeatRow_16 rfl fl_TuneDoor_Whistles_11 rfl (by decide) kd_78 rfl ?_
    refine u_iload_n (i := 1) (pc' := 20) dX9_repeatRow_19 rfl rfl rfl ?_
    obtain ⟨c2, c3, h⟩ := h
    have j4 : x1.toNat < 3 := by omega
    refine u_aaload_A (k := x1.toNat) (a := (79 + 1 + x1.toNat)) (pc' := 21) dX9_repeatRow_20 rfl (by decide) kd_79 c2 c3 (by decide) rfl (kWhi (Or.inl rfl) j4).1 ?_
    refine u_iload (i := 4) (pc' := 23) dX9_repeatRow_21 rfl rfl ?_
    refine u_aload_n (i := 0) (pc' := 24) dX9_repeatRow_23 rfl rfl rfl ?_
    refine u_getR (a := 79) (pc' := 27) dX9_repeatRow_24 rfl fl_TuneDoor_Whistles_11 rfl (by decide) kd_78 rfl ?_
    refine u_iload_n (i := 1) (pc' := 28) dX9_repeatRow_27 rfl rfl rfl ?_
    obtain ⟨c5, c6, h⟩ := h
    have j7 : x1.toNat < 3 := by omega
    refine u_aaload_A (k := x1.toNat) (a := (79 + 1 + x1.toNat)) (pc' := 29) dX9_repeatRow_28 rfl (by decide) kd_79 c5 c6 (by decide) rfl (kWhi (Or.inl rfl) j7).1 ?_
    refine u_iload (i := 4) (pc' := 31) dX9_repeatRow_29 rfl rfl ?_
    refine u_iload_n (i := 3) (pc' := 32) dX9_repeatRow_31 rfl rfl rfl ?_
    refine u_isub (pc' := 33) dX9_repeatRow_32 rfl ?_
    obtain ⟨c8, c9, h⟩ := h
    refine u_iaload (k := (x4 - x3).toNat) (z := (τ (79 + 1 + x1.toNat) (x4 - x3).toNat)) (pc' := 34) dX9_repeatRow_33 rfl (by omega) (kWhi (Or.inl rfl) j7).2 c8 c9 (by decide) rfl rfl (fun r10 => ?_)
    obtain ⟨c11, c12, h⟩ := h
    refine u_iastore (k := x4.toNat) (pc' := 35) dX9_repeatRow_34 rfl (by omega) (kWhi (Or.inl rfl) j4).2 c11 c12 (by decide) rfl r10 ?_
    refine u_aload_n (i := 0) (pc' := 36) dX9_repeatRow_35 rfl rfl rfl ?_
    refine u_getR (a := 83) (pc' := 39) dX9_repeatRow_36 rfl fl_TuneDoor_Whistles_16 rfl (by decide) kd_78 rfl ?_
    refine u_iload_n (i := 1) (pc' := 40) dX9_repeatRow_39 rfl rfl rfl ?_
    obtain ⟨c13, c14, h⟩ := h
    have j15 : x1.toNat < 3 := by omega
    refine u_aaload_A (k := x1.toNat) (a := (83 + 1 + x1.toNat)) (pc' := 41) dX9_repeatRow_40 rfl (by decide) kd_83 c13 c14 (by decide) rfl (kWhi (Or.inr (Or.inl rfl)) j15).1 ?_
    refine u_iload (i := 4) (pc' := 43) dX9_repeatRow_41 rfl rfl ?_
    refine u_aload_n (i := 0) (pc' := 44) dX9_repeatRow_43 rfl rfl rfl ?_
    refine u_getR (a := 83) (pc' := 47) dX9_repeatRow_44 rfl fl_TuneDoor_Whistles_16 rfl (by decide) kd_78 rfl ?_
    refine u_iload_n (i := 1) (pc' := 48) dX9_repeatRow_47 rfl rfl rfl ?_
    obtain ⟨c16, c17, h⟩ := h
    have j18 : x1.toNat < 3 := by omega
    refine u_aaload_A (k := x1.toNat) (a := (83 + 1 + x1.toNat)) (pc' := 49) dX9_repeatRow_48 rfl (by decide) kd_83 c16 c17 (by decide) rfl (kWhi (Or.inr (Or.inl rfl)) j18).1 ?_
    refine u_iload (i := 4) (pc' := 51) dX9_repeatRow_49 rfl rfl ?_
    refine u_iload_n (i := 3) (pc' := 52) dX9_repeatRow_51 rfl rfl rfl ?_
    refine u_isub (pc' := 53) dX9_repeatRow_52 rfl ?_
    obtain ⟨c19, c20, h⟩ := h
    refine u_iaload (k := (x4 - x3).toNat) (z := ((wr τ (79 + 1 + x1.toNat) x4.toNat (τ (79 + 1 + x1.toNat) (x4 - x3).toNat)) (83 + 1 + x1.toNat) (x4 - x3).toNat)) (pc' := 54) dX9_repeatRow_53 rfl (by omega) (kWhi (Or.inr (Or.inl rfl)) j18).2 c19 c20 (by decide) rfl rfl (fun r21 => ?_)
    obtain ⟨c22, c23, h⟩ := h
    refine u_iastore (k := x4.toNat) (pc' := 55) dX9_repeatRow_54 rfl (by omega) (kWhi (Or.inr (Or.inl rfl)) j15).2 c22 c23 (by decide) rfl r21 ?_
    refine u_aload_n (i := 0) (pc' := 56) dX9_repeatRow_55 rfl rfl rfl ?_
    refine u_getR (a := 87) (pc' := 59) dX9_repeatRow_56 rfl fl_TuneDoor_Whistles_19 rfl (by decide) kd_78 rfl ?_
    refine u_iload_n (i := 1) (pc' := 60) dX9_repeatRow_59 rfl rfl rfl ?_
    obtain ⟨c24, c25, h⟩ := h
    have j26 : x1.toNat < 3 := by omega
    refine u_aaload_A (k := x1.toNat) (a := (87 + 1 + x1.toNat)) (pc' := 61) dX9_repeatRow_60 rfl (by decide) kd_87 c24 c25 (by decide) rfl (kWhi (Or.inr (Or.inr rfl)) j26).1 ?_
    refine u_iload (i := 4) (pc' := 63) dX9_repeatRow_61 rfl rfl ?_
    refine u_aload_n (i := 0) (pc' := 64) dX9_repeatRow_63 rfl rfl rfl ?_
    refine u_getR (a := 87) (pc' := 67) dX9_repeatRow_64 rfl fl_TuneDoor_Whistles_19 rfl (by decide) kd_78 rfl ?_
    refine u_iload_n (i := 1) (pc' := 68) dX9_repeatRow_67 rfl rfl rfl ?_
    obtain ⟨c27, c28, h⟩ := h
    have j29 : x1.toNat < 3 := by omega
    refine u_aaload_A (k := x1.toNat) (a := (87 + 1 + x1.toNat)) (pc' := 69) dX9_repeatRow_68 rfl (by decide) kd_87 c27 c28 (by decide) rfl (kWhi (Or.inr (Or.inr rfl)) j29).1 ?_
    refine u_iload (i := 4) (pc' := 71) dX9_repeatRow_69 rfl rfl ?_
    refine u_iload_n (i := 3) (pc' := 72) dX9_repeatRow_71 rfl rfl rfl ?_
    refine u_isub (pc' := 73) dX9_repeatRow_72 rfl ?_
    obtain ⟨c30, c31, h⟩ := h
    refine u_iaload (k := (x4 - x3).toNat) (z := ((wr (wr τ (79 + 1 + x1.toNat) x4.toNat (τ (79 + 1 + x1.toNat) (x4 - x3).toNat)) (83 + 1 + x1.toNat) x4.toNat ((wr τ (79 + 1 + x1.toNat) x4.toNat (τ (79 + 1 + x1.toNat) (x4 - x3).toNat)) (83 + 1 + x1.toNat) (x4 - x3).toNat)) (87 + 1 + x1.toNat) (x4 - x3).toNat)) (pc' := 74) dX9_repeatRow_73 rfl (by omega) (kWhi (Or.inr (Or.inr rfl)) j29).2 c30 c31 (by decide) rfl rfl (fun r32 => ?_)
    obtain ⟨c33, c34, h⟩ := h
    refine u_iastore (k := x4.toNat) (pc' := 75) dX9_repeatRow_74 rfl (by omega) (kWhi (Or.inr (Or.inr rfl)) j26).2 c33 c34 (by decide) rfl r32 ?_
    refine s_iinc (i := 4) (ls' := [some (vR 78), some (vI x1), none, some (vI x3), some (vI (x4 + 1))]) (pc' := 78) dX9_repeatRow_75 rfl rfl (Nat.le_of_ble_eq_true rfl) rfl rfl ?_
    refine u_goto (tgt := 7) dX9_repeatRow_78 (by decide) ?_
    exact u_less (ls' := [some (vR 78), some (vI x1), none, some (vI x3), some (vI (x4 + 1))]) ⟨rfl, ⟨rfl, ⟨rfl, ⟨rfl, trivial⟩⟩⟩⟩ h
set_option maxRecDepth 20000 in
theorem bX9_numberAt_0 {E : mm_Env} {d : Nat} {τ : mm_Mem} {Q : mm_Q0} {a0 : Int} {a1 : Int} (h : M0 E d qX9_isThere [vI a0, vI a1] τ (fun v τ1 => ∃ b2 : Bool, v = some (vB b2) ∧ ((b2 = false → Q (some (vI (-1))) τ1) ∧ (b2 = true → 0 ≤ a0 ∧ a0 < 3 ∧ 0 ≤ a1 ∧ a1 < 1000 ∧ Q (some (vI (τ1 (83 + 1 + a0.toNat) a1.toNat))) τ1)))) : V0 E (d + 1) qX9_numberAt 0 [some (vR 78), some (vI a0), some (vI a1)] [] τ Q := by
  refine u_iload_n (i := 1) (pc' := 1) dX9_numberAt_0 rfl rfl rfl ?_
  refine u_iload_n (i := 2) (pc' := 2) dX9_numberAt_1 rfl rfl rfl ?_
  refine u_invS (q' := qX9_isThere) (As := [vI a0, vI a1]) (st := []) (pc' := 5) dX9_numberAt_2 rfl gX9_isThere wm_864 wm_865 rfl (Nat.le_of_ble_eq_true rfl) (M0.mono h (fun v τ1 h => ?_))
  obtain ⟨b2, rfl, h⟩ := h
  show V0 E (d + 1) qX9_numberAt 5 [some (vR 78), some (vI a0), some (vI a1)] [vB b2] τ1 Q
  refine u_if_eq (tgt := 19) (pc' := 8) dX9_numberAt_5 rfl (by decide) (bI_R _) (fun hb => ?_) (fun hb => ?_)
  · have h := h.1 (bI_0.mp hb)
    refine u_iconst (pc' := 20) dX9_numberAt_19 rfl ?_
    exact u_iret dX9_numberAt_20 rfl h
  · have h := h.2 (bI_n0.mp hb)
    refine u_aload_n (i := 0) (pc' := 9) dX9_numberAt_8 rfl rfl rfl ?_
    refine u_getR (a := 83) (pc' := 12) dX9_numberAt_9 rfl fl_TuneDoor_Whistles_16 rfl (by decide) kd_78 rfl ?_
    refine u_iload_n (i := 1) (pc' := 13) dX9_numberAt_12 rfl rfl rfl ?_
    obtain ⟨c3, c4, h⟩ := h
    have j5 : a0.toNat < 3 := by omega
    refine u_aaload_A (k := a0.toNat) (a := (83 + 1 + a0.toNat)) (pc' := 14) dX9_numberAt_13 rfl (by decide) kd_83 c3 c4 (by decide) rfl (kWhi (Or.inr (Or.inl rfl)) j5).1 ?_
    refine u_iload_n (i := 2) (pc' := 15) dX9_numberAt_14 rfl rfl rfl ?_
    obtain ⟨c6, c7, h⟩ := h
    refine u_iaload (k := a1.toNat) (z := (τ1 (83 + 1 + a0.toNat) a1.toNat)) (pc' := 16) dX9_numberAt_15 rfl (by omega) (kWhi (Or.inr (Or.inl rfl)) j5).2 c6 c7 (by decide) rfl rfl (fun r8 => ?_)
    refine u_goto (tgt := 20) dX9_numberAt_16 (by decide) ?_
    exact u_iret dX9_numberAt_20 rfl h
theorem mX9_numberAt {E : mm_Env} {d : Nat} {τ : mm_Mem} {Q : mm_Q0} {a0 : Int} {a1 : Int} (h : M0 E d qX9_isThere [vI a0, vI a1] τ (fun v τ1 => ∃ b2 : Bool, v = some (vB b2) ∧ ((b2 = false → Q (some (vI (-1))) τ1) ∧ (b2 = true → 0 ≤ a0 ∧ a0 < 3 ∧ 0 ≤ a1 ∧ a1 < 1000 ∧ Q (some (vI (τ1 (83 + 1 + a0.toNat) a1.toNat))) τ1)))) : M0 E (d + 1) qX9_numberAt [vR 78, vI a0, vI a1] τ Q := M0_of rfl (Nat.le_of_ble_eq_true rfl) [some (vR 78), some (vI a0), some (vI a1)] rfl (bX9_numberAt_0  h)
set_option maxRecDepth 20000 in
theorem bX9_isThere_0 {E : mm_Env} {d : Nat} {τ : mm_Mem} {Q : mm_Q0} {a0 : Int} {a1 : Int} (h : inR a0 ∧ ((a0 < 0 → Q (some (vB false)) τ) ∧ (¬ a0 < 0 → ((3 ≤ a0 → Q (some (vB false)) τ) ∧ (¬ 3 ≤ a0 → inR a1 ∧ ((a1 < 0 → Q (some (vB false)) τ) ∧ (¬ a1 < 0 → ((1000 ≤ a1 → Q (some (vB false)) τ) ∧ (¬ 1000 ≤ a1 → Q (some (vB true)) τ))))))))) : V0 E d qX9_isThere 0 [some (vI a0), some (vI a1)] [] τ Q := by
  refine u_iload_n (i := 0) (pc' := 1) dX9_isThere_0 rfl rfl rfl ?_
  obtain ⟨c1, h⟩ := h
  refine u_if_lt (tgt := 24) (pc' := 4) dX9_isThere_1 rfl (by decide) c1 (fun hb => ?_) (fun hb => ?_)
  · have h := h.1 hb
    refine u_iconst (pc' := 25) dX9_isThere_24 rfl ?_
    exact u_zret (b := false) dX9_isThere_25 rfl rfl h
  · have h := h.2 hb
    refine u_iload_n (i := 0) (pc' := 5) dX9_isThere_4 rfl rfl rfl ?_
    refine u_iconst (pc' := 6) dX9_isThere_5 rfl ?_
    refine u_icmp_ge (tgt := 24) (pc' := 9) dX9_isThere_6 rfl (by decide) c1 ⟨by decide, by decide⟩ (fun hb => ?_) (fun hb => ?_)
    · have h := h.1 hb
      refine u_iconst (pc' := 25) dX9_isThere_24 rfl ?_
      exact u_zret (b := false) dX9_isThere_25 rfl rfl h
    · have h := h.2 hb
      refine u_iload_n (i := 1) (pc' := 10) dX9_isThere_9 rfl rfl rfl ?_
      obtain ⟨c2, h⟩ := h
      refine u_if_lt (tgt := 24) (pc' := 13) dX9_isThere_10 rfl (by decide) c2 (fun hb => ?_) (fun hb => ?_)
      · have h := h.1 hb
        refine u_iconst (pc' := 25) dX9_isThere_24 rfl ?_
        exact u_zret (b := false) dX9_isThere_25 rfl rfl h
      · have h := h.2 hb
        refine u_iload_n (i := 1) (pc' := 14) dX9_isThere_13 rfl rfl rfl ?_
        refine u_sipush (pc' := 17) dX9_isThere_14 rfl (by decide) ?_
        refine u_icmp_ge (tgt := 24) (pc' := 20) dX9_isThere_17 rfl (by decide) c2 ⟨by decide, by decide⟩ (fun hb => ?_) (fun hb => ?_)
        · have h := h.1 hb
          refine u_iconst (pc' := 25) dX9_isThere_24 rfl ?_
          exact u_zret (b := false) dX9_isThere_25 rfl rfl h
        · have h := h.2 hb
          refine u_iconst (pc' := 21) dX9_isThere_20 rfl ?_
          refine u_goto (tgt := 25) dX9_isThere_21 (by decide) ?_
          exact u_zret (b := true) dX9_isThere_25 rfl rfl h
theorem mX9_isThere {E : mm_Env} {d : Nat} {τ : mm_Mem} {Q : mm_Q0} {a0 : Int} {a1 : Int} (h : inR a0 ∧ ((a0 < 0 → Q (some (vB false)) τ) ∧ (¬ a0 < 0 → ((3 ≤ a0 → Q (some (vB false)) τ) ∧ (¬ 3 ≤ a0 → inR a1 ∧ ((a1 < 0 → Q (some (vB false)) τ) ∧ (¬ a1 < 0 → ((1000 ≤ a1 → Q (some (vB false)) τ) ∧ (¬ 1000 ≤ a1 → Q (some (vB true)) τ))))))))) : M0 E d qX9_isThere [vI a0, vI a1] τ Q := M0_of rfl (Nat.le_of_ble_eq_true rfl) [some (vI a0), some (vI a1)] rfl (bX9_isThere_0  h)
set_option maxRecDepth 20000 in
theorem bX9_keptAt_0 {E : mm_Env} {d : Nat} {τ : mm_Mem} {Q : mm_Q0} {a0 : Int} {a1 : Int} (h : M0 E d qX9_isThere [vI a0, vI a1] τ (fun v τ1 => ∃ b2 : Bool, v = some (vB b2) ∧ ((b2 = false → Q (some (vI (-1))) τ1) ∧ (b2 = true → 0 ≤ a0 ∧ a0 < 3 ∧ 0 ≤ a1 ∧ a1 < 1000 ∧ Q (some (vI (τ1 (87 + 1 + a0.toNat) a1.toNat))) τ1)))) : V0 E (d + 1) qX9_keptAt 0 [some (vR 78), some (vI a0), some (vI a1)] [] τ Q := by
  refine u_iload_n (i := 1) (pc' := 1) dX9_keptAt_0 rfl rfl rfl ?_
  refine u_iload_n (i := 2) (pc' := 2) dX9_keptAt_1 rfl rfl rfl ?_
  refine u_invS (q' := qX9_isThere) (As := [vI a0, vI a1]) (st := []) (pc' := 5) dX9_keptAt_2 rfl gX9_isThere wm_864 wm_865 rfl (Nat.le_of_ble_eq_true rfl) (M0.mono h (fun v τ1 h => ?_))
  obtain ⟨b2, rfl, h⟩ := h
  show V0 E (d + 1) qX9_keptAt 5 [some (vR 78), some (vI a0), some (vI a1)] [vB b2] τ1 Q
  refine u_if_eq (tgt := 19) (pc' := 8) dX9_keptAt_5 rfl (by decide) (bI_R _) (fun hb => ?_) (fun hb => ?_)
  · have h := h.1 (bI_0.mp hb)
    refine u_iconst (pc' := 20) dX9_keptAt_19 rfl ?_
    exact u_iret dX9_keptAt_20 rfl h
  · have h := h.2 (bI_n0.mp hb)
    refine u_aload_n (i := 0) (pc' := 9) dX9_keptAt_8 rfl rfl rfl ?_
    refine u_getR (a := 87) (pc' := 12) dX9_keptAt_9 rfl fl_TuneDoor_Whistles_19 rfl (by decide) kd_78 rfl ?_
    refine u_iload_n (i := 1) (pc' := 13) dX9_keptAt_12 rfl rfl rfl ?_
    obtain ⟨c3, c4, h⟩ := h
    have j5 : a0.toNat < 3 := by omega
    refine u_aaload_A (k := a0.toNat) (a := (87 + 1 + a0.toNat)) (pc' := 14) dX9_keptAt_13 rfl (by decide) kd_87 c3 c4 (by decide) rfl (kWhi (Or.inr (Or.inr rfl)) j5).1 ?_
    refine u_iload_n (i := 2) (pc' := 15) dX9_keptAt_14 rfl rfl rfl ?_
    obtain ⟨c6, c7, h⟩ := h
    refine u_iaload (k := a1.toNat) (z := (τ1 (87 + 1 + a0.toNat) a1.toNat)) (pc' := 16) dX9_keptAt_15 rfl (by omega) (kWhi (Or.inr (Or.inr rfl)) j5).2 c6 c7 (by decide) rfl rfl (fun r8 => ?_)
    refine u_goto (tgt := 20) dX9_keptAt_16 (by decide) ?_
    exact u_iret dX9_keptAt_20 rfl h
theorem mX9_keptAt {E : mm_Env} {d : Nat} {τ : mm_Mem} {Q : mm_Q0} {a0 : Int} {a1 : Int} (h : M0 E d qX9_isThere [vI a0, vI a1] τ (fun v τ1 => ∃ b2 : Bool, v = some (vB b2) ∧ ((b2 = false → Q (some (vI (-1))) τ1) ∧ (b2 = true → 0 ≤ a0 ∧ a0 < 3 ∧ 0 ≤ a1 ∧ a1 < 1000 ∧ Q (some (vI (τ1 (87 + 1 + a0.toNat) a1.toNat))) τ1)))) : M0 E (d + 1) qX9_keptAt [vR 78, vI a0, vI a1] τ Q := M0_of rfl (Nat.le_of_ble_eq_true rfl) [some (vR 78), some (vI a0), some (vI a1)] rfl (bX9_keptAt_0  h)
set_option maxRecDepth 20000 in
theorem bX9_tuneAt_0 {E : mm_Env} {d : Nat} {τ : mm_Mem} {Q : mm_Q0} {a0 : Int} {a1 : Int} (h : M0 E d qX9_isThere [vI a0, vI a1] τ (fun v τ1 => ∃ b2 : Bool, v = some (vB b2) ∧ ((b2 = false → Q (some (vI (-1))) τ1) ∧ (b2 = true → 0 ≤ a0 ∧ a0 < 3 ∧ 0 ≤ a1 ∧ a1 < 1000 ∧ Q (some (vI (τ1 (79 + 1 + a0.toNat) a1.toNat))) τ1)))) : V0 E (d + 1) qX9_tuneAt 0 [some (vR 78), some (vI a0), some (vI a1)] [] τ Q := by
  refine u_iload_n (i := 1) (pc' := 1) dX9_tuneAt_0 rfl rfl rfl ?_
  refine u_iload_n (i := 2) (pc' := 2) dX9_tuneAt_1 rfl rfl rfl ?_
  refine u_invS (q' := qX9_isThere) (As := [vI a0, vI a1]) (st := []) (pc' := 5) dX9_tuneAt_2 rfl gX9_isThere wm_864 wm_865 rfl (Nat.le_of_ble_eq_true rfl) (M0.mono h (fun v τ1 h => ?_))
  obtain ⟨b2, rfl, h⟩ := h
  show V0 E (d + 1) qX9_tuneAt 5 [some (vR 78), some (vI a0), some (vI a1)] [vB b2] τ1 Q
  refine u_if_eq (tgt := 19) (pc' := 8) dX9_tuneAt_5 rfl (by decide) (bI_R _) (fun hb => ?_) (fun hb => ?_)
  · have h := h.1 (bI_0.mp hb)
    refine u_iconst (pc' := 20) dX9_tuneAt_19 rfl ?_
    exact u_iret dX9_tuneAt_20 rfl h
  · have h := h.2 (bI_n0.mp hb)
    refine u_aload_n (i := 0) (pc' := 9) dX9_tuneAt_8 rfl rfl rfl ?_
    refine u_getR (a := 79) (pc' := 12) dX9_tuneAt_9 rfl fl_TuneDoor_Whistles_11 rfl (by decide) kd_78 rfl ?_
    refine u_iload_n (i := 1) (pc' := 13) dX9_tuneAt_12 rfl rfl rfl ?_
    obtain ⟨c3, c4, h⟩ := h
    have j5 : a0.toNat < 3 := by omega
    refine u_aaload_A (k := a0.toNat) (a := (79 + 1 + a0.toNat)) (pc' := 14) dX9_tuneAt_13 rfl (by decide) kd_79 c3 c4 (by decide) rfl (kWhi (Or.inl rfl) j5).1 ?_
    refine u_iload_n (i := 2) (pc' := 15) dX9_tuneAt_14 rfl rfl rfl ?_
    obtain ⟨c6, c7, h⟩ := h
    refine u_iaload (k := a1.toNat) (z := (τ1 (79 + 1 + a0.toNat) a1.toNat)) (pc' := 16) dX9_tuneAt_15 rfl (by omega) (kWhi (Or.inl rfl) j5).2 c6 c7 (by decide) rfl rfl (fun r8 => ?_)
    refine u_goto (tgt := 20) dX9_tuneAt_16 (by decide) ?_
    exact u_iret dX9_tuneAt_20 rfl h
theorem mX9_tuneAt {E : mm_Env} {d : Nat} {τ : mm_Mem} {Q : mm_Q0} {a0 : Int} {a1 : Int} (h : M0 E d qX9_isThere [vI a0, vI a1] τ (fun v τ1 => ∃ b2 : Bool, v = some (vB b2) ∧ ((b2 = false → Q (some (vI (-1))) τ1) ∧ (b2 = true → 0 ≤ a0 ∧ a0 < 3 ∧ 0 ≤ a1 ∧ a1 < 1000 ∧ Q (some (vI (τ1 (79 + 1 + a0.toNat) a1.toNat))) τ1)))) : M0 E (d + 1) qX9_tuneAt [vR 78, vI a0, vI a1] τ Q := M0_of rfl (Nat.le_of_ble_eq_true rfl) [some (vR 78), some (vI a0), some (vI a1)] rfl (bX9_tuneAt_0  h)
set_option maxRecDepth 20000 in
theorem bX9_roundLength_0 {E : mm_Env} {d : Nat} {τ : mm_Mem} {Q : mm_Q0} {a0 : Int} (h : M0 E d qX9_isThere [vI a0, vI 0] τ (fun v τ1 => ∃ b2 : Bool, v = some (vB b2) ∧ ((b2 = true → V0 E (d + 1) qX9_roundLength 12 [some (vR 78), some (vI a0), some (vI 1)] [] τ1 Q) ∧ (b2 = false → Q (some (vI (-1))) τ1)))) : V0 E (d + 1) qX9_roundLength 0 [some (vR 78), some (vI a0), none] [] τ Q := by
  refine u_iload_n (i := 1) (pc' := 1) dX9_roundLength_0 rfl rfl rfl ?_
  refine u_iconst (pc' := 2) dX9_roundLength_1 rfl ?_
  refine u_invS (q' := qX9_isThere) (As := [vI a0, vI 0]) (st := []) (pc' := 5) dX9_roundLength_2 rfl gX9_isThere wm_864 wm_865 rfl (Nat.le_of_ble_eq_true rfl) (M0.mono h (fun v τ1 h => ?_))
  obtain ⟨b2, rfl, h⟩ := h
  show V0 E (d + 1) qX9_roundLength 5 [some (vR 78), some (vI a0), none] [vB b2] τ1 Q
  refine u_if_ne (tgt := 10) (pc' := 8) dX9_roundLength_5 rfl (by decide) (bI_R _) (fun hb => ?_) (fun hb => ?_)
  · have h := h.1 (bI_n0.mp hb)
    refine u_iconst (pc' := 11) dX9_roundLength_10 rfl ?_
    refine s_istore_n (i := 2) (ls' := [some (vR 78), some (vI a0), some (vI 1)]) (pc' := 12) dX9_roundLength_11 rfl rfl (Nat.le_of_ble_eq_true rfl) rfl rfl ?_
    exact u_less (ls' := [some (vR 78), some (vI a0), some (vI 1)]) ⟨rfl, ⟨rfl, ⟨rfl, trivial⟩⟩⟩ h
  · have h := h.2 (bI_0.mp hb)
    refine u_iconst (pc' := 9) dX9_roundLength_8 rfl ?_
    exact u_iret dX9_roundLength_9 rfl h
theorem mX9_roundLength {E : mm_Env} {d : Nat} {τ : mm_Mem} {Q : mm_Q0} {a0 : Int} (h : M0 E d qX9_isThere [vI a0, vI 0] τ (fun v τ1 => ∃ b2 : Bool, v = some (vB b2) ∧ ((b2 = true → V0 E (d + 1) qX9_roundLength 12 [some (vR 78), some (vI a0), some (vI 1)] [] τ1 Q) ∧ (b2 = false → Q (some (vI (-1))) τ1)))) : M0 E (d + 1) qX9_roundLength [vR 78, vI a0] τ Q := M0_of rfl (Nat.le_of_ble_eq_true rfl) [some (vR 78), some (vI a0), none] rfl (bX9_roundLength_0  h)
set_option maxRecDepth 20000 in
theorem bX9_roundLength_12 {E : mm_Env} {d : Nat} {τ : mm_Mem} {Q : mm_Q0} {x1 : Int} {x2 : Int} (h : inR x2 ∧ ((1000 ≤ x2 → Q (some (vI (-1))) τ) ∧ (¬ 1000 ≤ x2 → M0 E d qX9_isAlike [vR 78, vI x1, vI (999 - x2), vI 999] τ (fun v τ2 => ∃ b3 : Bool, v = some (vB b3) ∧ ((b3 = false → V0 E (d + 1) qX9_roundLength 12 [some (vR 78), some (vI x1), some (vI (x2 + 1))] [] τ2 Q) ∧ (b3 = true → Q (some (vI x2)) τ2)))))) : V0 E (d + 1) qX9_roundLength 12 [some (vR 78), some (vI x1), some (vI x2)] [] τ Q := by
  refine u_iload_n (i := 2) (pc' := 13) dX9_roundLength_12 rfl rfl rfl ?_
  refine u_sipush (pc' := 16) dX9_roundLength_13 rfl (by decide) ?_
  obtain ⟨c1, h⟩ := h
  refine u_icmp_ge (tgt := 43) (pc' := 19) dX9_roundLength_16 rfl (by decide) c1 ⟨by decide, by decide⟩ (fun hb => ?_) (fun hb => ?_)
  · have h := h.1 hb
    refine u_iconst (pc' := 44) dX9_roundLength_43 rfl ?_
    exact u_iret dX9_roundLength_44 rfl h
  · have h := h.2 hb
    refine u_aload_n (i := 0) (pc' := 20) dX9_roundLength_19 rfl rfl rfl ?_
    refine u_iload_n (i := 1) (pc' := 21) dX9_roundLength_20 rfl rfl rfl ?_
    refine u_sipush (pc' := 24) dX9_roundLength_21 rfl (by decide) ?_
    refine u_iload_n (i := 2) (pc' := 25) dX9_roundLength_24 rfl rfl rfl ?_
    refine u_isub (pc' := 26) dX9_roundLength_25 rfl ?_
    refine u_sipush (pc' := 29) dX9_roundLength_26 rfl (by decide) ?_
    refine u_invV (q' := qX9_isAlike) (As := [vI x1, vI (999 - x2), vI 999]) (st := []) (pc' := 32) dX9_roundLength_29 rfl gX9_isAlike wm_805 rfl rfl (by decide) kd_78 wm_807 wp_40 rfl (Nat.le_of_ble_eq_true rfl) (M0.mono h (fun v τ2 h => ?_))
    obtain ⟨b3, rfl, h⟩ := h
    show V0 E (d + 1) qX9_roundLength 32 [some (vR 78), some (vI x1), some (vI x2)] [vB b3] τ2 Q
    refine u_if_eq (tgt := 37) (pc' := 35) dX9_roundLength_32 rfl (by decide) (bI_R _) (fun hb => ?_) (fun hb => ?_)
    · have h := h.1 (bI_0.mp hb)
      refine s_iinc (i := 2) (ls' := [some (vR 78), some (vI x1), some (vI (x2 + 1))]) (pc' := 40) dX9_roundLength_37 rfl rfl (Nat.le_of_ble_eq_true rfl) rfl rfl ?_
      refine u_goto (tgt := 12) dX9_roundLength_40 (by decide) ?_
      exact u_less (ls' := [some (vR 78), some (vI x1), some (vI (x2 + 1))]) ⟨rfl, ⟨rfl, ⟨rfl, trivial⟩⟩⟩ h
    · have h := h.2 (bI_n0.mp hb)
      refine u_iload_n (i := 2) (pc' := 36) dX9_roundLength_35 rfl rfl rfl ?_
      exact u_iret dX9_roundLength_36 rfl h
set_option maxRecDepth 20000 in
theorem bX9_roundStart_0 {E : mm_Env} {d : Nat} {τ : mm_Mem} {Q : mm_Q0} {a0 : Int} {a1 : Int} (h : M0 E d qX9_isThere [vI a0, vI a1] τ (fun v τ1 => ∃ b2 : Bool, v = some (vB b2) ∧ ((b2 = true → V0 E (d + 1) qX9_roundStart 12 [some (vR 78), some (vI a0), some (vI a1), some (vI 0)] [] τ1 Q) ∧ (b2 = false → Q (some (vI (-1))) τ1)))) : V0 E (d + 1) qX9_roundStart 0 [some (vR 78), some (vI a0), some (vI a1), none] [] τ Q := by
  refine u_iload_n (i := 1) (pc' := 1) dX9_roundStart_0 rfl rfl rfl ?_
  refine u_iload_n (i := 2) (pc' := 2) dX9_roundStart_1 rfl rfl rfl ?_
  refine u_invS (q' := qX9_isThere) (As := [vI a0, vI a1]) (st := []) (pc' := 5) dX9_roundStart_2 rfl gX9_isThere wm_864 wm_865 rfl (Nat.le_of_ble_eq_true rfl) (M0.mono h (fun v τ1 h => ?_))
  obtain ⟨b2, rfl, h⟩ := h
  show V0 E (d + 1) qX9_roundStart 5 [some (vR 78), some (vI a0), some (vI a1), none] [vB b2] τ1 Q
  refine u_if_ne (tgt := 10) (pc' := 8) dX9_roundStart_5 rfl (by decide) (bI_R _) (fun hb => ?_) (fun hb => ?_)
  · have h := h.1 (bI_n0.mp hb)
    refine u_iconst (pc' := 11) dX9_roundStart_10 rfl ?_
    refine s_istore_n (i := 3) (ls' := [some (vR 78), some (vI a0), some (vI a1), some (vI 0)]) (pc' := 12) dX9_roundStart_11 rfl rfl (Nat.le_of_ble_eq_true rfl) rfl rfl ?_
    exact u_less (ls' := [some (vR 78), some (vI a0), some (vI a1), some (vI 0)]) ⟨rfl, ⟨rfl, ⟨rfl, ⟨rfl, trivial⟩⟩⟩⟩ h
  · have h := h.2 (bI_0.mp hb)
    refine u_iconst (pc' := 9) dX9_roundStart_8 rfl ?_
    exact u_iret dX9_roundStart_9 rfl h
theorem mX9_roundStart {E : mm_Env} {d : Nat} {τ : mm_Mem} {Q : mm_Q0} {a0 : Int} {a1 : Int} (h : M0 E d qX9_isThere [vI a0, vI a1] τ (fun v τ1 => ∃ b2 : Bool, v = some (vB b2) ∧ ((b2 = true → V0 E (d + 1) qX9_roundStart 12 [some (vR 78), some (vI a0), some (vI a1), some (vI 0)] [] τ1 Q) ∧ (b2 = false → Q (some (vI (-1))) τ1)))) : M0 E (d + 1) qX9_roundStart [vR 78, vI a0, vI a1] τ Q := M0_of rfl (Nat.le_of_ble_eq_true rfl) [some (vR 78), some (vI a0), some (vI a1), none] rfl (bX9_roundStart_0  h)
set_option maxRecDepth 20000 in
theorem bX9_roundStart_12 {E : mm_Env} {d : Nat} {τ : mm_Mem} {Q : mm_Q0} {x1 : Int} {x2 : Int} {x3 : Int} (h : inR (x3 + x2) ∧ ((1000 ≤ (x3 + x2) → Q (some (vI (-1))) τ) ∧ (¬ 1000 ≤ (x3 + x2) → M0 E d qX9_isAlike [vR 78, vI x1, vI x3, vI (x3 + x2)] τ (fun v τ2 => ∃ b3 : Bool, v = some (vB b3) ∧ ((b3 = false → V0 E (d + 1) qX9_roundStart 12 [some (vR 78), some (vI x1), some (vI x2), some (vI (x3 + 1))] [] τ2 Q) ∧ (b3 = true → Q (some (vI x3)) τ2)))))) : V0 E (d + 1) qX9_roundStart 12 [some (vR 78), some (vI x1), some (vI x2), some (vI x3)] [] τ Q := by
  refine u_iload_n (i := 3) (pc' := 13) dX9_roundStart_12 rfl rfl rfl ?_
  refine u_iload_n (i := 2) (pc' := 14) dX9_roundStart_13 rfl rfl rfl ?_
  refine u_iadd (pc' := 15) dX9_roundStart_14 rfl ?_
  refine u_sipush (pc' := 18) dX9_roundStart_15 rfl (by decide) ?_
  obtain ⟨c1, h⟩ := h
  refine u_icmp_ge (tgt := 41) (pc' := 21) dX9_roundStart_18 rfl (by decide) c1 ⟨by decide, by decide⟩ (fun hb => ?_) (fun hb => ?_)
  · have h := h.1 hb
    refine u_iconst (pc' := 42) dX9_roundStart_41 rfl ?_
    exact u_iret dX9_roundStart_42 rfl h
  · have h := h.2 hb
    refine u_aload_n (i := 0) (pc' := 22) dX9_roundStart_21 rfl rfl rfl ?_
    refine u_iload_n (i := 1) (pc' := 23) dX9_roundStart_22 rfl rfl rfl ?_
    refine u_iload_n (i := 3) (pc' := 24) dX9_roundStart_23 rfl rfl rfl ?_
    refine u_iload_n (i := 3) (pc' := 25) dX9_roundStart_24 rfl rfl rfl ?_
    refine u_iload_n (i := 2) (pc' := 26) dX9_roundStart_25 rfl rfl rfl ?_
    refine u_iadd (pc' := 27) dX9_roundStart_26 rfl ?_
    refine u_invV (q' := qX9_isAlike) (As := [vI x1, vI x3, vI (x3 + x2)]) (st := []) (pc' := 30) dX9_roundStart_27 rfl gX9_isAlike wm_805 rfl rfl (by decide) kd_78 wm_807 wp_40 rfl (Nat.le_of_ble_eq_true rfl) (M0.mono h (fun v τ2 h => ?_))
    obtain ⟨b3, rfl, h⟩ := h
    show V0 E (d + 1) qX9_roundStart 30 [some (vR 78), some (vI x1), some (vI x2), some (vI x3)] [vB b3] τ2 Q
    refine u_if_eq (tgt := 35) (pc' := 33) dX9_roundStart_30 rfl (by decide) (bI_R _) (fun hb => ?_) (fun hb => ?_)
    · have h := h.1 (bI_0.mp hb)
      refine s_iinc (i := 3) (ls' := [some (vR 78), some (vI x1), some (vI x2), some (vI (x3 + 1))]) (pc' := 38) dX9_roundStart_35 rfl rfl (Nat.le_of_ble_eq_true rfl) rfl rfl ?_
      refine u_goto (tgt := 12) dX9_roundStart_38 (by decide) ?_
      exact u_less (ls' := [some (vR 78), some (vI x1), some (vI x2), some (vI (x3 + 1))]) ⟨rfl, ⟨rfl, ⟨rfl, ⟨rfl, trivial⟩⟩⟩⟩ h
    · have h := h.2 (bI_n0.mp hb)
      refine u_iload_n (i := 3) (pc' := 34) dX9_roundStart_33 rfl rfl rfl ?_
      exact u_iret dX9_roundStart_34 rfl h
set_option maxRecDepth 20000 in
theorem bX9_seek_0 {E : mm_Env} {d : Nat} {τ : mm_Mem} {Q : mm_Q0} {a0 : Int} {a1 : Int} {a2 : Int} {a3 : Int} {a4 : Int} (h : M0 E d qX9_isThere [vI a0, vI 0] τ (fun v τ1 => ∃ b2 : Bool, v = some (vB b2) ∧ ((b2 = true → M0 E d qJ9_min_7cf53 [vI a2, vI 999] τ1 (fun v τ3 => ∃ r4 : Int, v = some (vI r4) ∧ M0 E d qJ9_max_7cf53 [vI a1, vI 0] τ3 (fun v τ5 => ∃ r6 : Int, v = some (vI r6) ∧ V0 E (d + 1) qX9_seek 26 [some (vR 78), some (vI a0), none, none, some (vI a3), some (vI a4), some (vI r4), some (vI r6)] [] τ5 Q))) ∧ (b2 = false → Q (some (vI (-1))) τ1)))) : V0 E (d + 1) qX9_seek 0 [some (vR 78), some (vI a0), some (vI a1), some (vI a2), some (vI a3), some (vI a4), none, none] [] τ Q := by
  refine u_iload_n (i := 1) (pc' := 1) dX9_seek_0 rfl rfl rfl ?_
  refine u_iconst (pc' := 2) dX9_seek_1 rfl ?_
  refine u_invS (q' := qX9_isThere) (As := [vI a0, vI 0]) (st := []) (pc' := 5) dX9_seek_2 rfl gX9_isThere wm_864 wm_865 rfl (Nat.le_of_ble_eq_true rfl) (M0.mono h (fun v τ1 h => ?_))
  obtain ⟨b2, rfl, h⟩ := h
  show V0 E (d + 1) qX9_seek 5 [some (vR 78), some (vI a0), some (vI a1), some (vI a2), some (vI a3), some (vI a4), none, none] [vB b2] τ1 Q
  refine u_if_ne (tgt := 10) (pc' := 8) dX9_seek_5 rfl (by decide) (bI_R _) (fun hb => ?_) (fun hb => ?_)
  · have h := h.1 (bI_n0.mp hb)
    refine u_iload_n (i := 3) (pc' := 11) dX9_seek_10 rfl rfl rfl ?_
    refine u_sipush (pc' := 14) dX9_seek_11 rfl (by decide) ?_
    refine u_invS (q' := qJ9_min_7cf53) (As := [vI a2, vI 999]) (st := []) (pc' := 17) dX9_seek_14 rfl gJ9_min_7cf53 wm_925 wm_530 rfl (Nat.le_of_ble_eq_true rfl) (M0.mono h (fun v τ3 h => ?_))
    obtain ⟨r4, rfl, h⟩ := h
    show V0 E (d + 1) qX9_seek 17 [some (vR 78), some (vI a0), some (vI a1), some (vI a2), some (vI a3), some (vI a4), none, none] [vI r4] τ3 Q
    refine s_istore (i := 6) (ls' := [some (vR 78), some (vI a0), some (vI a1), some (vI a2), some (vI a3), some (vI a4), some (vI r4), none]) (pc' := 19) dX9_seek_17 rfl (Nat.le_of_ble_eq_true rfl) rfl rfl ?_
    refine u_iload_n (i := 2) (pc' := 20) dX9_seek_19 rfl rfl rfl ?_
    refine u_iconst (pc' := 21) dX9_seek_20 rfl ?_
    refine u_invS (q' := qJ9_max_7cf53) (As := [vI a1, vI 0]) (st := []) (pc' := 24) dX9_seek_21 rfl gJ9_max_7cf53 wm_813 wm_814 rfl (Nat.le_of_ble_eq_true rfl) (M0.mono h (fun v τ5 h => ?_))
    obtain ⟨r6, rfl, h⟩ := h
    show V0 E (d + 1) qX9_seek 24 [some (vR 78), some (vI a0), some (vI a1), some (vI a2), some (vI a3), some (vI a4), some (vI r4), none] [vI r6] τ5 Q
    refine s_istore (i := 7) (ls' := [some (vR 78), some (vI a0), some (vI a1), some (vI a2), some (vI a3), some (vI a4), some (vI r4), some (vI r6)]) (pc' := 26) dX9_seek_24 rfl (Nat.le_of_ble_eq_true rfl) rfl rfl ?_
    exact u_less (ls' := [some (vR 78), some (vI a0), none, none, some (vI a3), some (vI a4), some (vI r4), some (vI r6)]) ⟨rfl, ⟨rfl, ⟨rfl, ⟨rfl, ⟨rfl, ⟨rfl, trivial⟩⟩⟩⟩⟩⟩ h
  · have h := h.2 (bI_0.mp hb)
    refine u_iconst (pc' := 9) dX9_seek_8 rfl ?_
    exact u_iret dX9_seek_9 rfl h
theorem mX9_seek {E : mm_Env} {d : Nat} {τ : mm_Mem} {Q : mm_Q0} {a0 : Int} {a1 : Int} {a2 : Int} {a3 : Int} {a4 : Int} (h : M0 E d qX9_isThere [vI a0, vI 0] τ (fun v τ1 => ∃ b2 : Bool, v = some (vB b2) ∧ ((b2 = true → M0 E d qJ9_min_7cf53 [vI a2, vI 999] τ1 (fun v τ3 => ∃ r4 : Int, v = some (vI r4) ∧ M0 E d qJ9_max_7cf53 [vI a1, vI 0] τ3 (fun v τ5 => ∃ r6 : Int, v = some (vI r6) ∧ V0 E (d + 1) qX9_seek 26 [some (vR 78), some (vI a0), none, none, some (vI a3), some (vI a4), some (vI r4), some (vI r6)] [] τ5 Q))) ∧ (b2 = false → Q (some (vI (-1))) τ1)))) : M0 E (d + 1) qX9_seek [vR 78, vI a0, vI a1, vI a2, vI a3, vI a4] τ Q := M0_of rfl (Nat.le_of_ble_eq_true rfl) [some (vR 78), some (vI a0), some (vI a1), some (vI a2), some (vI a3), some (vI a4), none, none] rfl (bX9_seek_0  h)
set_option maxRecDepth 20000 in
theorem bX9_seek_26 {E : mm_Env} {d : Nat} {τ : mm_Mem} {Q : mm_Q0} {x1 : Int} {x4 : Int} {x5 : Int} {x6 : Int} {x7 : Int} (h : inR x7 ∧ inR x6 ∧ ((x6 < x7 → Q (some (vI (-1))) τ) ∧ (¬ x6 < x7 → 0 ≤ x1 ∧ x1 < 3 ∧ 0 ≤ x7 ∧ x7 < 1000 ∧ M0 E d qX9_unlikeNotes [vI (τ (79 + 1 + x1.toNat) x7.toNat), vI x4] τ (fun v τ9 => ∃ r10 : Int, v = some (vI r10) ∧ inR r10 ∧ inR x5 ∧ ((x5 < r10 → V0 E (d + 1) qX9_seek 26 [some (vR 78), some (vI x1), none, none, some (vI x4), some (vI x5), some (vI x6), some (vI (x7 + 1))] [] τ9 Q) ∧ (¬ x5 < r10 → Q (some (vI x7)) τ9)))))) : V0 E (d + 1) qX9_seek 26 [some (vR 78), some (vI x1), none, none, some (vI x4), some (vI x5), some (vI x6), some (vI x7)] [] τ Q := by
  refine u_iload (i := 7) (pc' := 28) dX9_seek_26 rfl rfl ?_
  refine u_iload (i := 6) (pc' := 30) dX9_seek_28 rfl rfl ?_
  obtain ⟨c1, c2, h⟩ := h
  refine u_icmp_gt (tgt := 61) (pc' := 33) dX9_seek_30 rfl (by decide) c1 c2 (fun hb => ?_) (fun hb => ?_)
  · have h := h.1 hb
    refine u_iconst (pc' := 62) dX9_seek_61 rfl ?_
    exact u_iret dX9_seek_62 rfl h
  · have h := h.2 hb
    refine u_aload_n (i := 0) (pc' := 34) dX9_seek_33 rfl rfl rfl ?_
    refine u_getR (a := 79) (pc' := 37) dX9_seek_34 rfl fl_TuneDoor_Whistles_11 rfl (by decide) kd_78 rfl ?_
    refine u_iload_n (i := 1) (pc' := 38) dX9_seek_37 rfl rfl rfl ?_
    obtain ⟨c3, c4, h⟩ := h
    have j5 : x1.toNat < 3 := by omega
    refine u_aaload_A (k := x1.toNat) (a := (79 + 1 + x1.toNat)) (pc' := 39) dX9_seek_38 rfl (by decide) kd_79 c3 c4 (by decide) rfl (kWhi (Or.inl rfl) j5).1 ?_
    refine u_iload (i := 7) (pc' := 41) dX9_seek_39 rfl rfl ?_
    obtain ⟨c6, c7, h⟩ := h
    refine u_iaload (k := x7.toNat) (z := (τ (79 + 1 + x1.toNat) x7.toNat)) (pc' := 42) dX9_seek_41 rfl (by omega) (kWhi (Or.inl rfl) j5).2 c6 c7 (by decide) rfl rfl (fun r8 => ?_)
    refine u_iload (i := 4) (pc' := 44) dX9_seek_42 rfl rfl ?_
    refine u_invS (q' := qX9_unlikeNotes) (As := [vI (τ (79 + 1 + x1.toNat) x7.toNat), vI x4]) (st := []) (pc' := 47) dX9_seek_44 rfl gX9_unlikeNotes wm_926 wm_927 rfl (Nat.le_of_ble_eq_true rfl) (M0.mono h (fun v τ9 h => ?_))
    obtain ⟨r10, rfl, h⟩ := h
    show V0 E (d + 1) qX9_seek 47 [some (vR 78), some (vI x1), none, none, some (vI x4), some (vI x5), some (vI x6), some (vI x7)] [vI r10] τ9 Q
    refine u_iload (i := 5) (pc' := 49) dX9_seek_47 rfl rfl ?_
    obtain ⟨c11, c12, h⟩ := h
    refine u_icmp_gt (tgt := 55) (pc' := 52) dX9_seek_49 rfl (by decide) c11 c12 (fun hb => ?_) (fun hb => ?_)
    · have h := h.1 hb
      refine s_iinc (i := 7) (ls' := [some (vR 78), some (vI x1), none, none, some (vI x4), some (vI x5), some (vI x6), some (vI (x7 + 1))]) (pc' := 58) dX9_seek_55 rfl rfl (Nat.le_of_ble_eq_true rfl) rfl rfl ?_
      refine u_goto (tgt := 26) dX9_seek_58 (by decide) ?_
      exact u_less (ls' := [some (vR 78), some (vI x1), none, none, some (vI x4), some (vI x5), some (vI x6), some (vI (x7 + 1))]) ⟨rfl, ⟨rfl, ⟨rfl, ⟨rfl, ⟨rfl, ⟨rfl, trivial⟩⟩⟩⟩⟩⟩ h
    · have h := h.2 hb
      refine u_iload (i := 7) (pc' := 54) dX9_seek_52 rfl rfl ?_
      exact u_iret dX9_seek_54 rfl h
set_option maxRecDepth 20000 in
theorem bX9_unlikeNotes_0 {E : mm_Env} {d : Nat} {τ : mm_Mem} {Q : mm_Q0} {a0 : Int} {a1 : Int} (h : M0 E d qJ6_bitCount_0f7a4 [vI (mm_and (mm_or (mm_or (mm_xor a0 a1) (mm_shr (mm_xor a0 a1) 1)) (mm_shr (mm_xor a0 a1) 2)) 4681)] τ (fun v τ1 => ∃ r2 : Int, v = some (vI r2) ∧ Q (some (vI r2)) τ1)) : V0 E (d + 1) qX9_unlikeNotes 0 [some (vI a0), some (vI a1), none] [] τ Q := by
  refine u_iload_n (i := 0) (pc' := 1) dX9_unlikeNotes_0 rfl rfl rfl ?_
  refine u_iload_n (i := 1) (pc' := 2) dX9_unlikeNotes_1 rfl rfl rfl ?_
  refine u_ixor (pc' := 3) dX9_unlikeNotes_2 rfl ?_
  refine s_istore_n (i := 2) (ls' := [some (vI a0), some (vI a1), some (vI (mm_xor a0 a1))]) (pc' := 4) dX9_unlikeNotes_3 rfl rfl (Nat.le_of_ble_eq_true rfl) rfl rfl ?_
  refine u_iload_n (i := 2) (pc' := 5) dX9_unlikeNotes_4 rfl rfl rfl ?_
  refine u_iload_n (i := 2) (pc' := 6) dX9_unlikeNotes_5 rfl rfl rfl ?_
  refine u_iconst (pc' := 7) dX9_unlikeNotes_6 rfl ?_
  refine u_ishr (pc' := 8) dX9_unlikeNotes_7 rfl ?_
  refine u_ior (pc' := 9) dX9_unlikeNotes_8 rfl ?_
  refine u_iload_n (i := 2) (pc' := 10) dX9_unlikeNotes_9 rfl rfl rfl ?_
  refine u_iconst (pc' := 11) dX9_unlikeNotes_10 rfl ?_
  refine u_ishr (pc' := 12) dX9_unlikeNotes_11 rfl ?_
  refine u_ior (pc' := 13) dX9_unlikeNotes_12 rfl ?_
  refine u_sipush (pc' := 16) dX9_unlikeNotes_13 rfl (by decide) ?_
  refine u_iand (pc' := 17) dX9_unlikeNotes_16 rfl ?_
  refine u_invS (q' := qJ6_bitCount_0f7a4) (As := [vI (mm_and (mm_or (mm_or (mm_xor a0 a1) (mm_shr (mm_xor a0 a1) 1)) (mm_shr (mm_xor a0 a1) 2)) 4681)]) (st := []) (pc' := 20) dX9_unlikeNotes_17 rfl gJ6_bitCount_0f7a4 wm_929 wm_930 rfl (Nat.le_of_ble_eq_true rfl) (M0.mono h (fun v τ1 h => ?_))
  obtain ⟨r2, rfl, h⟩ := h
  show V0 E (d + 1) qX9_unlikeNotes 20 [some (vI a0), some (vI a1), some (vI (mm_xor a0 a1))] [vI r2] τ1 Q
  exact u_iret dX9_unlikeNotes_20 rfl h
theorem mX9_unlikeNotes {E : mm_Env} {d : Nat} {τ : mm_Mem} {Q : mm_Q0} {a0 : Int} {a1 : Int} (h : M0 E d qJ6_bitCount_0f7a4 [vI (mm_and (mm_or (mm_or (mm_xor a0 a1) (mm_shr (mm_xor a0 a1) 1)) (mm_shr (mm_xor a0 a1) 2)) 4681)] τ (fun v τ1 => ∃ r2 : Int, v = some (vI r2) ∧ Q (some (vI r2)) τ1)) : M0 E (d + 1) qX9_unlikeNotes [vI a0, vI a1] τ Q := M0_of rfl (Nat.le_of_ble_eq_true rfl) [some (vI a0), some (vI a1), none] rfl (bX9_unlikeNotes_0  h)
