set_option maxRecDepth 20000 in
theorem bX5_clear_0 {E : mm_Env} {d : Nat} {τ : mm_Mem} {Q : mm_Q0} {ths : Nat} (k_ths : KD ths = some (.inr 5)) (h : M0 E d qJ7_fill_53178 [vR (ths + 2), vI 0] (wr τ ths 1 0) (fun v τ1 => v = none ∧ Q none τ1)) : V0 E (d + 1) qX5_clear 0 [some (vR ths)] [] τ Q := by
  refine u_aload_n (i := 0) (pc' := 1) dX5_clear_0 rfl rfl rfl ?_
  refine u_iconst (pc' := 2) dX5_clear_1 rfl ?_
  refine u_putI (pc' := 5) dX5_clear_2 rfl fl_TuneDoor_Rules_33 rfl rfl (by decide) (kRules k_ths).1 k_ths ⟨by decide, by decide⟩ ?_
  refine u_aload_n (i := 0) (pc' := 6) dX5_clear_5 rfl rfl rfl ?_
  refine u_getR (a := (ths + 2)) (pc' := 9) dX5_clear_6 rfl fl_TuneDoor_Rules_15 rfl (kRules k_ths).1 k_ths (kRules k_ths).2.2.1 ?_
  refine u_iconst (pc' := 10) dX5_clear_9 rfl ?_
  refine u_invS (q' := qJ7_fill_53178) (As := [vR (ths + 2), vI 0]) (st := []) (pc' := 13) dX5_clear_10 rfl gJ7_fill_53178 wm_566 wm_567 rfl (Nat.le_of_ble_eq_true rfl) (M0.mono h (fun v τ1 h => ?_))
  obtain ⟨rfl, h⟩ := h
  show V0 E (d + 1) qX5_clear 13 [some (vR ths)] [] τ1 Q
  exact u_ret dX5_clear_13 rfl h
theorem mX5_clear {E : mm_Env} {d : Nat} {τ : mm_Mem} {Q : mm_Q0} {ths : Nat} (k_ths : KD ths = some (.inr 5)) (h : M0 E d qJ7_fill_53178 [vR (ths + 2), vI 0] (wr τ ths 1 0) (fun v τ1 => v = none ∧ Q none τ1)) : M0 E (d + 1) qX5_clear [vR ths] τ Q := M0_of rfl (Nat.le_of_ble_eq_true rfl) [some (vR ths)] rfl (bX5_clear_0 k_ths h)
set_option maxRecDepth 20000 in
theorem bX5_howMany_0 {E : mm_Env} {d : Nat} {τ : mm_Mem} {Q : mm_Q0} {ths : Nat} {a0 : Int} (k_ths : KD ths = some (.inr 5)) (h : inR a0 ∧ ((a0 < 0 → Q (some (vI 0)) τ) ∧ (¬ a0 < 0 → ((a0 < 3 → 0 ≤ a0 ∧ a0 < 3 ∧ Q (some (vI (τ (ths + 2) a0.toNat))) τ) ∧ (¬ a0 < 3 → Q (some (vI 0)) τ))))) : V0 E d qX5_howMany 0 [some (vR ths), some (vI a0)] [] τ Q := by
  refine u_iload_n (i := 1) (pc' := 1) dX5_howMany_0 rfl rfl rfl ?_
  obtain ⟨c1, h⟩ := h
  refine u_if_lt (tgt := 9) (pc' := 4) dX5_howMany_1 rfl (by decide) c1 (fun hb => ?_) (fun hb => ?_)
  · have h := h.1 hb
    refine u_iconst (pc' := 10) dX5_howMany_9 rfl ?_
    refine u_goto (tgt := 19) dX5_howMany_10 (by decide) ?_
    exact u_iret dX5_howMany_19 rfl h
  · have h := h.2 hb
    refine u_iload_n (i := 1) (pc' := 5) dX5_howMany_4 rfl rfl rfl ?_
    refine u_iconst (pc' := 6) dX5_howMany_5 rfl ?_
    refine u_icmp_lt (tgt := 13) (pc' := 9) dX5_howMany_6 rfl (by decide) c1 ⟨by decide, by decide⟩ (fun hb => ?_) (fun hb => ?_)
    · have h := h.1 hb
      refine u_aload_n (i := 0) (pc' := 14) dX5_howMany_13 rfl rfl rfl ?_
      refine u_getR (a := (ths + 2)) (pc' := 17) dX5_howMany_14 rfl fl_TuneDoor_Rules_15 rfl (kRules k_ths).1 k_ths (kRules k_ths).2.2.1 ?_
      refine u_iload_n (i := 1) (pc' := 18) dX5_howMany_17 rfl rfl rfl ?_
      obtain ⟨c2, c3, h⟩ := h
      refine u_iaload (k := a0.toNat) (z := (τ (ths + 2) a0.toNat)) (pc' := 19) dX5_howMany_18 rfl (Nat.le_trans (kRules k_ths).1 (Nat.le_add_right _ _)) (kRules k_ths).2.2.2.2.2.2.2.2.2.1 c2 c3 (by decide) rfl rfl (fun r4 => ?_)
      exact u_iret dX5_howMany_19 rfl h
    · have h := h.2 hb
      refine u_iconst (pc' := 10) dX5_howMany_9 rfl ?_
      refine u_goto (tgt := 19) dX5_howMany_10 (by decide) ?_
      exact u_iret dX5_howMany_19 rfl h
theorem mX5_howMany {E : mm_Env} {d : Nat} {τ : mm_Mem} {Q : mm_Q0} {ths : Nat} {a0 : Int} (k_ths : KD ths = some (.inr 5)) (h : inR a0 ∧ ((a0 < 0 → Q (some (vI 0)) τ) ∧ (¬ a0 < 0 → ((a0 < 3 → 0 ≤ a0 ∧ a0 < 3 ∧ Q (some (vI (τ (ths + 2) a0.toNat))) τ) ∧ (¬ a0 < 3 → Q (some (vI 0)) τ))))) : M0 E d qX5_howMany [vR ths, vI a0] τ Q := M0_of rfl (Nat.le_of_ble_eq_true rfl) [some (vR ths), some (vI a0)] rfl (bX5_howMany_0 k_ths h)
set_option maxRecDepth 20000 in
theorem bX5_roomFor_0 {E : mm_Env} {d : Nat} {τ : mm_Mem} {Q : mm_Q0} {a0 : Int} (h : inR a0 ∧ ((a0 ≠ 2 → Q (some (vI 6)) τ) ∧ (a0 = 2 → Q (some (vI 4)) τ))) : V0 E d qX5_roomFor 0 [some (vI a0)] [] τ Q := by
  refine u_iload_n (i := 0) (pc' := 1) dX5_roomFor_0 rfl rfl rfl ?_
  refine u_iconst (pc' := 2) dX5_roomFor_1 rfl ?_
  obtain ⟨c1, h⟩ := h
  refine u_icmp_ne (tgt := 9) (pc' := 5) dX5_roomFor_2 rfl (by decide) c1 ⟨by decide, by decide⟩ (fun hb => ?_) (fun hb => ?_)
  · have h := h.1 hb
    refine u_bipush (pc' := 11) dX5_roomFor_9 rfl (by decide) ?_
    exact u_iret dX5_roomFor_11 rfl h
  · have h := h.2 hb
    refine u_iconst (pc' := 6) dX5_roomFor_5 rfl ?_
    refine u_goto (tgt := 11) dX5_roomFor_6 (by decide) ?_
    exact u_iret dX5_roomFor_11 rfl h
theorem mX5_roomFor {E : mm_Env} {d : Nat} {τ : mm_Mem} {Q : mm_Q0} {a0 : Int} (h : inR a0 ∧ ((a0 ≠ 2 → Q (some (vI 6)) τ) ∧ (a0 = 2 → Q (some (vI 4)) τ))) : M0 E d qX5_roomFor [vI a0] τ Q := M0_of rfl (Nat.le_of_ble_eq_true rfl) [some (vI a0)] rfl (bX5_roomFor_0  h)
set_option maxRecDepth 20000 in
theorem bX5_beginSum_0 {E : mm_Env} {d : Nat} {τ : mm_Mem} {Q : mm_Q0} {ths : Nat} {a0 : Int} (k_ths : KD ths = some (.inr 5)) (h : M0 E d qX5_slot [vR ths, vI a0] τ (fun v τ1 => ∃ r2 : Int, v = some (vI r2) ∧ 0 ≤ r2 ∧ r2 < 18 ∧ Q none (wr τ1 (ths + 3) r2.toNat (τ1 ths 1)))) : V0 E (d + 1) qX5_beginSum 0 [some (vR ths), some (vI a0)] [] τ Q := by
  refine u_aload_n (i := 0) (pc' := 1) dX5_beginSum_0 rfl rfl rfl ?_
  refine u_getR (a := (ths + 3)) (pc' := 4) dX5_beginSum_1 rfl fl_TuneDoor_Rules_18 rfl (kRules k_ths).1 k_ths (kRules k_ths).2.2.2.1 ?_
  refine u_aload_n (i := 0) (pc' := 5) dX5_beginSum_4 rfl rfl rfl ?_
  refine u_iload_n (i := 1) (pc' := 6) dX5_beginSum_5 rfl rfl rfl ?_
  refine u_invV (q' := qX5_slot) (As := [vI a0]) (st := [vR (ths + 3)]) (pc' := 9) dX5_beginSum_6 rfl gX5_slot wm_647 rfl rfl (kRules k_ths).1 k_ths wm_649 wp_18 rfl (Nat.le_of_ble_eq_true rfl) (M0.mono h (fun v τ1 h => ?_))
  obtain ⟨r2, rfl, h⟩ := h
  show V0 E (d + 1) qX5_beginSum 9 [some (vR ths), some (vI a0)] [vI r2, vR (ths + 3)] τ1 Q
  refine u_aload_n (i := 0) (pc' := 10) dX5_beginSum_9 rfl rfl rfl ?_
  refine u_getI (z := (τ1 ths 1)) (pc' := 13) dX5_beginSum_10 rfl fl_TuneDoor_Rules_33 rfl (by decide) (kRules k_ths).1 k_ths rfl (fun r3 => ?_)
  obtain ⟨c4, c5, h⟩ := h
  refine u_iastore (k := r2.toNat) (pc' := 14) dX5_beginSum_13 rfl (Nat.le_trans (kRules k_ths).1 (Nat.le_add_right _ _)) (kRules k_ths).2.2.2.2.2.2.2.2.2.2.1 c4 c5 (by decide) rfl r3 ?_
  exact u_ret dX5_beginSum_14 rfl h
theorem mX5_beginSum {E : mm_Env} {d : Nat} {τ : mm_Mem} {Q : mm_Q0} {ths : Nat} {a0 : Int} (k_ths : KD ths = some (.inr 5)) (h : M0 E d qX5_slot [vR ths, vI a0] τ (fun v τ1 => ∃ r2 : Int, v = some (vI r2) ∧ 0 ≤ r2 ∧ r2 < 18 ∧ Q none (wr τ1 (ths + 3) r2.toNat (τ1 ths 1)))) : M0 E (d + 1) qX5_beginSum [vR ths, vI a0] τ Q := M0_of rfl (Nat.le_of_ble_eq_true rfl) [some (vR ths), some (vI a0)] rfl (bX5_beginSum_0 k_ths h)
set_option maxRecDepth 20000 in
theorem bX5_slot_0 {E : mm_Env} {d : Nat} {τ : mm_Mem} {Q : mm_Q0} {ths : Nat} {a0 : Int} (k_ths : KD ths = some (.inr 5)) (h : 0 ≤ a0 ∧ a0 < 3 ∧ M0 E d qJ9_min_7cf53 [vI (τ (ths + 2) a0.toNat), vI 5] τ (fun v τ4 => ∃ r5 : Int, v = some (vI r5) ∧ Q (some (vI ((a0 * 6) + r5))) τ4)) : V0 E (d + 1) qX5_slot 0 [some (vR ths), some (vI a0)] [] τ Q := by
  refine u_iload_n (i := 1) (pc' := 1) dX5_slot_0 rfl rfl rfl ?_
  refine u_bipush (pc' := 3) dX5_slot_1 rfl (by decide) ?_
  refine u_imul (pc' := 4) dX5_slot_3 rfl ?_
  refine u_aload_n (i := 0) (pc' := 5) dX5_slot_4 rfl rfl rfl ?_
  refine u_getR (a := (ths + 2)) (pc' := 8) dX5_slot_5 rfl fl_TuneDoor_Rules_15 rfl (kRules k_ths).1 k_ths (kRules k_ths).2.2.1 ?_
  refine u_iload_n (i := 1) (pc' := 9) dX5_slot_8 rfl rfl rfl ?_
  obtain ⟨c1, c2, h⟩ := h
  refine u_iaload (k := a0.toNat) (z := (τ (ths + 2) a0.toNat)) (pc' := 10) dX5_slot_9 rfl (Nat.le_trans (kRules k_ths).1 (Nat.le_add_right _ _)) (kRules k_ths).2.2.2.2.2.2.2.2.2.1 c1 c2 (by decide) rfl rfl (fun r3 => ?_)
  refine u_iconst (pc' := 11) dX5_slot_10 rfl ?_
  refine u_invS (q' := qJ9_min_7cf53) (As := [vI (τ (ths + 2) a0.toNat), vI 5]) (st := [vI (a0 * 6)]) (pc' := 14) dX5_slot_11 rfl gJ9_min_7cf53 wm_651 wm_530 rfl (Nat.le_of_ble_eq_true rfl) (M0.mono h (fun v τ4 h => ?_))
  obtain ⟨r5, rfl, h⟩ := h
  show V0 E (d + 1) qX5_slot 14 [some (vR ths), some (vI a0)] [vI r5, vI (a0 * 6)] τ4 Q
  refine u_iadd (pc' := 15) dX5_slot_14 rfl ?_
  exact u_iret dX5_slot_15 rfl h
theorem mX5_slot {E : mm_Env} {d : Nat} {τ : mm_Mem} {Q : mm_Q0} {ths : Nat} {a0 : Int} (k_ths : KD ths = some (.inr 5)) (h : 0 ≤ a0 ∧ a0 < 3 ∧ M0 E d qJ9_min_7cf53 [vI (τ (ths + 2) a0.toNat), vI 5] τ (fun v τ4 => ∃ r5 : Int, v = some (vI r5) ∧ Q (some (vI ((a0 * 6) + r5))) τ4)) : M0 E (d + 1) qX5_slot [vR ths, vI a0] τ Q := M0_of rfl (Nat.le_of_ble_eq_true rfl) [some (vR ths), some (vI a0)] rfl (bX5_slot_0 k_ths h)
set_option maxRecDepth 20000 in
theorem bX5_emit_0 {E : mm_Env} {d : Nat} {τ : mm_Mem} {Q : mm_Q0} {ths : Nat} {a0 : Int} (k_ths : KD ths = some (.inr 5)) (h : ((1600 ≤ (τ ths 1) → Q none τ) ∧ (¬ 1600 ≤ (τ ths 1) → 0 ≤ (τ ths 1) ∧ (τ ths 1) < 1600 ∧ inR a0 ∧ inR (((wr τ (ths + 1) (τ ths 1).toNat a0) ths 1) + 1) ∧ Q none (wr (wr τ (ths + 1) (τ ths 1).toNat a0) ths 1 (((wr τ (ths + 1) (τ ths 1).toNat a0) ths 1) + 1))))) : V0 E d qX5_emit 0 [some (vR ths), some (vI a0)] [] τ Q := by
  refine u_aload_n (i := 0) (pc' := 1) dX5_emit_0 rfl rfl rfl ?_
  refine u_getI (z := (τ ths 1)) (pc' := 4) dX5_emit_1 rfl fl_TuneDoor_Rules_33 rfl (by decide) (kRules k_ths).1 k_ths rfl (fun r1 => ?_)
  refine u_aload_n (i := 0) (pc' := 5) dX5_emit_4 rfl rfl rfl ?_
  refine u_getR (a := (ths + 1)) (pc' := 8) dX5_emit_5 rfl fl_TuneDoor_Rules_9 rfl (kRules k_ths).1 k_ths (kRules k_ths).2.1 ?_
  refine u_alen (t0 := 0) (pc' := 9) dX5_emit_8 rfl (Nat.le_trans (kRules k_ths).1 (Nat.le_add_right _ _)) (kRules k_ths).2.2.2.2.2.2.2.2.1 (fun _ => rfl) ?_
  refine u_icmp_ge (tgt := 32) (pc' := 12) dX5_emit_9 rfl (by decide) r1 ⟨by decide, by decide⟩ (fun hb => ?_) (fun hb => ?_)
  · have h := h.1 hb
    exact u_ret dX5_emit_32 rfl h
  · have h := h.2 hb
    refine u_aload_n (i := 0) (pc' := 13) dX5_emit_12 rfl rfl rfl ?_
    refine u_getR (a := (ths + 1)) (pc' := 16) dX5_emit_13 rfl fl_TuneDoor_Rules_9 rfl (kRules k_ths).1 k_ths (kRules k_ths).2.1 ?_
    refine u_aload_n (i := 0) (pc' := 17) dX5_emit_16 rfl rfl rfl ?_
    refine u_getI (z := (τ ths 1)) (pc' := 20) dX5_emit_17 rfl fl_TuneDoor_Rules_33 rfl (by decide) (kRules k_ths).1 k_ths rfl (fun r2 => ?_)
    refine u_iload_n (i := 1) (pc' := 21) dX5_emit_20 rfl rfl rfl ?_
    obtain ⟨c3, c4, c5, h⟩ := h
    refine u_iastore (k := (τ ths 1).toNat) (pc' := 22) dX5_emit_21 rfl (Nat.le_trans (kRules k_ths).1 (Nat.le_add_right _ _)) (kRules k_ths).2.2.2.2.2.2.2.2.1 c3 c4 (by decide) rfl c5 ?_
    refine u_aload_n (i := 0) (pc' := 23) dX5_emit_22 rfl rfl rfl ?_
    refine u_dup (pc' := 24) dX5_emit_23 rfl (fun _ hh => by cases hh) ?_
    refine u_getI (z := ((wr τ (ths + 1) (τ ths 1).toNat a0) ths 1)) (pc' := 27) dX5_emit_24 rfl fl_TuneDoor_Rules_33 rfl (by decide) (kRules k_ths).1 k_ths rfl (fun r6 => ?_)
    refine u_iconst (pc' := 28) dX5_emit_27 rfl ?_
    refine u_iadd (pc' := 29) dX5_emit_28 rfl ?_
    obtain ⟨c7, h⟩ := h
    refine u_putI (pc' := 32) dX5_emit_29 rfl fl_TuneDoor_Rules_33 rfl rfl (by decide) (kRules k_ths).1 k_ths c7 ?_
    exact u_ret dX5_emit_32 rfl h
theorem mX5_emit {E : mm_Env} {d : Nat} {τ : mm_Mem} {Q : mm_Q0} {ths : Nat} {a0 : Int} (k_ths : KD ths = some (.inr 5)) (h : ((1600 ≤ (τ ths 1) → Q none τ) ∧ (¬ 1600 ≤ (τ ths 1) → 0 ≤ (τ ths 1) ∧ (τ ths 1) < 1600 ∧ inR a0 ∧ inR (((wr τ (ths + 1) (τ ths 1).toNat a0) ths 1) + 1) ∧ Q none (wr (wr τ (ths + 1) (τ ths 1).toNat a0) ths 1 (((wr τ (ths + 1) (τ ths 1).toNat a0) ths 1) + 1))))) : M0 E d qX5_emit [vR ths, vI a0] τ Q := M0_of rfl (Nat.le_of_ble_eq_true rfl) [some (vR ths), some (vI a0)] rfl (bX5_emit_0 k_ths h)
set_option maxRecDepth 20000 in
theorem bX5_beginTest_0 {E : mm_Env} {d : Nat} {τ : mm_Mem} {Q : mm_Q0} {ths : Nat} {a0 : Int} (k_ths : KD ths = some (.inr 5)) (h : M0 E d qX5_slot [vR ths, vI a0] τ (fun v τ1 => ∃ r2 : Int, v = some (vI r2) ∧ 0 ≤ r2 ∧ r2 < 18 ∧ Q none (wr τ1 (ths + 4) r2.toNat (τ1 ths 1)))) : V0 E (d + 1) qX5_beginTest 0 [some (vR ths), some (vI a0)] [] τ Q := by
  refine u_aload_n (i := 0) (pc' := 1) dX5_beginTest_0 rfl rfl rfl ?_
  refine u_getR (a := (ths + 4)) (pc' := 4) dX5_beginTest_1 rfl fl_TuneDoor_Rules_21 rfl (kRules k_ths).1 k_ths (kRules k_ths).2.2.2.2.1 ?_
  refine u_aload_n (i := 0) (pc' := 5) dX5_beginTest_4 rfl rfl rfl ?_
  refine u_iload_n (i := 1) (pc' := 6) dX5_beginTest_5 rfl rfl rfl ?_
  refine u_invV (q' := qX5_slot) (As := [vI a0]) (st := [vR (ths + 4)]) (pc' := 9) dX5_beginTest_6 rfl gX5_slot wm_647 rfl rfl (kRules k_ths).1 k_ths wm_649 wp_18 rfl (Nat.le_of_ble_eq_true rfl) (M0.mono h (fun v τ1 h => ?_))
  obtain ⟨r2, rfl, h⟩ := h
  show V0 E (d + 1) qX5_beginTest 9 [some (vR ths), some (vI a0)] [vI r2, vR (ths + 4)] τ1 Q
  refine u_aload_n (i := 0) (pc' := 10) dX5_beginTest_9 rfl rfl rfl ?_
  refine u_getI (z := (τ1 ths 1)) (pc' := 13) dX5_beginTest_10 rfl fl_TuneDoor_Rules_33 rfl (by decide) (kRules k_ths).1 k_ths rfl (fun r3 => ?_)
  obtain ⟨c4, c5, h⟩ := h
  refine u_iastore (k := r2.toNat) (pc' := 14) dX5_beginTest_13 rfl (Nat.le_trans (kRules k_ths).1 (Nat.le_add_right _ _)) (kRules k_ths).2.2.2.2.2.2.2.2.2.2.2.1 c4 c5 (by decide) rfl r3 ?_
  exact u_ret dX5_beginTest_14 rfl h
theorem mX5_beginTest {E : mm_Env} {d : Nat} {τ : mm_Mem} {Q : mm_Q0} {ths : Nat} {a0 : Int} (k_ths : KD ths = some (.inr 5)) (h : M0 E d qX5_slot [vR ths, vI a0] τ (fun v τ1 => ∃ r2 : Int, v = some (vI r2) ∧ 0 ≤ r2 ∧ r2 < 18 ∧ Q none (wr τ1 (ths + 4) r2.toNat (τ1 ths 1)))) : M0 E (d + 1) qX5_beginTest [vR ths, vI a0] τ Q := M0_of rfl (Nat.le_of_ble_eq_true rfl) [some (vR ths), some (vI a0)] rfl (bX5_beginTest_0 k_ths h)
set_option maxRecDepth 20000 in
theorem bX5_finish_0 {E : mm_Env} {d : Nat} {τ : mm_Mem} {Q : mm_Q0} {ths : Nat} {a0 : Int} (k_ths : KD ths = some (.inr 5)) (h : M0 E d qX5_slot [vR ths, vI a0] τ (fun v τ1 => ∃ r2 : Int, v = some (vI r2) ∧ 0 ≤ r2 ∧ r2 < 18 ∧ 0 ≤ a0 ∧ a0 < 3 ∧ 0 ≤ a0 ∧ a0 < 3 ∧ inR (((wr τ1 (ths + 5) r2.toNat (τ1 ths 1)) (ths + 2) a0.toNat) + 1) ∧ Q none (wr (wr τ1 (ths + 5) r2.toNat (τ1 ths 1)) (ths + 2) a0.toNat (((wr τ1 (ths + 5) r2.toNat (τ1 ths 1)) (ths + 2) a0.toNat) + 1)))) : V0 E (d + 1) qX5_finish 0 [some (vR ths), some (vI a0)] [] τ Q := by
  refine u_aload_n (i := 0) (pc' := 1) dX5_finish_0 rfl rfl rfl ?_
  refine u_getR (a := (ths + 5)) (pc' := 4) dX5_finish_1 rfl fl_TuneDoor_Rules_24 rfl (kRules k_ths).1 k_ths (kRules k_ths).2.2.2.2.2.1 ?_
  refine u_aload_n (i := 0) (pc' := 5) dX5_finish_4 rfl rfl rfl ?_
  refine u_iload_n (i := 1) (pc' := 6) dX5_finish_5 rfl rfl rfl ?_
  refine u_invV (q' := qX5_slot) (As := [vI a0]) (st := [vR (ths + 5)]) (pc' := 9) dX5_finish_6 rfl gX5_slot wm_647 rfl rfl (kRules k_ths).1 k_ths wm_649 wp_18 rfl (Nat.le_of_ble_eq_true rfl) (M0.mono h (fun v τ1 h => ?_))
  obtain ⟨r2, rfl, h⟩ := h
  show V0 E (d + 1) qX5_finish 9 [some (vR ths), some (vI a0)] [vI r2, vR (ths + 5)] τ1 Q
  refine u_aload_n (i := 0) (pc' := 10) dX5_finish_9 rfl rfl rfl ?_
  refine u_getI (z := (τ1 ths 1)) (pc' := 13) dX5_finish_10 rfl fl_TuneDoor_Rules_33 rfl (by decide) (kRules k_ths).1 k_ths rfl (fun r3 => ?_)
  obtain ⟨c4, c5, h⟩ := h
  refine u_iastore (k := r2.toNat) (pc' := 14) dX5_finish_13 rfl (Nat.le_trans (kRules k_ths).1 (Nat.le_add_right _ _)) (kRules k_ths).2.2.2.2.2.2.2.2.2.2.2.2.1 c4 c5 (by decide) rfl r3 ?_
  refine u_aload_n (i := 0) (pc' := 15) dX5_finish_14 rfl rfl rfl ?_
  refine u_getR (a := (ths + 2)) (pc' := 18) dX5_finish_15 rfl fl_TuneDoor_Rules_15 rfl (kRules k_ths).1 k_ths (kRules k_ths).2.2.1 ?_
  refine u_iload_n (i := 1) (pc' := 19) dX5_finish_18 rfl rfl rfl ?_
  refine u_dup2 (pc' := 20) dX5_finish_19 rfl (fun _ hh => by cases hh) (fun _ hh => by cases hh) ?_
  obtain ⟨c6, c7, h⟩ := h
  refine u_iaload (k := a0.toNat) (z := ((wr τ1 (ths + 5) r2.toNat (τ1 ths 1)) (ths + 2) a0.toNat)) (pc' := 21) dX5_finish_20 rfl (Nat.le_trans (kRules k_ths).1 (Nat.le_add_right _ _)) (kRules k_ths).2.2.2.2.2.2.2.2.2.1 c6 c7 (by decide) rfl rfl (fun r8 => ?_)
  refine u_iconst (pc' := 22) dX5_finish_21 rfl ?_
  refine u_iadd (pc' := 23) dX5_finish_22 rfl ?_
  obtain ⟨c9, c10, c11, h⟩ := h
  refine u_iastore (k := a0.toNat) (pc' := 24) dX5_finish_23 rfl (Nat.le_trans (kRules k_ths).1 (Nat.le_add_right _ _)) (kRules k_ths).2.2.2.2.2.2.2.2.2.1 c9 c10 (by decide) rfl c11 ?_
  exact u_ret dX5_finish_24 rfl h
theorem mX5_finish {E : mm_Env} {d : Nat} {τ : mm_Mem} {Q : mm_Q0} {ths : Nat} {a0 : Int} (k_ths : KD ths = some (.inr 5)) (h : M0 E d qX5_slot [vR ths, vI a0] τ (fun v τ1 => ∃ r2 : Int, v = some (vI r2) ∧ 0 ≤ r2 ∧ r2 < 18 ∧ 0 ≤ a0 ∧ a0 < 3 ∧ 0 ≤ a0 ∧ a0 < 3 ∧ inR (((wr τ1 (ths + 5) r2.toNat (τ1 ths 1)) (ths + 2) a0.toNat) + 1) ∧ Q none (wr (wr τ1 (ths + 5) r2.toNat (τ1 ths 1)) (ths + 2) a0.toNat (((wr τ1 (ths + 5) r2.toNat (τ1 ths 1)) (ths + 2) a0.toNat) + 1)))) : M0 E (d + 1) qX5_finish [vR ths, vI a0] τ Q := M0_of rfl (Nat.le_of_ble_eq_true rfl) [some (vR ths), some (vI a0)] rfl (bX5_finish_0 k_ths h)
set_option maxRecDepth 20000 in
theorem bX5_tell_0 {E : mm_Env} {d : Nat} {τ : mm_Mem} {Q : mm_Q0} {ths : Nat} {a0 : Int} {a1 : Int} {a2 : Int} {a3 : Int} (k_ths : KD ths = some (.inr 5)) (h : inR a0 ∧ inR a1 ∧ inR a2 ∧ inR a3 ∧ Q none (wr (wr (wr (wr τ (ths + 6) 0 a0) (ths + 6) 1 a1) (ths + 6) 2 a2) (ths + 6) 5 a3)) : V0 E d qX5_tell 0 [some (vR ths), some (vI a0), some (vI a1), some (vI a2), some (vI a3)] [] τ Q := by
  refine u_aload_n (i := 0) (pc' := 1) dX5_tell_0 rfl rfl rfl ?_
  refine u_getR (a := (ths + 6)) (pc' := 4) dX5_tell_1 rfl fl_TuneDoor_Rules_27 rfl (kRules k_ths).1 k_ths (kRules k_ths).2.2.2.2.2.2.1 ?_
  refine u_iconst (pc' := 5) dX5_tell_4 rfl ?_
  refine u_iload_n (i := 1) (pc' := 6) dX5_tell_5 rfl rfl rfl ?_
  obtain ⟨c1, h⟩ := h
  refine u_iastore (k := 0) (pc' := 7) dX5_tell_6 rfl (Nat.le_trans (kRules k_ths).1 (Nat.le_add_right _ _)) (kRules k_ths).2.2.2.2.2.2.2.2.2.2.2.2.2.1 (by decide) (by decide) (by decide) rfl c1 ?_
  refine u_aload_n (i := 0) (pc' := 8) dX5_tell_7 rfl rfl rfl ?_
  refine u_getR (a := (ths + 6)) (pc' := 11) dX5_tell_8 rfl fl_TuneDoor_Rules_27 rfl (kRules k_ths).1 k_ths (kRules k_ths).2.2.2.2.2.2.1 ?_
  refine u_iconst (pc' := 12) dX5_tell_11 rfl ?_
  refine u_iload_n (i := 2) (pc' := 13) dX5_tell_12 rfl rfl rfl ?_
  obtain ⟨c2, h⟩ := h
  refine u_iastore (k := 1) (pc' := 14) dX5_tell_13 rfl (Nat.le_trans (kRules k_ths).1 (Nat.le_add_right _ _)) (kRules k_ths).2.2.2.2.2.2.2.2.2.2.2.2.2.1 (by decide) (by decide) (by decide) rfl c2 ?_
  refine u_aload_n (i := 0) (pc' := 15) dX5_tell_14 rfl rfl rfl ?_
  refine u_getR (a := (ths + 6)) (pc' := 18) dX5_tell_15 rfl fl_TuneDoor_Rules_27 rfl (kRules k_ths).1 k_ths (kRules k_ths).2.2.2.2.2.2.1 ?_
  refine u_iconst (pc' := 19) dX5_tell_18 rfl ?_
  refine u_iload_n (i := 3) (pc' := 20) dX5_tell_19 rfl rfl rfl ?_
  obtain ⟨c3, h⟩ := h
  refine u_iastore (k := 2) (pc' := 21) dX5_tell_20 rfl (Nat.le_trans (kRules k_ths).1 (Nat.le_add_right _ _)) (kRules k_ths).2.2.2.2.2.2.2.2.2.2.2.2.2.1 (by decide) (by decide) (by decide) rfl c3 ?_
  refine u_aload_n (i := 0) (pc' := 22) dX5_tell_21 rfl rfl rfl ?_
  refine u_getR (a := (ths + 6)) (pc' := 25) dX5_tell_22 rfl fl_TuneDoor_Rules_27 rfl (kRules k_ths).1 k_ths (kRules k_ths).2.2.2.2.2.2.1 ?_
  refine u_iconst (pc' := 26) dX5_tell_25 rfl ?_
  refine u_iload (i := 4) (pc' := 28) dX5_tell_26 rfl rfl ?_
  obtain ⟨c4, h⟩ := h
  refine u_iastore (k := 5) (pc' := 29) dX5_tell_28 rfl (Nat.le_trans (kRules k_ths).1 (Nat.le_add_right _ _)) (kRules k_ths).2.2.2.2.2.2.2.2.2.2.2.2.2.1 (by decide) (by decide) (by decide) rfl c4 ?_
  exact u_ret dX5_tell_29 rfl h
theorem mX5_tell {E : mm_Env} {d : Nat} {τ : mm_Mem} {Q : mm_Q0} {ths : Nat} {a0 : Int} {a1 : Int} {a2 : Int} {a3 : Int} (k_ths : KD ths = some (.inr 5)) (h : inR a0 ∧ inR a1 ∧ inR a2 ∧ inR a3 ∧ Q none (wr (wr (wr (wr τ (ths + 6) 0 a0) (ths + 6) 1 a1) (ths + 6) 2 a2) (ths + 6) 5 a3)) : M0 E d qX5_tell [vR ths, vI a0, vI a1, vI a2, vI a3] τ Q := M0_of rfl (Nat.le_of_ble_eq_true rfl) [some (vR ths), some (vI a0), some (vI a1), some (vI a2), some (vI a3)] rfl (bX5_tell_0 k_ths h)
set_option maxRecDepth 20000 in
theorem bX5_point_0 {E : mm_Env} {d : Nat} {τ : mm_Mem} {Q : mm_Q0} {ths : Nat} {a0 : Int} {a1 : Int} (k_ths : KD ths = some (.inr 5)) (h : inR a0 ∧ inR a1 ∧ Q none (wr (wr τ (ths + 6) 3 a0) (ths + 6) 4 a1)) : V0 E d qX5_point 0 [some (vR ths), some (vI a0), some (vI a1)] [] τ Q := by
  refine u_aload_n (i := 0) (pc' := 1) dX5_point_0 rfl rfl rfl ?_
  refine u_getR (a := (ths + 6)) (pc' := 4) dX5_point_1 rfl fl_TuneDoor_Rules_27 rfl (kRules k_ths).1 k_ths (kRules k_ths).2.2.2.2.2.2.1 ?_
  refine u_iconst (pc' := 5) dX5_point_4 rfl ?_
  refine u_iload_n (i := 1) (pc' := 6) dX5_point_5 rfl rfl rfl ?_
  obtain ⟨c1, h⟩ := h
  refine u_iastore (k := 3) (pc' := 7) dX5_point_6 rfl (Nat.le_trans (kRules k_ths).1 (Nat.le_add_right _ _)) (kRules k_ths).2.2.2.2.2.2.2.2.2.2.2.2.2.1 (by decide) (by decide) (by decide) rfl c1 ?_
  refine u_aload_n (i := 0) (pc' := 8) dX5_point_7 rfl rfl rfl ?_
  refine u_getR (a := (ths + 6)) (pc' := 11) dX5_point_8 rfl fl_TuneDoor_Rules_27 rfl (kRules k_ths).1 k_ths (kRules k_ths).2.2.2.2.2.2.1 ?_
  refine u_iconst (pc' := 12) dX5_point_11 rfl ?_
  refine u_iload_n (i := 2) (pc' := 13) dX5_point_12 rfl rfl rfl ?_
  obtain ⟨c2, h⟩ := h
  refine u_iastore (k := 4) (pc' := 14) dX5_point_13 rfl (Nat.le_trans (kRules k_ths).1 (Nat.le_add_right _ _)) (kRules k_ths).2.2.2.2.2.2.2.2.2.2.2.2.2.1 (by decide) (by decide) (by decide) rfl c2 ?_
  exact u_ret dX5_point_14 rfl h
theorem mX5_point {E : mm_Env} {d : Nat} {τ : mm_Mem} {Q : mm_Q0} {ths : Nat} {a0 : Int} {a1 : Int} (k_ths : KD ths = some (.inr 5)) (h : inR a0 ∧ inR a1 ∧ Q none (wr (wr τ (ths + 6) 3 a0) (ths + 6) 4 a1)) : M0 E d qX5_point [vR ths, vI a0, vI a1] τ Q := M0_of rfl (Nat.le_of_ble_eq_true rfl) [some (vR ths), some (vI a0), some (vI a1)] rfl (bX5_point_0 k_ths h)
set_option maxRecDepth 20000 in
theorem bX5_choose_0 {E : mm_Env} {d : Nat} {τ : mm_Mem} {Q : mm_Q0} {ths : Nat} {a0 : Int} {a1 : Int} (k_ths : KD ths = some (.inr 5)) (h : V0 E (d + 1) qX5_choose 2 [some (vR ths), some (vI a0), some (vI a1), some (vI 0), none] [] τ Q) : V0 E (d + 1) qX5_choose 0 [some (vR ths), some (vI a0), some (vI a1), none, none] [] τ Q := by
  refine u_iconst (pc' := 1) dX5_choose_0 rfl ?_
  refine s_istore_n (i := 3) (ls' := [some (vR ths), some (vI a0), some (vI a1), some (vI 0), none]) (pc' := 2) dX5_choose_1 rfl rfl (Nat.le_of_ble_eq_true rfl) rfl rfl ?_
  exact u_less (ls' := [some (vR ths), some (vI a0), some (vI a1), some (vI 0), none]) ⟨rfl, ⟨rfl, ⟨rfl, ⟨rfl, trivial⟩⟩⟩⟩ h
theorem mX5_choose {E : mm_Env} {d : Nat} {τ : mm_Mem} {Q : mm_Q0} {ths : Nat} {a0 : Int} {a1 : Int} (k_ths : KD ths = some (.inr 5)) (h : V0 E (d + 1) qX5_choose 2 [some (vR ths), some (vI a0), some (vI a1), some (vI 0), none] [] τ Q) : M0 E (d + 1) qX5_choose [vR ths, vI a0, vI a1] τ Q := M0_of rfl (Nat.le_of_ble_eq_true rfl) [some (vR ths), some (vI a0), some (vI a1), none, none] rfl (bX5_choose_0 k_ths h)
set_option maxRecDepth 20000 in
theorem bX5_choose_2 {E : mm_Env} {d : Nat} {τ : mm_Mem} {Q : mm_Q0} {x0 : Nat} {x1 : Int} {x2 : Int} {x3 : Int} (k_x0 : KD x0 = some (.inr 5)) (h : 0 ≤ x1 ∧ x1 < 3 ∧ inR x3 ∧ (((τ (x0 + 2) x1.toNat) ≤ x3 → Q (some (vI x2)) τ) ∧ (¬ (τ (x0 + 2) x1.toNat) ≤ x3 → ((6 ≤ x3 → Q (some (vI x2)) τ) ∧ (¬ 6 ≤ x3 → 0 ≤ ((x1 * 6) + x3) ∧ ((x1 * 6) + x3) < 18 ∧ 0 ≤ ((x1 * 6) + x3) ∧ ((x1 * 6) + x3) < 18 ∧ M0 E d qX5_run [vR x0, vI (τ (x0 + 4) ((x1 * 6) + x3).toNat), vI (τ (x0 + 5) ((x1 * 6) + x3).toNat)] τ (fun v τ11 => ∃ r12 : Int, v = some (vI r12) ∧ inR r12 ∧ ((r12 = 0 → V0 E (d + 1) qX5_choose 2 [some (vR x0), some (vI x1), some (vI x2), some (vI (x3 + 1)), none] [] τ11 Q) ∧ (¬ r12 = 0 → 0 ≤ ((x1 * 6) + x3) ∧ ((x1 * 6) + x3) < 18 ∧ 0 ≤ ((x1 * 6) + x3) ∧ ((x1 * 6) + x3) < 18 ∧ M0 E d qX5_run [vR x0, vI (τ11 (x0 + 3) ((x1 * 6) + x3).toNat), vI (τ11 (x0 + 4) ((x1 * 6) + x3).toNat)] τ11 (fun v τ20 => ∃ r21 : Int, v = some (vI r21) ∧ Q (some (vI r21)) τ20))))))))) : V0 E (d + 1) qX5_choose 2 [some (vR x0), some (vI x1), some (vI x2), some (vI x3), none] [] τ Q := by
  refine u_iload_n (i := 3) (pc' := 3) dX5_choose_2 rfl rfl rfl ?_
  refine u_aload_n (i := 0) (pc' := 4) dX5_choose_3 rfl rfl rfl ?_
  refine u_getR (a := (x0 + 2)) (pc' := 7) dX5_choose_4 rfl fl_TuneDoor_Rules_15 rfl (kRules k_x0).1 k_x0 (kRules k_x0).2.2.1 ?_
  refine u_iload_n (i := 1) (pc' := 8) dX5_choose_7 rfl rfl rfl ?_
  obtain ⟨c1, c2, h⟩ := h
  refine u_iaload (k := x1.toNat) (z := (τ (x0 + 2) x1.toNat)) (pc' := 9) dX5_choose_8 rfl (Nat.le_trans (kRules k_x0).1 (Nat.le_add_right _ _)) (kRules k_x0).2.2.2.2.2.2.2.2.2.1 c1 c2 (by decide) rfl rfl (fun r3 => ?_)
  obtain ⟨c4, h⟩ := h
  refine u_icmp_ge (tgt := 72) (pc' := 12) dX5_choose_9 rfl (by decide) c4 r3 (fun hb => ?_) (fun hb => ?_)
  · have h := h.1 hb
    refine u_iload_n (i := 2) (pc' := 73) dX5_choose_72 rfl rfl rfl ?_
    exact u_iret dX5_choose_73 rfl h
  · have h := h.2 hb
    refine u_iload_n (i := 3) (pc' := 13) dX5_choose_12 rfl rfl rfl ?_
    refine u_bipush (pc' := 15) dX5_choose_13 rfl (by decide) ?_
    refine u_icmp_ge (tgt := 72) (pc' := 18) dX5_choose_15 rfl (by decide) c4 ⟨by decide, by decide⟩ (fun hb => ?_) (fun hb => ?_)
    · have h := h.1 hb
      refine u_iload_n (i := 2) (pc' := 73) dX5_choose_72 rfl rfl rfl ?_
      exact u_iret dX5_choose_73 rfl h
    · have h := h.2 hb
      refine u_iload_n (i := 1) (pc' := 19) dX5_choose_18 rfl rfl rfl ?_
      refine u_bipush (pc' := 21) dX5_choose_19 rfl (by decide) ?_
      refine u_imul (pc' := 22) dX5_choose_21 rfl ?_
      refine u_iload_n (i := 3) (pc' := 23) dX5_choose_22 rfl rfl rfl ?_
      refine u_iadd (pc' := 24) dX5_choose_23 rfl ?_
      refine s_istore (i := 4) (ls' := [some (vR x0), some (vI x1), some (vI x2), some (vI x3), some (vI ((x1 * 6) + x3))]) (pc' := 26) dX5_choose_24 rfl (Nat.le_of_ble_eq_true rfl) rfl rfl ?_
      refine u_aload_n (i := 0) (pc' := 27) dX5_choose_26 rfl rfl rfl ?_
      refine u_aload_n (i := 0) (pc' := 28) dX5_choose_27 rfl rfl rfl ?_
      refine u_getR (a := (x0 + 4)) (pc' := 31) dX5_choose_28 rfl fl_TuneDoor_Rules_21 rfl (kRules k_x0).1 k_x0 (kRules k_x0).2.2.2.2.1 ?_
      refine u_iload (i := 4) (pc' := 33) dX5_choose_31 rfl rfl ?_
      obtain ⟨c5, c6, h⟩ := h
      refine u_iaload (k := ((x1 * 6) + x3).toNat) (z := (τ (x0 + 4) ((x1 * 6) + x3).toNat)) (pc' := 34) dX5_choose_33 rfl (Nat.le_trans (kRules k_x0).1 (Nat.le_add_right _ _)) (kRules k_x0).2.2.2.2.2.2.2.2.2.2.2.1 c5 c6 (by decide) rfl rfl (fun r7 => ?_)
      refine u_aload_n (i := 0) (pc' := 35) dX5_choose_34 rfl rfl rfl ?_
      refine u_getR (a := (x0 + 5)) (pc' := 38) dX5_choose_35 rfl fl_TuneDoor_Rules_24 rfl (kRules k_x0).1 k_x0 (kRules k_x0).2.2.2.2.2.1 ?_
      refine u_iload (i := 4) (pc' := 40) dX5_choose_38 rfl rfl ?_
      obtain ⟨c8, c9, h⟩ := h
      refine u_iaload (k := ((x1 * 6) + x3).toNat) (z := (τ (x0 + 5) ((x1 * 6) + x3).toNat)) (pc' := 41) dX5_choose_40 rfl (Nat.le_trans (kRules k_x0).1 (Nat.le_add_right _ _)) (kRules k_x0).2.2.2.2.2.2.2.2.2.2.2.2.1 c8 c9 (by decide) rfl rfl (fun r10 => ?_)
      refine u_invV (q' := qX5_run) (As := [vI (τ (x0 + 4) ((x1 * 6) + x3).toNat), vI (τ (x0 + 5) ((x1 * 6) + x3).toNat)]) (st := []) (pc' := 44) dX5_choose_41 rfl gX5_run wm_769 rfl rfl (kRules k_x0).1 k_x0 wm_771 wp_37 rfl (Nat.le_of_ble_eq_true rfl) (M0.mono h (fun v τ11 h => ?_))
      obtain ⟨r12, rfl, h⟩ := h
      show V0 E (d + 1) qX5_choose 44 [some (vR x0), some (vI x1), some (vI x2), some (vI x3), some (vI ((x1 * 6) + x3))] [vI r12] τ11 Q
      obtain ⟨c13, h⟩ := h
      refine u_if_eq (tgt := 66) (pc' := 47) dX5_choose_44 rfl (by decide) c13 (fun hb => ?_) (fun hb => ?_)
      · have h := h.1 hb
        refine s_iinc (i := 3) (ls' := [some (vR x0), some (vI x1), some (vI x2), some (vI (x3 + 1)), some (vI ((x1 * 6) + x3))]) (pc' := 69) dX5_choose_66 rfl rfl (Nat.le_of_ble_eq_true rfl) rfl rfl ?_
        refine u_goto (tgt := 2) dX5_choose_69 (by decide) ?_
        exact u_less (ls' := [some (vR x0), some (vI x1), some (vI x2), some (vI (x3 + 1)), none]) ⟨rfl, ⟨rfl, ⟨rfl, ⟨rfl, trivial⟩⟩⟩⟩ h
      · have h := h.2 hb
        refine u_aload_n (i := 0) (pc' := 48) dX5_choose_47 rfl rfl rfl ?_
        refine u_aload_n (i := 0) (pc' := 49) dX5_choose_48 rfl rfl rfl ?_
        refine u_getR (a := (x0 + 3)) (pc' := 52) dX5_choose_49 rfl fl_TuneDoor_Rules_18 rfl (kRules k_x0).1 k_x0 (kRules k_x0).2.2.2.1 ?_
        refine u_iload (i := 4) (pc' := 54) dX5_choose_52 rfl rfl ?_
        obtain ⟨c14, c15, h⟩ := h
        refine u_iaload (k := ((x1 * 6) + x3).toNat) (z := (τ11 (x0 + 3) ((x1 * 6) + x3).toNat)) (pc' := 55) dX5_choose_54 rfl (Nat.le_trans (kRules k_x0).1 (Nat.le_add_right _ _)) (kRules k_x0).2.2.2.2.2.2.2.2.2.2.1 c14 c15 (by decide) rfl rfl (fun r16 => ?_)
        refine u_aload_n (i := 0) (pc' := 56) dX5_choose_55 rfl rfl rfl ?_
        refine u_getR (a := (x0 + 4)) (pc' := 59) dX5_choose_56 rfl fl_TuneDoor_Rules_21 rfl (kRules k_x0).1 k_x0 (kRules k_x0).2.2.2.2.1 ?_
        refine u_iload (i := 4) (pc' := 61) dX5_choose_59 rfl rfl ?_
        obtain ⟨c17, c18, h⟩ := h
        refine u_iaload (k := ((x1 * 6) + x3).toNat) (z := (τ11 (x0 + 4) ((x1 * 6) + x3).toNat)) (pc' := 62) dX5_choose_61 rfl (Nat.le_trans (kRules k_x0).1 (Nat.le_add_right _ _)) (kRules k_x0).2.2.2.2.2.2.2.2.2.2.2.1 c17 c18 (by decide) rfl rfl (fun r19 => ?_)
        refine u_invV (q' := qX5_run) (As := [vI (τ11 (x0 + 3) ((x1 * 6) + x3).toNat), vI (τ11 (x0 + 4) ((x1 * 6) + x3).toNat)]) (st := []) (pc' := 65) dX5_choose_62 rfl gX5_run wm_769 rfl rfl (kRules k_x0).1 k_x0 wm_771 wp_37 rfl (Nat.le_of_ble_eq_true rfl) (M0.mono h (fun v τ20 h => ?_))
        obtain ⟨r21, rfl, h⟩ := h
        show V0 E (d + 1) qX5_choose 65 [some (vR x0), some (vI x1), some (vI x2), some (vI x3), some (vI ((x1 * 6) + x3))] [vI r21] τ20 Q
        exact u_iret dX5_choose_65 rfl h
set_option maxRecDepth 20000 in
theorem bX5_run_0 {E : mm_Env} {d : Nat} {τ : mm_Mem} {Q : mm_Q0} {ths : Nat} {a0 : Int} {a1 : Int} (k_ths : KD ths = some (.inr 5)) (h : V0 E (d + 1) qX5_run 7 [some (vR ths), none, some (vI a1), some (vI a0), none, none] [] (wr τ ths 8 0) Q) : V0 E (d + 1) qX5_run 0 [some (vR ths), some (vI a0), some (vI a1), none, none, none] [] τ Q := by
  refine u_aload_n (i := 0) (pc' := 1) dX5_run_0 rfl rfl rfl ?_
  refine u_iconst (pc' := 2) dX5_run_1 rfl ?_
  refine u_putI (pc' := 5) dX5_run_2 rfl fl_TuneDoor_Rules_56 rfl rfl (by decide) (kRules k_ths).1 k_ths ⟨by decide, by decide⟩ ?_
  refine u_iload_n (i := 1) (pc' := 6) dX5_run_5 rfl rfl rfl ?_
  refine s_istore_n (i := 3) (ls' := [some (vR ths), some (vI a0), some (vI a1), some (vI a0), none, none]) (pc' := 7) dX5_run_6 rfl rfl (Nat.le_of_ble_eq_true rfl) rfl rfl ?_
  exact u_less (ls' := [some (vR ths), none, some (vI a1), some (vI a0), none, none]) ⟨rfl, ⟨rfl, ⟨rfl, trivial⟩⟩⟩ h
theorem mX5_run {E : mm_Env} {d : Nat} {τ : mm_Mem} {Q : mm_Q0} {ths : Nat} {a0 : Int} {a1 : Int} (k_ths : KD ths = some (.inr 5)) (h : V0 E (d + 1) qX5_run 7 [some (vR ths), none, some (vI a1), some (vI a0), none, none] [] (wr τ ths 8 0) Q) : M0 E (d + 1) qX5_run [vR ths, vI a0, vI a1] τ Q := M0_of rfl (Nat.le_of_ble_eq_true rfl) [some (vR ths), some (vI a0), some (vI a1), none, none, none] rfl (bX5_run_0 k_ths h)
set_option maxRecDepth 20000 in
theorem bX5_run_7 {E : mm_Env} {d : Nat} {τ : mm_Mem} {Q : mm_Q0} {x0 : Nat} {x2 : Int} {x3 : Int} (k_x0 : KD x0 = some (.inr 5)) (h : inR x3 ∧ inR x2 ∧ ((x2 ≤ x3 → M0 E d qX5_pop [vR x0] τ (fun v τ3 => ∃ r4 : Int, v = some (vI r4) ∧ Q (some (vI r4)) τ3)) ∧ (¬ x2 ≤ x3 → (((τ x0 1) ≤ x3 → M0 E d qX5_pop [vR x0] τ (fun v τ6 => ∃ r7 : Int, v = some (vI r7) ∧ Q (some (vI r7)) τ6)) ∧ (¬ (τ x0 1) ≤ x3 → 0 ≤ x3 ∧ x3 < 1600 ∧ (((τ (x0 + 1) x3.toNat) < 0 → (((τ (x0 + 1) x3.toNat) < (-6) → (((τ (x0 + 1) x3.toNat) ≠ (-7) → M0 E d qX5_pop [vR x0] τ (fun v τ11 => ∃ r12 : Int, v = some (vI r12) ∧ M0 E d qX5_pop [vR x0] τ11 (fun v τ13 => ∃ r14 : Int, v = some (vI r14) ∧ inR r14 ∧ inR r12 ∧ M0 E d qX5_join [vI (τ (x0 + 1) x3.toNat), vL r14, vL r12] τ13 (fun v τ17 => ∃ r18 : Int, v = some (vI r18) ∧ M0 E d qX5_push [vR x0, vI r18] τ17 (fun v τ19 => v = none ∧ V0 E (d + 1) qX5_run 7 [some (vR x0), none, some (vI x2), some (vI (x3 + 1)), none, none] [] τ19 Q))))) ∧ ((τ (x0 + 1) x3.toNat) = (-7) → M0 E d qX5_pop [vR x0] τ (fun v τ20 => ∃ r21 : Int, v = some (vI r21) ∧ M0 E d qX5_push [vR x0, vI (1 - r21)] τ20 (fun v τ22 => v = none ∧ V0 E (d + 1) qX5_run 7 [some (vR x0), none, some (vI x2), some (vI (x3 + 1)), none, none] [] τ22 Q))))) ∧ (¬ (τ (x0 + 1) x3.toNat) < (-6) → 0 ≤ ((-1) - (τ (x0 + 1) x3.toNat)) ∧ ((-1) - (τ (x0 + 1) x3.toNat)) < 6 ∧ M0 E d qX5_push [vR x0, vI (τ (x0 + 6) ((-1) - (τ (x0 + 1) x3.toNat)).toNat)] τ (fun v τ26 => v = none ∧ V0 E (d + 1) qX5_run 7 [some (vR x0), none, some (vI x2), some (vI (x3 + 1)), none, none] [] τ26 Q)))) ∧ (¬ (τ (x0 + 1) x3.toNat) < 0 → M0 E d qX5_push [vR x0, vI (τ (x0 + 1) x3.toNat)] τ (fun v τ27 => v = none ∧ V0 E (d + 1) qX5_run 7 [some (vR x0), none, some (vI x2), some (vI (x3 + 1)), none, none] [] τ27 Q)))))))) : V0 E (d + 1) qX5_run 7 [some (vR x0), none, some (vI x2), some (vI x3), none, none] [] τ Q := by
  refine u_iload_n (i := 3) (pc' := 8) dX5_run_7 rfl rfl rfl ?_
  refine u_iload_n (i := 2) (pc' := 9) dX5_run_8 rfl rfl rfl ?_
  obtain ⟨c1, c2, h⟩ := h
  refine u_icmp_ge (tgt := 114) (pc' := 12) dX5_run_9 rfl (by decide) c1 c2 (fun hb => ?_) (fun hb => ?_)
  · have h := h.1 hb
    refine u_aload_n (i := 0) (pc' := 115) dX5_run_114 rfl rfl rfl ?_
    refine u_invV (q' := qX5_pop) (As := []) (st := []) (pc' := 118) dX5_run_115 rfl gX5_pop wm_777 rfl rfl (kRules k_x0).1 k_x0 wm_779 wp_39 rfl (Nat.le_of_ble_eq_true rfl) (M0.mono h (fun v τ3 h => ?_))
    obtain ⟨r4, rfl, h⟩ := h
    show V0 E (d + 1) qX5_run 118 [some (vR x0), none, some (vI x2), some (vI x3), none, none] [vI r4] τ3 Q
    exact u_iret dX5_run_118 rfl h
  · have h := h.2 hb
    refine u_iload_n (i := 3) (pc' := 13) dX5_run_12 rfl rfl rfl ?_
    refine u_aload_n (i := 0) (pc' := 14) dX5_run_13 rfl rfl rfl ?_
    refine u_getI (z := (τ x0 1)) (pc' := 17) dX5_run_14 rfl fl_TuneDoor_Rules_33 rfl (by decide) (kRules k_x0).1 k_x0 rfl (fun r5 => ?_)
    refine u_icmp_ge (tgt := 114) (pc' := 20) dX5_run_17 rfl (by decide) c1 r5 (fun hb => ?_) (fun hb => ?_)
    · have h := h.1 hb
      refine u_aload_n (i := 0) (pc' := 115) dX5_run_114 rfl rfl rfl ?_
      refine u_invV (q' := qX5_pop) (As := []) (st := []) (pc' := 118) dX5_run_115 rfl gX5_pop wm_777 rfl rfl (kRules k_x0).1 k_x0 wm_779 wp_39 rfl (Nat.le_of_ble_eq_true rfl) (M0.mono h (fun v τ6 h => ?_))
      obtain ⟨r7, rfl, h⟩ := h
      show V0 E (d + 1) qX5_run 118 [some (vR x0), none, some (vI x2), some (vI x3), none, none] [vI r7] τ6 Q
      exact u_iret dX5_run_118 rfl h
    · have h := h.2 hb
      refine u_aload_n (i := 0) (pc' := 21) dX5_run_20 rfl rfl rfl ?_
      refine u_getR (a := (x0 + 1)) (pc' := 24) dX5_run_21 rfl fl_TuneDoor_Rules_9 rfl (kRules k_x0).1 k_x0 (kRules k_x0).2.1 ?_
      refine u_iload_n (i := 3) (pc' := 25) dX5_run_24 rfl rfl rfl ?_
      obtain ⟨c8, c9, h⟩ := h
      refine u_iaload (k := x3.toNat) (z := (τ (x0 + 1) x3.toNat)) (pc' := 26) dX5_run_25 rfl (Nat.le_trans (kRules k_x0).1 (Nat.le_add_right _ _)) (kRules k_x0).2.2.2.2.2.2.2.2.1 c8 c9 (by decide) rfl rfl (fun r10 => ?_)
      refine s_istore (i := 4) (ls' := [some (vR x0), none, some (vI x2), some (vI x3), some (vI (τ (x0 + 1) x3.toNat)), none]) (pc' := 28) dX5_run_26 rfl (Nat.le_of_ble_eq_true rfl) rfl rfl ?_
      refine u_iload (i := 4) (pc' := 30) dX5_run_28 rfl rfl ?_
      refine u_if_lt (tgt := 42) (pc' := 33) dX5_run_30 rfl (by decide) r10 (fun hb => ?_) (fun hb => ?_)
      · have h := h.1 hb
        refine u_iload (i := 4) (pc' := 44) dX5_run_42 rfl rfl ?_
        refine u_bipush (pc' := 46) dX5_run_44 rfl (by decide) ?_
        refine u_icmp_lt (tgt := 65) (pc' := 49) dX5_run_46 rfl (by decide) r10 ⟨by decide, by decide⟩ (fun hb => ?_) (fun hb => ?_)
        · have h := h.1 hb
          refine u_iload (i := 4) (pc' := 67) dX5_run_65 rfl rfl ?_
          refine u_bipush (pc' := 69) dX5_run_67 rfl (by decide) ?_
          refine u_icmp_ne (tgt := 85) (pc' := 72) dX5_run_69 rfl (by decide) r10 ⟨by decide, by decide⟩ (fun hb => ?_) (fun hb => ?_)
          · have h := h.1 hb
            refine u_aload_n (i := 0) (pc' := 86) dX5_run_85 rfl rfl rfl ?_
            refine u_invV (q' := qX5_pop) (As := []) (st := []) (pc' := 89) dX5_run_86 rfl gX5_pop wm_777 rfl rfl (kRules k_x0).1 k_x0 wm_779 wp_39 rfl (Nat.le_of_ble_eq_true rfl) (M0.mono h (fun v τ11 h => ?_))
            obtain ⟨r12, rfl, h⟩ := h
            show V0 E (d + 1) qX5_run 89 [some (vR x0), none, some (vI x2), some (vI x3), some (vI (τ (x0 + 1) x3.toNat)), none] [vI r12] τ11 Q
            refine s_istore (i := 5) (ls' := [some (vR x0), none, some (vI x2), some (vI x3), some (vI (τ (x0 + 1) x3.toNat)), some (vI r12)]) (pc' := 91) dX5_run_89 rfl (Nat.le_of_ble_eq_true rfl) rfl rfl ?_
            refine u_aload_n (i := 0) (pc' := 92) dX5_run_91 rfl rfl rfl ?_
            refine u_iload (i := 4) (pc' := 94) dX5_run_92 rfl rfl ?_
            refine u_aload_n (i := 0) (pc' := 95) dX5_run_94 rfl rfl rfl ?_
            refine u_invV (q' := qX5_pop) (As := []) (st := [vI (τ (x0 + 1) x3.toNat), vR x0]) (pc' := 98) dX5_run_95 rfl gX5_pop wm_777 rfl rfl (kRules k_x0).1 k_x0 wm_779 wp_39 rfl (Nat.le_of_ble_eq_true rfl) (M0.mono h (fun v τ13 h => ?_))
            obtain ⟨r14, rfl, h⟩ := h
            show V0 E (d + 1) qX5_run 98 [some (vR x0), none, some (vI x2), some (vI x3), some (vI (τ (x0 + 1) x3.toNat)), some (vI r12)] [vI r14, vI (τ (x0 + 1) x3.toNat), vR x0] τ13 Q
            obtain ⟨c15, h⟩ := h
            refine u_i2l (pc' := 99) dX5_run_98 rfl c15 ?_
            refine u_iload (i := 5) (pc' := 101) dX5_run_99 rfl rfl ?_
            obtain ⟨c16, h⟩ := h
            refine u_i2l (pc' := 102) dX5_run_101 rfl c16 ?_
            refine u_invS (q' := qX5_join) (As := [vI (τ (x0 + 1) x3.toNat), vL r14, vL r12]) (st := [vR x0]) (pc' := 105) dX5_run_102 rfl gX5_join wm_781 wm_782 rfl (Nat.le_of_ble_eq_true rfl) (M0.mono h (fun v τ17 h => ?_))
            obtain ⟨r18, rfl, h⟩ := h
            show V0 E (d + 1) qX5_run 105 [some (vR x0), none, some (vI x2), some (vI x3), some (vI (τ (x0 + 1) x3.toNat)), some (vI r12)] [vI r18, vR x0] τ17 Q
            refine u_invV (q' := qX5_push) (As := [vI r18]) (st := []) (pc' := 108) dX5_run_105 rfl gX5_push wm_773 rfl rfl (kRules k_x0).1 k_x0 wm_775 wp_38 rfl (Nat.le_of_ble_eq_true rfl) (M0.mono h (fun v τ19 h => ?_))
            obtain ⟨rfl, h⟩ := h
            show V0 E (d + 1) qX5_run 108 [some (vR x0), none, some (vI x2), some (vI x3), some (vI (τ (x0 + 1) x3.toNat)), some (vI r12)] [] τ19 Q
            refine s_iinc (i := 3) (ls' := [some (vR x0), none, some (vI x2), some (vI (x3 + 1)), some (vI (τ (x0 + 1) x3.toNat)), some (vI r12)]) (pc' := 111) dX5_run_108 rfl rfl (Nat.le_of_ble_eq_true rfl) rfl rfl ?_
            refine u_goto (tgt := 7) dX5_run_111 (by decide) ?_
            exact u_less (ls' := [some (vR x0), none, some (vI x2), some (vI (x3 + 1)), none, none]) ⟨rfl, ⟨rfl, ⟨rfl, trivial⟩⟩⟩ h
          · have h := h.2 hb
            refine u_aload_n (i := 0) (pc' := 73) dX5_run_72 rfl rfl rfl ?_
            refine u_iconst (pc' := 74) dX5_run_73 rfl ?_
            refine u_aload_n (i := 0) (pc' := 75) dX5_run_74 rfl rfl rfl ?_
            refine u_invV (q' := qX5_pop) (As := []) (st := [vI 1, vR x0]) (pc' := 78) dX5_run_75 rfl gX5_pop wm_777 rfl rfl (kRules k_x0).1 k_x0 wm_779 wp_39 rfl (Nat.le_of_ble_eq_true rfl) (M0.mono h (fun v τ20 h => ?_))
            obtain ⟨r21, rfl, h⟩ := h
            show V0 E (d + 1) qX5_run 78 [some (vR x0), none, some (vI x2), some (vI x3), some (vI (τ (x0 + 1) x3.toNat)), none] [vI r21, vI 1, vR x0] τ20 Q
            refine u_isub (pc' := 79) dX5_run_78 rfl ?_
            refine u_invV (q' := qX5_push) (As := [vI (1 - r21)]) (st := []) (pc' := 82) dX5_run_79 rfl gX5_push wm_773 rfl rfl (kRules k_x0).1 k_x0 wm_775 wp_38 rfl (Nat.le_of_ble_eq_true rfl) (M0.mono h (fun v τ22 h => ?_))
            obtain ⟨rfl, h⟩ := h
            show V0 E (d + 1) qX5_run 82 [some (vR x0), none, some (vI x2), some (vI x3), some (vI (τ (x0 + 1) x3.toNat)), none] [] τ22 Q
            refine u_goto (tgt := 108) dX5_run_82 (by decide) ?_
            refine s_iinc (i := 3) (ls' := [some (vR x0), none, some (vI x2), some (vI (x3 + 1)), some (vI (τ (x0 + 1) x3.toNat)), none]) (pc' := 111) dX5_run_108 rfl rfl (Nat.le_of_ble_eq_true rfl) rfl rfl ?_
            refine u_goto (tgt := 7) dX5_run_111 (by decide) ?_
            exact u_less (ls' := [some (vR x0), none, some (vI x2), some (vI (x3 + 1)), none, none]) ⟨rfl, ⟨rfl, ⟨rfl, trivial⟩⟩⟩ h
        · have h := h.2 hb
          refine u_aload_n (i := 0) (pc' := 50) dX5_run_49 rfl rfl rfl ?_
          refine u_aload_n (i := 0) (pc' := 51) dX5_run_50 rfl rfl rfl ?_
          refine u_getR (a := (x0 + 6)) (pc' := 54) dX5_run_51 rfl fl_TuneDoor_Rules_27 rfl (kRules k_x0).1 k_x0 (kRules k_x0).2.2.2.2.2.2.1 ?_
          refine u_iconst (pc' := 55) dX5_run_54 rfl ?_
          refine u_iload (i := 4) (pc' := 57) dX5_run_55 rfl rfl ?_
          refine u_isub (pc' := 58) dX5_run_57 rfl ?_
          obtain ⟨c23, c24, h⟩ := h
          refine u_iaload (k := ((-1) - (τ (x0 + 1) x3.toNat)).toNat) (z := (τ (x0 + 6) ((-1) - (τ (x0 + 1) x3.toNat)).toNat)) (pc' := 59) dX5_run_58 rfl (Nat.le_trans (kRules k_x0).1 (Nat.le_add_right _ _)) (kRules k_x0).2.2.2.2.2.2.2.2.2.2.2.2.2.1 c23 c24 (by decide) rfl rfl (fun r25 => ?_)
          refine u_invV (q' := qX5_push) (As := [vI (τ (x0 + 6) ((-1) - (τ (x0 + 1) x3.toNat)).toNat)]) (st := []) (pc' := 62) dX5_run_59 rfl gX5_push wm_773 rfl rfl (kRules k_x0).1 k_x0 wm_775 wp_38 rfl (Nat.le_of_ble_eq_true rfl) (M0.mono h (fun v τ26 h => ?_))
          obtain ⟨rfl, h⟩ := h
          show V0 E (d + 1) qX5_run 62 [some (vR x0), none, some (vI x2), some (vI x3), some (vI (τ (x0 + 1) x3.toNat)), none] [] τ26 Q
          refine u_goto (tgt := 108) dX5_run_62 (by decide) ?_
          refine s_iinc (i := 3) (ls' := [some (vR x0), none, some (vI x2), some (vI (x3 + 1)), some (vI (τ (x0 + 1) x3.toNat)), none]) (pc' := 111) dX5_run_108 rfl rfl (Nat.le_of_ble_eq_true rfl) rfl rfl ?_
          refine u_goto (tgt := 7) dX5_run_111 (by decide) ?_
          exact u_less (ls' := [some (vR x0), none, some (vI x2), some (vI (x3 + 1)), none, none]) ⟨rfl, ⟨rfl, ⟨rfl, trivial⟩⟩⟩ h
      · have h := h.2 hb
        refine u_aload_n (i := 0) (pc' := 34) dX5_run_33 rfl rfl rfl ?_
        refine u_iload (i := 4) (pc' := 36) dX5_run_34 rfl rfl ?_
        refine u_invV (q' := qX5_push) (As := [vI (τ (x0 + 1) x3.toNat)]) (st := []) (pc' := 39) dX5_run_36 rfl gX5_push wm_773 rfl rfl (kRules k_x0).1 k_x0 wm_775 wp_38 rfl (Nat.le_of_ble_eq_true rfl) (M0.mono h (fun v τ27 h => ?_))
        obtain ⟨rfl, h⟩ := h
        show V0 E (d + 1) qX5_run 39 [some (vR x0), none, some (vI x2), some (vI x3), some (vI (τ (x0 + 1) x3.toNat)), none] [] τ27 Q
        refine u_goto (tgt := 108) dX5_run_39 (by decide) ?_
        refine s_iinc (i := 3) (ls' := [some (vR x0), none, some (vI x2), some (vI (x3 + 1)), some (vI (τ (x0 + 1) x3.toNat)), none]) (pc' := 111) dX5_run_108 rfl rfl (Nat.le_of_ble_eq_true rfl) rfl rfl ?_
        refine u_goto (tgt := 7) dX5_run_111 (by decide) ?_
        exact u_less (ls' := [some (vR x0), none, some (vI x2), some (vI (x3 + 1)), none, none]) ⟨rfl, ⟨rfl, ⟨rfl, trivial⟩⟩⟩ h
set_option maxRecDepth 20000 in
theorem bX5_push_0 {E : mm_Env} {d : Nat} {τ : mm_Mem} {Q : mm_Q0} {ths : Nat} {a0 : Int} (k_ths : KD ths = some (.inr 5)) (h : ((64 ≤ (τ ths 8) → Q none τ) ∧ (¬ 64 ≤ (τ ths 8) → 0 ≤ (τ ths 8) ∧ (τ ths 8) < 64 ∧ inR a0 ∧ inR (((wr τ (ths + 7) (τ ths 8).toNat a0) ths 8) + 1) ∧ Q none (wr (wr τ (ths + 7) (τ ths 8).toNat a0) ths 8 (((wr τ (ths + 7) (τ ths 8).toNat a0) ths 8) + 1))))) : V0 E d qX5_push 0 [some (vR ths), some (vI a0)] [] τ Q := by
  refine u_aload_n (i := 0) (pc' := 1) dX5_push_0 rfl rfl rfl ?_
  refine u_getI (z := (τ ths 8)) (pc' := 4) dX5_push_1 rfl fl_TuneDoor_Rules_56 rfl (by decide) (kRules k_ths).1 k_ths rfl (fun r1 => ?_)
  refine u_aload_n (i := 0) (pc' := 5) dX5_push_4 rfl rfl rfl ?_
  refine u_getR (a := (ths + 7)) (pc' := 8) dX5_push_5 rfl fl_TuneDoor_Rules_30 rfl (kRules k_ths).1 k_ths (kRules k_ths).2.2.2.2.2.2.2.1 ?_
  refine u_alen (t0 := 0) (pc' := 9) dX5_push_8 rfl (Nat.le_trans (kRules k_ths).1 (Nat.le_add_right _ _)) (kRules k_ths).2.2.2.2.2.2.2.2.2.2.2.2.2.2 (fun _ => rfl) ?_
  refine u_icmp_ge (tgt := 32) (pc' := 12) dX5_push_9 rfl (by decide) r1 ⟨by decide, by decide⟩ (fun hb => ?_) (fun hb => ?_)
  · have h := h.1 hb
    exact u_ret dX5_push_32 rfl h
  · have h := h.2 hb
    refine u_aload_n (i := 0) (pc' := 13) dX5_push_12 rfl rfl rfl ?_
    refine u_getR (a := (ths + 7)) (pc' := 16) dX5_push_13 rfl fl_TuneDoor_Rules_30 rfl (kRules k_ths).1 k_ths (kRules k_ths).2.2.2.2.2.2.2.1 ?_
    refine u_aload_n (i := 0) (pc' := 17) dX5_push_16 rfl rfl rfl ?_
    refine u_getI (z := (τ ths 8)) (pc' := 20) dX5_push_17 rfl fl_TuneDoor_Rules_56 rfl (by decide) (kRules k_ths).1 k_ths rfl (fun r2 => ?_)
    refine u_iload_n (i := 1) (pc' := 21) dX5_push_20 rfl rfl rfl ?_
    obtain ⟨c3, c4, c5, h⟩ := h
    refine u_iastore (k := (τ ths 8).toNat) (pc' := 22) dX5_push_21 rfl (Nat.le_trans (kRules k_ths).1 (Nat.le_add_right _ _)) (kRules k_ths).2.2.2.2.2.2.2.2.2.2.2.2.2.2 c3 c4 (by decide) rfl c5 ?_
    refine u_aload_n (i := 0) (pc' := 23) dX5_push_22 rfl rfl rfl ?_
    refine u_dup (pc' := 24) dX5_push_23 rfl (fun _ hh => by cases hh) ?_
    refine u_getI (z := ((wr τ (ths + 7) (τ ths 8).toNat a0) ths 8)) (pc' := 27) dX5_push_24 rfl fl_TuneDoor_Rules_56 rfl (by decide) (kRules k_ths).1 k_ths rfl (fun r6 => ?_)
    refine u_iconst (pc' := 28) dX5_push_27 rfl ?_
    refine u_iadd (pc' := 29) dX5_push_28 rfl ?_
    obtain ⟨c7, h⟩ := h
    refine u_putI (pc' := 32) dX5_push_29 rfl fl_TuneDoor_Rules_56 rfl rfl (by decide) (kRules k_ths).1 k_ths c7 ?_
    exact u_ret dX5_push_32 rfl h
theorem mX5_push {E : mm_Env} {d : Nat} {τ : mm_Mem} {Q : mm_Q0} {ths : Nat} {a0 : Int} (k_ths : KD ths = some (.inr 5)) (h : ((64 ≤ (τ ths 8) → Q none τ) ∧ (¬ 64 ≤ (τ ths 8) → 0 ≤ (τ ths 8) ∧ (τ ths 8) < 64 ∧ inR a0 ∧ inR (((wr τ (ths + 7) (τ ths 8).toNat a0) ths 8) + 1) ∧ Q none (wr (wr τ (ths + 7) (τ ths 8).toNat a0) ths 8 (((wr τ (ths + 7) (τ ths 8).toNat a0) ths 8) + 1))))) : M0 E d qX5_push [vR ths, vI a0] τ Q := M0_of rfl (Nat.le_of_ble_eq_true rfl) [some (vR ths), some (vI a0)] rfl (bX5_push_0 k_ths h)
set_option maxRecDepth 20000 in
theorem bX5_pop_0 {E : mm_Env} {d : Nat} {τ : mm_Mem} {Q : mm_Q0} {ths : Nat} (k_ths : KD ths = some (.inr 5)) (h : ((1 ≤ (τ ths 8) → inR ((τ ths 8) - 1) ∧ 0 ≤ ((τ ths 8) - 1) ∧ ((τ ths 8) - 1) < 64 ∧ Q (some (vI ((wr τ ths 8 ((τ ths 8) - 1)) (ths + 7) ((τ ths 8) - 1).toNat))) (wr τ ths 8 ((τ ths 8) - 1))) ∧ (¬ 1 ≤ (τ ths 8) → Q (some (vI 0)) τ))) : V0 E d qX5_pop 0 [some (vR ths)] [] τ Q := by
  refine u_aload_n (i := 0) (pc' := 1) dX5_pop_0 rfl rfl rfl ?_
  refine u_getI (z := (τ ths 8)) (pc' := 4) dX5_pop_1 rfl fl_TuneDoor_Rules_56 rfl (by decide) (kRules k_ths).1 k_ths rfl (fun r1 => ?_)
  refine u_iconst (pc' := 5) dX5_pop_4 rfl ?_
  refine u_icmp_ge (tgt := 10) (pc' := 8) dX5_pop_5 rfl (by decide) r1 ⟨by decide, by decide⟩ (fun hb => ?_) (fun hb => ?_)
  · have h := h.1 hb
    refine u_aload_n (i := 0) (pc' := 11) dX5_pop_10 rfl rfl rfl ?_
    refine u_dup (pc' := 12) dX5_pop_11 rfl (fun _ hh => by cases hh) ?_
    refine u_getI (z := (τ ths 8)) (pc' := 15) dX5_pop_12 rfl fl_TuneDoor_Rules_56 rfl (by decide) (kRules k_ths).1 k_ths rfl (fun r2 => ?_)
    refine u_iconst (pc' := 16) dX5_pop_15 rfl ?_
    refine u_isub (pc' := 17) dX5_pop_16 rfl ?_
    obtain ⟨c3, h⟩ := h
    refine u_putI (pc' := 20) dX5_pop_17 rfl fl_TuneDoor_Rules_56 rfl rfl (by decide) (kRules k_ths).1 k_ths c3 ?_
    refine u_aload_n (i := 0) (pc' := 21) dX5_pop_20 rfl rfl rfl ?_
    refine u_getR (a := (ths + 7)) (pc' := 24) dX5_pop_21 rfl fl_TuneDoor_Rules_30 rfl (kRules k_ths).1 k_ths (kRules k_ths).2.2.2.2.2.2.2.1 ?_
    refine u_aload_n (i := 0) (pc' := 25) dX5_pop_24 rfl rfl rfl ?_
    refine u_getI (z := ((τ ths 8) - 1)) (pc' := 28) dX5_pop_25 rfl fl_TuneDoor_Rules_56 rfl (by decide) (kRules k_ths).1 k_ths (by simp [wr]) (fun r4 => ?_)
    obtain ⟨c5, c6, h⟩ := h
    refine u_iaload (k := ((τ ths 8) - 1).toNat) (z := ((wr τ ths 8 ((τ ths 8) - 1)) (ths + 7) ((τ ths 8) - 1).toNat)) (pc' := 29) dX5_pop_28 rfl (Nat.le_trans (kRules k_ths).1 (Nat.le_add_right _ _)) (kRules k_ths).2.2.2.2.2.2.2.2.2.2.2.2.2.2 c5 c6 (by decide) rfl rfl (fun r7 => ?_)
    exact u_iret dX5_pop_29 rfl h
  · have h := h.2 hb
    refine u_iconst (pc' := 9) dX5_pop_8 rfl ?_
    exact u_iret dX5_pop_9 rfl h
theorem mX5_pop {E : mm_Env} {d : Nat} {τ : mm_Mem} {Q : mm_Q0} {ths : Nat} (k_ths : KD ths = some (.inr 5)) (h : ((1 ≤ (τ ths 8) → inR ((τ ths 8) - 1) ∧ 0 ≤ ((τ ths 8) - 1) ∧ ((τ ths 8) - 1) < 64 ∧ Q (some (vI ((wr τ ths 8 ((τ ths 8) - 1)) (ths + 7) ((τ ths 8) - 1).toNat))) (wr τ ths 8 ((τ ths 8) - 1))) ∧ (¬ 1 ≤ (τ ths 8) → Q (some (vI 0)) τ))) : M0 E d qX5_pop [vR ths] τ Q := M0_of rfl (Nat.le_of_ble_eq_true rfl) [some (vR ths)] rfl (bX5_pop_0 k_ths h)
set_option maxRecDepth 20000 in
theorem bX5_join_0 {E : mm_Env} {d : Nat} {τ : mm_Mem} {Q : mm_Q0} {a0 : Int} {a1 : Int} {a2 : Int} (h : inR a0 ∧ ((a0 < (-18) ∨ (-8) < a0 → M0 E d qJ9_min_f86c9 [vL 1000000, vL (mm_lor a1 a2)] τ (fun v τ2 => ∃ r3 : Int, v = some (vL r3) ∧ M0 E d qJ9_max_f86c9 [vL (-1000000), vL r3] τ2 (fun v τ4 => ∃ r5 : Int, v = some (vL r5) ∧ inL r5 ∧ Q (some (vI r5)) τ4))) ∧ (a0 = (-18) → M0 E d qJ9_min_f86c9 [vL 1000000, vL (mm_land a1 a2)] τ (fun v τ7 => ∃ r8 : Int, v = some (vL r8) ∧ M0 E d qJ9_max_f86c9 [vL (-1000000), vL r8] τ7 (fun v τ9 => ∃ r10 : Int, v = some (vL r10) ∧ inL r10 ∧ Q (some (vI r10)) τ9))) ∧ (a0 = (-17) → inL a1 ∧ inL a2 ∧ ((a1 ≠ a2 → M0 E d qJ9_min_f86c9 [vL 1000000, vL 0] τ (fun v τ14 => ∃ r15 : Int, v = some (vL r15) ∧ M0 E d qJ9_max_f86c9 [vL (-1000000), vL r15] τ14 (fun v τ16 => ∃ r17 : Int, v = some (vL r17) ∧ inL r17 ∧ Q (some (vI r17)) τ16))) ∧ (a1 = a2 → M0 E d qJ9_min_f86c9 [vL 1000000, vL 1] τ (fun v τ19 => ∃ r20 : Int, v = some (vL r20) ∧ M0 E d qJ9_max_f86c9 [vL (-1000000), vL r20] τ19 (fun v τ21 => ∃ r22 : Int, v = some (vL r22) ∧ inL r22 ∧ Q (some (vI r22)) τ21))))) ∧ (a0 = (-16) → inL a1 ∧ inL a2 ∧ ((a1 ≤ a2 → M0 E d qJ9_min_f86c9 [vL 1000000, vL 0] τ (fun v τ26 => ∃ r27 : Int, v = some (vL r27) ∧ M0 E d qJ9_max_f86c9 [vL (-1000000), vL r27] τ26 (fun v τ28 => ∃ r29 : Int, v = some (vL r29) ∧ inL r29 ∧ Q (some (vI r29)) τ28))) ∧ (¬ a1 ≤ a2 → M0 E d qJ9_min_f86c9 [vL 1000000, vL 1] τ (fun v τ31 => ∃ r32 : Int, v = some (vL r32) ∧ M0 E d qJ9_max_f86c9 [vL (-1000000), vL r32] τ31 (fun v τ33 => ∃ r34 : Int, v = some (vL r34) ∧ inL r34 ∧ Q (some (vI r34)) τ33))))) ∧ (a0 = (-15) → inL a1 ∧ inL a2 ∧ ((a2 ≤ a1 → M0 E d qJ9_min_f86c9 [vL 1000000, vL 0] τ (fun v τ38 => ∃ r39 : Int, v = some (vL r39) ∧ M0 E d qJ9_max_f86c9 [vL (-1000000), vL r39] τ38 (fun v τ40 => ∃ r41 : Int, v = some (vL r41) ∧ inL r41 ∧ Q (some (vI r41)) τ40))) ∧ (¬ a2 ≤ a1 → M0 E d qJ9_min_f86c9 [vL 1000000, vL 1] τ (fun v τ43 => ∃ r44 : Int, v = some (vL r44) ∧ M0 E d qJ9_max_f86c9 [vL (-1000000), vL r44] τ43 (fun v τ45 => ∃ r46 : Int, v = some (vL r46) ∧ inL r46 ∧ Q (some (vI r46)) τ45))))) ∧ (a0 = (-14) → M0 E d qJ9_max_f86c9 [vL a1, vL a2] τ (fun v τ48 => ∃ r49 : Int, v = some (vL r49) ∧ M0 E d qJ9_min_f86c9 [vL 1000000, vL r49] τ48 (fun v τ50 => ∃ r51 : Int, v = some (vL r51) ∧ M0 E d qJ9_max_f86c9 [vL (-1000000), vL r51] τ50 (fun v τ52 => ∃ r53 : Int, v = some (vL r53) ∧ inL r53 ∧ Q (some (vI r53)) τ52)))) ∧ (a0 = (-13) → M0 E d qJ9_min_f86c9 [vL a1, vL a2] τ (fun v τ55 => ∃ r56 : Int, v = some (vL r56) ∧ M0 E d qJ9_min_f86c9 [vL 1000000, vL r56] τ55 (fun v τ57 => ∃ r58 : Int, v = some (vL r58) ∧ M0 E d qJ9_max_f86c9 [vL (-1000000), vL r58] τ57 (fun v τ59 => ∃ r60 : Int, v = some (vL r60) ∧ inL r60 ∧ Q (some (vI r60)) τ59)))) ∧ (a0 = (-12) → inL a2 ∧ ((a2 ≠ 0 → M0 E d qJ9_floorMod_f86c9 [vL a1, vL a2] τ (fun v τ63 => ∃ r64 : Int, v = some (vL r64) ∧ M0 E d qJ9_min_f86c9 [vL 1000000, vL r64] τ63 (fun v τ65 => ∃ r66 : Int, v = some (vL r66) ∧ M0 E d qJ9_max_f86c9 [vL (-1000000), vL r66] τ65 (fun v τ67 => ∃ r68 : Int, v = some (vL r68) ∧ inL r68 ∧ Q (some (vI r68)) τ67)))) ∧ (a2 = 0 → M0 E d qJ9_min_f86c9 [vL 1000000, vL 0] τ (fun v τ70 => ∃ r71 : Int, v = some (vL r71) ∧ M0 E d qJ9_max_f86c9 [vL (-1000000), vL r71] τ70 (fun v τ72 => ∃ r73 : Int, v = some (vL r73) ∧ inL r73 ∧ Q (some (vI r73)) τ72))))) ∧ (a0 = (-11) → inL a2 ∧ ((a2 ≠ 0 → M0 E d qJ9_floorDiv_f86c9 [vL a1, vL a2] τ (fun v τ76 => ∃ r77 : Int, v = some (vL r77) ∧ M0 E d qJ9_min_f86c9 [vL 1000000, vL r77] τ76 (fun v τ78 => ∃ r79 : Int, v = some (vL r79) ∧ M0 E d qJ9_max_f86c9 [vL (-1000000), vL r79] τ78 (fun v τ80 => ∃ r81 : Int, v = some (vL r81) ∧ inL r81 ∧ Q (some (vI r81)) τ80)))) ∧ (a2 = 0 → M0 E d qJ9_min_f86c9 [vL 1000000, vL 0] τ (fun v τ83 => ∃ r84 : Int, v = some (vL r84) ∧ M0 E d qJ9_max_f86c9 [vL (-1000000), vL r84] τ83 (fun v τ85 => ∃ r86 : Int, v = some (vL r86) ∧ inL r86 ∧ Q (some (vI r86)) τ85))))) ∧ (a0 = (-10) → M0 E d qJ9_min_f86c9 [vL 1000000, vL (a1 * a2)] τ (fun v τ88 => ∃ r89 : Int, v = some (vL r89) ∧ M0 E d qJ9_max_f86c9 [vL (-1000000), vL r89] τ88 (fun v τ90 => ∃ r91 : Int, v = some (vL r91) ∧ inL r91 ∧ Q (some (vI r91)) τ90))) ∧ (a0 = (-9) → M0 E d qJ9_min_f86c9 [vL 1000000, vL (a1 - a2)] τ (fun v τ93 => ∃ r94 : Int, v = some (vL r94) ∧ M0 E d qJ9_max_f86c9 [vL (-1000000), vL r94] τ93 (fun v τ95 => ∃ r96 : Int, v = some (vL r96) ∧ inL r96 ∧ Q (some (vI r96)) τ95))) ∧ (a0 = (-8) → M0 E d qJ9_min_f86c9 [vL 1000000, vL (a1 + a2)] τ (fun v τ98 => ∃ r99 : Int, v = some (vL r99) ∧ M0 E d qJ9_max_f86c9 [vL (-1000000), vL r99] τ98 (fun v τ100 => ∃ r101 : Int, v = some (vL r101) ∧ inL r101 ∧ Q (some (vI r101)) τ100))))) : V0 E (d + 1) qX5_join 0 [some (vI a0), some (vL a1), none, some (vL a2), none, none, none] [] τ Q := by
  refine u_iload_n (i := 0) (pc' := 1) dX5_join_0 rfl rfl rfl ?_
  obtain ⟨c1, h⟩ := h
  refine u_tableswitch (dt := 200) dX5_join_1 c1 (by decide) (fun hb => ?_) (fun hb hb2 => ?_)
  · have h := h.1 hb
    refine u_lload_n (i := 1) (pc' := 201) dX5_join_200 rfl rfl rfl ?_
    refine u_lload_n (i := 3) (pc' := 202) dX5_join_201 rfl rfl rfl ?_
    refine u_lor (pc' := 203) dX5_join_202 rfl ?_
    refine s_lstore (i := 5) (ls' := [some (vI a0), some (vL a1), none, some (vL a2), none, some (vL (mm_lor a1 a2)), none]) (pc' := 205) dX5_join_203 rfl (Nat.le_of_ble_eq_true rfl) rfl rfl ?_
    refine u_ldc2 (z := (-1000000)) (pc' := 208) dX5_join_205 rfl wm_796 (by decide) ?_
    refine u_ldc2 (z := 1000000) (pc' := 211) dX5_join_208 rfl wm_797 (by decide) ?_
    refine u_lload (i := 5) (pc' := 213) dX5_join_211 rfl rfl ?_
    refine u_invS (q' := qJ9_min_f86c9) (As := [vL 1000000, vL (mm_lor a1 a2)]) (st := [vL (-1000000)]) (pc' := 216) dX5_join_213 rfl gJ9_min_f86c9 wm_790 wm_791 rfl (Nat.le_of_ble_eq_true rfl) (M0.mono h (fun v τ2 h => ?_))
    obtain ⟨r3, rfl, h⟩ := h
    show V0 E (d + 1) qX5_join 216 [some (vI a0), some (vL a1), none, some (vL a2), none, some (vL (mm_lor a1 a2)), none] [vL r3, vL (-1000000)] τ2 Q
    refine u_invS (q' := qJ9_max_f86c9) (As := [vL (-1000000), vL r3]) (st := []) (pc' := 219) dX5_join_216 rfl gJ9_max_f86c9 wm_793 wm_794 rfl (Nat.le_of_ble_eq_true rfl) (M0.mono h (fun v τ4 h => ?_))
    obtain ⟨r5, rfl, h⟩ := h
    show V0 E (d + 1) qX5_join 219 [some (vI a0), some (vL a1), none, some (vL a2), none, some (vL (mm_lor a1 a2)), none] [vL r5] τ4 Q
    obtain ⟨c6, h⟩ := h
    refine u_l2i (pc' := 220) dX5_join_219 rfl c6 ?_
    exact u_iret dX5_join_220 rfl h
  · have hc : a0 = (-18) ∨ a0 = (-17) ∨ a0 = (-16) ∨ a0 = (-15) ∨ a0 = (-14) ∨ a0 = (-13) ∨ a0 = (-12) ∨ a0 = (-11) ∨ a0 = (-10) ∨ a0 = (-9) ∨ a0 = (-8) := by omega
    rcases hc with hc | hc | hc | hc | hc | hc | hc | hc | hc | hc | hc
    · have h := h.2.1 hc
      refine ⟨191, 192, by rw [hc]; rfl, by decide, ?_⟩
      refine u_lload_n (i := 1) (pc' := 193) dX5_join_192 rfl rfl rfl ?_
      refine u_lload_n (i := 3) (pc' := 194) dX5_join_193 rfl rfl rfl ?_
      refine u_land (pc' := 195) dX5_join_194 rfl ?_
      refine s_lstore (i := 5) (ls' := [some (vI a0), some (vL a1), none, some (vL a2), none, some (vL (mm_land a1 a2)), none]) (pc' := 197) dX5_join_195 rfl (Nat.le_of_ble_eq_true rfl) rfl rfl ?_
      refine u_goto (tgt := 205) dX5_join_197 (by decide) ?_
      refine u_ldc2 (z := (-1000000)) (pc' := 208) dX5_join_205 rfl wm_796 (by decide) ?_
      refine u_ldc2 (z := 1000000) (pc' := 211) dX5_join_208 rfl wm_797 (by decide) ?_
      refine u_lload (i := 5) (pc' := 213) dX5_join_211 rfl rfl ?_
      refine u_invS (q' := qJ9_min_f86c9) (As := [vL 1000000, vL (mm_land a1 a2)]) (st := [vL (-1000000)]) (pc' := 216) dX5_join_213 rfl gJ9_min_f86c9 wm_790 wm_791 rfl (Nat.le_of_ble_eq_true rfl) (M0.mono h (fun v τ7 h => ?_))
      obtain ⟨r8, rfl, h⟩ := h
      show V0 E (d + 1) qX5_join 216 [some (vI a0), some (vL a1), none, some (vL a2), none, some (vL (mm_land a1 a2)), none] [vL r8, vL (-1000000)] τ7 Q
      refine u_invS (q' := qJ9_max_f86c9) (As := [vL (-1000000), vL r8]) (st := []) (pc' := 219) dX5_join_216 rfl gJ9_max_f86c9 wm_793 wm_794 rfl (Nat.le_of_ble_eq_true rfl) (M0.mono h (fun v τ9 h => ?_))
      obtain ⟨r10, rfl, h⟩ := h
      show V0 E (d + 1) qX5_join 219 [some (vI a0), some (vL a1), none, some (vL a2), none, some (vL (mm_land a1 a2)), none] [vL r10] τ9 Q
      obtain ⟨c11, h⟩ := h
      refine u_l2i (pc' := 220) dX5_join_219 rfl c11 ?_
      exact u_iret dX5_join_220 rfl h
    · have h := h.2.2.1 hc
      refine ⟨175, 176, by rw [hc]; rfl, by decide, ?_⟩
      refine u_lload_n (i := 1) (pc' := 177) dX5_join_176 rfl rfl rfl ?_
      refine u_lload_n (i := 3) (pc' := 178) dX5_join_177 rfl rfl rfl ?_
      obtain ⟨c12, c13, h⟩ := h
      refine u_lcmp (pc' := 179) dX5_join_178 rfl c12 c13 ?_
      refine u_if_ne (tgt := 186) (pc' := 182) dX5_join_179 rfl (by decide) (mm_cmp_R _ _) (fun hb => ?_) (fun hb => ?_)
      · have h := h.1 (mm_cmp_ne.mp hb)
        refine u_lconst (z := 0) (pc' := 187) dX5_join_186 rfl (by decide) ?_
        refine s_lstore (i := 5) (ls' := [some (vI a0), some (vL a1), none, some (vL a2), none, some (vL 0), none]) (pc' := 189) dX5_join_187 rfl (Nat.le_of_ble_eq_true rfl) rfl rfl ?_
        refine u_goto (tgt := 205) dX5_join_189 (by decide) ?_
        refine u_ldc2 (z := (-1000000)) (pc' := 208) dX5_join_205 rfl wm_796 (by decide) ?_
        refine u_ldc2 (z := 1000000) (pc' := 211) dX5_join_208 rfl wm_797 (by decide) ?_
        refine u_lload (i := 5) (pc' := 213) dX5_join_211 rfl rfl ?_
        refine u_invS (q' := qJ9_min_f86c9) (As := [vL 1000000, vL 0]) (st := [vL (-1000000)]) (pc' := 216) dX5_join_213 rfl gJ9_min_f86c9 wm_790 wm_791 rfl (Nat.le_of_ble_eq_true rfl) (M0.mono h (fun v τ14 h => ?_))
        obtain ⟨r15, rfl, h⟩ := h
        show V0 E (d + 1) qX5_join 216 [some (vI a0), some (vL a1), none, some (vL a2), none, some (vL 0), none] [vL r15, vL (-1000000)] τ14 Q
        refine u_invS (q' := qJ9_max_f86c9) (As := [vL (-1000000), vL r15]) (st := []) (pc' := 219) dX5_join_216 rfl gJ9_max_f86c9 wm_793 wm_794 rfl (Nat.le_of_ble_eq_true rfl) (M0.mono h (fun v τ16 h => ?_))
        obtain ⟨r17, rfl, h⟩ := h
        show V0 E (d + 1) qX5_join 219 [some (vI a0), some (vL a1), none, some (vL a2), none, some (vL 0), none] [vL r17] τ16 Q
        obtain ⟨c18, h⟩ := h
        refine u_l2i (pc' := 220) dX5_join_219 rfl c18 ?_
        exact u_iret dX5_join_220 rfl h
      · have h := h.2 (mm_cmp_0.mp hb)
        refine u_lconst (z := 1) (pc' := 183) dX5_join_182 rfl (by decide) ?_
        refine u_goto (tgt := 187) dX5_join_183 (by decide) ?_
        refine s_lstore (i := 5) (ls' := [some (vI a0), some (vL a1), none, some (vL a2), none, some (vL 1), none]) (pc' := 189) dX5_join_187 rfl (Nat.le_of_ble_eq_true rfl) rfl rfl ?_
        refine u_goto (tgt := 205) dX5_join_189 (by decide) ?_
        refine u_ldc2 (z := (-1000000)) (pc' := 208) dX5_join_205 rfl wm_796 (by decide) ?_
        refine u_ldc2 (z := 1000000) (pc' := 211) dX5_join_208 rfl wm_797 (by decide) ?_
        refine u_lload (i := 5) (pc' := 213) dX5_join_211 rfl rfl ?_
        refine u_invS (q' := qJ9_min_f86c9) (As := [vL 1000000, vL 1]) (st := [vL (-1000000)]) (pc' := 216) dX5_join_213 rfl gJ9_min_f86c9 wm_790 wm_791 rfl (Nat.le_of_ble_eq_true rfl) (M0.mono h (fun v τ19 h => ?_))
        obtain ⟨r20, rfl, h⟩ := h
        show V0 E (d + 1) qX5_join 216 [some (vI a0), some (vL a1), none, some (vL a2), none, some (vL 1), none] [vL r20, vL (-1000000)] τ19 Q
        refine u_invS (q' := qJ9_max_f86c9) (As := [vL (-1000000), vL r20]) (st := []) (pc' := 219) dX5_join_216 rfl gJ9_max_f86c9 wm_793 wm_794 rfl (Nat.le_of_ble_eq_true rfl) (M0.mono h (fun v τ21 h => ?_))
        obtain ⟨r22, rfl, h⟩ := h
        show V0 E (d + 1) qX5_join 219 [some (vI a0), some (vL a1), none, some (vL a2), none, some (vL 1), none] [vL r22] τ21 Q
        obtain ⟨c23, h⟩ := h
        refine u_l2i (pc' := 220) dX5_join_219 rfl c23 ?_
        exact u_iret dX5_join_220 rfl h
    · have h := h.2.2.2.1 hc
      refine ⟨159, 160, by rw [hc]; rfl, by decide, ?_⟩
      refine u_lload_n (i := 1) (pc' := 161) dX5_join_160 rfl rfl rfl ?_
      refine u_lload_n (i := 3) (pc' := 162) dX5_join_161 rfl rfl rfl ?_
      obtain ⟨c24, c25, h⟩ := h
      refine u_lcmp (pc' := 163) dX5_join_162 rfl c24 c25 ?_
      refine u_if_le (tgt := 170) (pc' := 166) dX5_join_163 rfl (by decide) (mm_cmp_R _ _) (fun hb => ?_) (fun hb => ?_)
      · have h := h.1 (mm_cmp_le.mp hb)
        refine u_lconst (z := 0) (pc' := 171) dX5_join_170 rfl (by decide) ?_
        refine s_lstore (i := 5) (ls' := [some (vI a0), some (vL a1), none, some (vL a2), none, some (vL 0), none]) (pc' := 173) dX5_join_171 rfl (Nat.le_of_ble_eq_true rfl) rfl rfl ?_
        refine u_goto (tgt := 205) dX5_join_173 (by decide) ?_
        refine u_ldc2 (z := (-1000000)) (pc' := 208) dX5_join_205 rfl wm_796 (by decide) ?_
        refine u_ldc2 (z := 1000000) (pc' := 211) dX5_join_208 rfl wm_797 (by decide) ?_
        refine u_lload (i := 5) (pc' := 213) dX5_join_211 rfl rfl ?_
        refine u_invS (q' := qJ9_min_f86c9) (As := [vL 1000000, vL 0]) (st := [vL (-1000000)]) (pc' := 216) dX5_join_213 rfl gJ9_min_f86c9 wm_790 wm_791 rfl (Nat.le_of_ble_eq_true rfl) (M0.mono h (fun v τ26 h => ?_))
        obtain ⟨r27, rfl, h⟩ := h
        show V0 E (d + 1) qX5_join 216 [some (vI a0), some (vL a1), none, some (vL a2), none, some (vL 0), none] [vL r27, vL (-1000000)] τ26 Q
        refine u_invS (q' := qJ9_max_f86c9) (As := [vL (-1000000), vL r27]) (st := []) (pc' := 219) dX5_join_216 rfl gJ9_max_f86c9 wm_793 wm_794 rfl (Nat.le_of_ble_eq_true rfl) (M0.mono h (fun v τ28 h => ?_))
        obtain ⟨r29, rfl, h⟩ := h
        show V0 E (d + 1) qX5_join 219 [some (vI a0), some (vL a1), none, some (vL a2), none, some (vL 0), none] [vL r29] τ28 Q
        obtain ⟨c30, h⟩ := h
        refine u_l2i (pc' := 220) dX5_join_219 rfl c30 ?_
        exact u_iret dX5_join_220 rfl h
      · have h := h.2 (fun w => hb (mm_cmp_le.mpr w))
        refine u_lconst (z := 1) (pc' := 167) dX5_join_166 rfl (by decide) ?_
        refine u_goto (tgt := 171) dX5_join_167 (by decide) ?_
        refine s_lstore (i := 5) (ls' := [some (vI a0), some (vL a1), none, some (vL a2), none, some (vL 1), none]) (pc' := 173) dX5_join_171 rfl (Nat.le_of_ble_eq_true rfl) rfl rfl ?_
        refine u_goto (tgt := 205) dX5_join_173 (by decide) ?_
        refine u_ldc2 (z := (-1000000)) (pc' := 208) dX5_join_205 rfl wm_796 (by decide) ?_
        refine u_ldc2 (z := 1000000) (pc' := 211) dX5_join_208 rfl wm_797 (by decide) ?_
        refine u_lload (i := 5) (pc' := 213) dX5_join_211 rfl rfl ?_
        refine u_invS (q' := qJ9_min_f86c9) (As := [vL 1000000, vL 1]) (st := [vL (-1000000)]) (pc' := 216) dX5_join_213 rfl gJ9_min_f86c9 wm_790 wm_791 rfl (Nat.le_of_ble_eq_true rfl) (M0.mono h (fun v τ31 h => ?_))
        obtain ⟨r32, rfl, h⟩ := h
        show V0 E (d + 1) qX5_join 216 [some (vI a0), some (vL a1), none, some (vL a2), none, some (vL 1), none] [vL r32, vL (-1000000)] τ31 Q
        refine u_invS (q' := qJ9_max_f86c9) (As := [vL (-1000000), vL r32]) (st := []) (pc' := 219) dX5_join_216 rfl gJ9_max_f86c9 wm_793 wm_794 rfl (Nat.le_of_ble_eq_true rfl) (M0.mono h (fun v τ33 h => ?_))
        obtain ⟨r34, rfl, h⟩ := h
        show V0 E (d + 1) qX5_join 219 [some (vI a0), some (vL a1), none, some (vL a2), none, some (vL 1), none] [vL r34] τ33 Q
        obtain ⟨c35, h⟩ := h
        refine u_l2i (pc' := 220) dX5_join_219 rfl c35 ?_
        exact u_iret dX5_join_220 rfl h
    · have h := h.2.2.2.2.1 hc
      refine ⟨143, 144, by rw [hc]; rfl, by decide, ?_⟩
      refine u_lload_n (i := 1) (pc' := 145) dX5_join_144 rfl rfl rfl ?_
      refine u_lload_n (i := 3) (pc' := 146) dX5_join_145 rfl rfl rfl ?_
      obtain ⟨c36, c37, h⟩ := h
      refine u_lcmp (pc' := 147) dX5_join_146 rfl c36 c37 ?_
      refine u_if_ge (tgt := 154) (pc' := 150) dX5_join_147 rfl (by decide) (mm_cmp_R _ _) (fun hb => ?_) (fun hb => ?_)
      · have h := h.1 (mm_cmp_ge.mp hb)
        refine u_lconst (z := 0) (pc' := 155) dX5_join_154 rfl (by decide) ?_
        refine s_lstore (i := 5) (ls' := [some (vI a0), some (vL a1), none, some (vL a2), none, some (vL 0), none]) (pc' := 157) dX5_join_155 rfl (Nat.le_of_ble_eq_true rfl) rfl rfl ?_
        refine u_goto (tgt := 205) dX5_join_157 (by decide) ?_
        refine u_ldc2 (z := (-1000000)) (pc' := 208) dX5_join_205 rfl wm_796 (by decide) ?_
        refine u_ldc2 (z := 1000000) (pc' := 211) dX5_join_208 rfl wm_797 (by decide) ?_
        refine u_lload (i := 5) (pc' := 213) dX5_join_211 rfl rfl ?_
        refine u_invS (q' := qJ9_min_f86c9) (As := [vL 1000000, vL 0]) (st := [vL (-1000000)]) (pc' := 216) dX5_join_213 rfl gJ9_min_f86c9 wm_790 wm_791 rfl (Nat.le_of_ble_eq_true rfl) (M0.mono h (fun v τ38 h => ?_))
        obtain ⟨r39, rfl, h⟩ := h
        show V0 E (d + 1) qX5_join 216 [some (vI a0), some (vL a1), none, some (vL a2), none, some (vL 0), none] [vL r39, vL (-1000000)] τ38 Q
        refine u_invS (q' := qJ9_max_f86c9) (As := [vL (-1000000), vL r39]) (st := []) (pc' := 219) dX5_join_216 rfl gJ9_max_f86c9 wm_793 wm_794 rfl (Nat.le_of_ble_eq_true rfl) (M0.mono h (fun v τ40 h => ?_))
        obtain ⟨r41, rfl, h⟩ := h
        show V0 E (d + 1) qX5_join 219 [some (vI a0), some (vL a1), none, some (vL a2), none, some (vL 0), none] [vL r41] τ40 Q
        obtain ⟨c42, h⟩ := h
        refine u_l2i (pc' := 220) dX5_join_219 rfl c42 ?_
        exact u_iret dX5_join_220 rfl h
      · have h := h.2 (fun w => hb (mm_cmp_ge.mpr w))
        refine u_lconst (z := 1) (pc' := 151) dX5_join_150 rfl (by decide) ?_
        refine u_goto (tgt := 155) dX5_join_151 (by decide) ?_
        refine s_lstore (i := 5) (ls' := [some (vI a0), some (vL a1), none, some (vL a2), none, some (vL 1), none]) (pc' := 157) dX5_join_155 rfl (Nat.le_of_ble_eq_true rfl) rfl rfl ?_
        refine u_goto (tgt := 205) dX5_join_157 (by decide) ?_
        refine u_ldc2 (z := (-1000000)) (pc' := 208) dX5_join_205 rfl wm_796 (by decide) ?_
        refine u_ldc2 (z := 1000000) (pc' := 211) dX5_join_208 rfl wm_797 (by decide) ?_
        refine u_lload (i := 5) (pc' := 213) dX5_join_211 rfl rfl ?_
        refine u_invS (q' := qJ9_min_f86c9) (As := [vL 1000000, vL 1]) (st := [vL (-1000000)]) (pc' := 216) dX5_join_213 rfl gJ9_min_f86c9 wm_790 wm_791 rfl (Nat.le_of_ble_eq_true rfl) (M0.mono h (fun v τ43 h => ?_))
        obtain ⟨r44, rfl, h⟩ := h
        show V0 E (d + 1) qX5_join 216 [some (vI a0), some (vL a1), none, some (vL a2), none, some (vL 1), none] [vL r44, vL (-1000000)] τ43 Q
        refine u_invS (q' := qJ9_max_f86c9) (As := [vL (-1000000), vL r44]) (st := []) (pc' := 219) dX5_join_216 rfl gJ9_max_f86c9 wm_793 wm_794 rfl (Nat.le_of_ble_eq_true rfl) (M0.mono h (fun v τ45 h => ?_))
        obtain ⟨r46, rfl, h⟩ := h
        show V0 E (d + 1) qX5_join 219 [some (vI a0), some (vL a1), none, some (vL a2), none, some (vL 1), none] [vL r46] τ45 Q
        obtain ⟨c47, h⟩ := h
        refine u_l2i (pc' := 220) dX5_join_219 rfl c47 ?_
        exact u_iret dX5_join_220 rfl h
    · have h := h.2.2.2.2.2.1 hc
      refine ⟨133, 134, by rw [hc]; rfl, by decide, ?_⟩
      refine u_lload_n (i := 1) (pc' := 135) dX5_join_134 rfl rfl rfl ?_
      refine u_lload_n (i := 3) (pc' := 136) dX5_join_135 rfl rfl rfl ?_
      refine u_invS (q' := qJ9_max_f86c9) (As := [vL a1, vL a2]) (st := []) (pc' := 139) dX5_join_136 rfl gJ9_max_f86c9 wm_793 wm_794 rfl (Nat.le_of_ble_eq_true rfl) (M0.mono h (fun v τ48 h => ?_))
      obtain ⟨r49, rfl, h⟩ := h
      show V0 E (d + 1) qX5_join 139 [some (vI a0), some (vL a1), none, some (vL a2), none, none, none] [vL r49] τ48 Q
      refine s_lstore (i := 5) (ls' := [some (vI a0), some (vL a1), none, some (vL a2), none, some (vL r49), none]) (pc' := 141) dX5_join_139 rfl (Nat.le_of_ble_eq_true rfl) rfl rfl ?_
      refine u_goto (tgt := 205) dX5_join_141 (by decide) ?_
      refine u_ldc2 (z := (-1000000)) (pc' := 208) dX5_join_205 rfl wm_796 (by decide) ?_
      refine u_ldc2 (z := 1000000) (pc' := 211) dX5_join_208 rfl wm_797 (by decide) ?_
      refine u_lload (i := 5) (pc' := 213) dX5_join_211 rfl rfl ?_
      refine u_invS (q' := qJ9_min_f86c9) (As := [vL 1000000, vL r49]) (st := [vL (-1000000)]) (pc' := 216) dX5_join_213 rfl gJ9_min_f86c9 wm_790 wm_791 rfl (Nat.le_of_ble_eq_true rfl) (M0.mono h (fun v τ50 h => ?_))
      obtain ⟨r51, rfl, h⟩ := h
      show V0 E (d + 1) qX5_join 216 [some (vI a0), some (vL a1), none, some (vL a2), none, some (vL r49), none] [vL r51, vL (-1000000)] τ50 Q
      refine u_invS (q' := qJ9_max_f86c9) (As := [vL (-1000000), vL r51]) (st := []) (pc' := 219) dX5_join_216 rfl gJ9_max_f86c9 wm_793 wm_794 rfl (Nat.le_of_ble_eq_true rfl) (M0.mono h (fun v τ52 h => ?_))
      obtain ⟨r53, rfl, h⟩ := h
      show V0 E (d + 1) qX5_join 219 [some (vI a0), some (vL a1), none, some (vL a2), none, some (vL r49), none] [vL r53] τ52 Q
      obtain ⟨c54, h⟩ := h
      refine u_l2i (pc' := 220) dX5_join_219 rfl c54 ?_
      exact u_iret dX5_join_220 rfl h
    · have h := h.2.2.2.2.2.2.1 hc
      refine ⟨123, 124, by rw [hc]; rfl, by decide, ?_⟩
      refine u_lload_n (i := 1) (pc' := 125) dX5_join_124 rfl rfl rfl ?_
      refine u_lload_n (i := 3) (pc' := 126) dX5_join_125 rfl rfl rfl ?_
      refine u_invS (q' := qJ9_min_f86c9) (As := [vL a1, vL a2]) (st := []) (pc' := 129) dX5_join_126 rfl gJ9_min_f86c9 wm_790 wm_791 rfl (Nat.le_of_ble_eq_true rfl) (M0.mono h (fun v τ55 h => ?_))
      obtain ⟨r56, rfl, h⟩ := h
      show V0 E (d + 1) qX5_join 129 [some (vI a0), some (vL a1), none, some (vL a2), none, none, none] [vL r56] τ55 Q
      refine s_lstore (i := 5) (ls' := [some (vI a0), some (vL a1), none, some (vL a2), none, some (vL r56), none]) (pc' := 131) dX5_join_129 rfl (Nat.le_of_ble_eq_true rfl) rfl rfl ?_
      refine u_goto (tgt := 205) dX5_join_131 (by decide) ?_
      refine u_ldc2 (z := (-1000000)) (pc' := 208) dX5_join_205 rfl wm_796 (by decide) ?_
      refine u_ldc2 (z := 1000000) (pc' := 211) dX5_join_208 rfl wm_797 (by decide) ?_
      refine u_lload (i := 5) (pc' := 213) dX5_join_211 rfl rfl ?_
      refine u_invS (q' := qJ9_min_f86c9) (As := [vL 1000000, vL r56]) (st := [vL (-1000000)]) (pc' := 216) dX5_join_213 rfl gJ9_min_f86c9 wm_790 wm_791 rfl (Nat.le_of_ble_eq_true rfl) (M0.mono h (fun v τ57 h => ?_))
      obtain ⟨r58, rfl, h⟩ := h
      show V0 E (d + 1) qX5_join 216 [some (vI a0), some (vL a1), none, some (vL a2), none, some (vL r56), none] [vL r58, vL (-1000000)] τ57 Q
      refine u_invS (q' := qJ9_max_f86c9) (As := [vL (-1000000), vL r58]) (st := []) (pc' := 219) dX5_join_216 rfl gJ9_max_f86c9 wm_793 wm_794 rfl (Nat.le_of_ble_eq_true rfl) (M0.mono h (fun v τ59 h => ?_))
      obtain ⟨r60, rfl, h⟩ := h
      show V0 E (d + 1) qX5_join 219 [some (vI a0), some (vL a1), none, some (vL a2), none, some (vL r56), none] [vL r60] τ59 Q
      obtain ⟨c61, h⟩ := h
      refine u_l2i (pc' := 220) dX5_join_219 rfl c61 ?_
      exact u_iret dX5_join_220 rfl h
    · have h := h.2.2.2.2.2.2.2.1 hc
      refine ⟨103, 104, by rw [hc]; rfl, by decide, ?_⟩
      refine u_lload_n (i := 3) (pc' := 105) dX5_join_104 rfl rfl rfl ?_
      refine u_lconst (z := 0) (pc' := 106) dX5_join_105 rfl (by decide) ?_
      obtain ⟨c62, h⟩ := h
      refine u_lcmp (pc' := 107) dX5_join_106 rfl c62 ⟨by decide, by decide⟩ ?_
      refine u_if_ne (tgt := 114) (pc' := 110) dX5_join_107 rfl (by decide) (mm_cmp_R _ _) (fun hb => ?_) (fun hb => ?_)
      · have h := h.1 (mm_cmp_ne.mp hb)
        refine u_lload_n (i := 1) (pc' := 115) dX5_join_114 rfl rfl rfl ?_
        refine u_lload_n (i := 3) (pc' := 116) dX5_join_115 rfl rfl rfl ?_
        refine u_invS (q' := qJ9_floorMod_f86c9) (As := [vL a1, vL a2]) (st := []) (pc' := 119) dX5_join_116 rfl gJ9_floorMod_f86c9 wm_787 wm_788 rfl (Nat.le_of_ble_eq_true rfl) (M0.mono h (fun v τ63 h => ?_))
        obtain ⟨r64, rfl, h⟩ := h
        show V0 E (d + 1) qX5_join 119 [some (vI a0), some (vL a1), none, some (vL a2), none, none, none] [vL r64] τ63 Q
        refine s_lstore (i := 5) (ls' := [some (vI a0), some (vL a1), none, some (vL a2), none, some (vL r64), none]) (pc' := 121) dX5_join_119 rfl (Nat.le_of_ble_eq_true rfl) rfl rfl ?_
        refine u_goto (tgt := 205) dX5_join_121 (by decide) ?_
        refine u_ldc2 (z := (-1000000)) (pc' := 208) dX5_join_205 rfl wm_796 (by decide) ?_
        refine u_ldc2 (z := 1000000) (pc' := 211) dX5_join_208 rfl wm_797 (by decide) ?_
        refine u_lload (i := 5) (pc' := 213) dX5_join_211 rfl rfl ?_
        refine u_invS (q' := qJ9_min_f86c9) (As := [vL 1000000, vL r64]) (st := [vL (-1000000)]) (pc' := 216) dX5_join_213 rfl gJ9_min_f86c9 wm_790 wm_791 rfl (Nat.le_of_ble_eq_true rfl) (M0.mono h (fun v τ65 h => ?_))
        obtain ⟨r66, rfl, h⟩ := h
        show V0 E (d + 1) qX5_join 216 [some (vI a0), some (vL a1), none, some (vL a2), none, some (vL r64), none] [vL r66, vL (-1000000)] τ65 Q
        refine u_invS (q' := qJ9_max_f86c9) (As := [vL (-1000000), vL r66]) (st := []) (pc' := 219) dX5_join_216 rfl gJ9_max_f86c9 wm_793 wm_794 rfl (Nat.le_of_ble_eq_true rfl) (M0.mono h (fun v τ67 h => ?_))
        obtain ⟨r68, rfl, h⟩ := h
        show V0 E (d + 1) qX5_join 219 [some (vI a0), some (vL a1), none, some (vL a2), none, some (vL r64), none] [vL r68] τ67 Q
        obtain ⟨c69, h⟩ := h
        refine u_l2i (pc' := 220) dX5_join_219 rfl c69 ?_
        exact u_iret dX5_join_220 rfl h
      · have h := h.2 (mm_cmp_0.mp hb)
        refine u_lconst (z := 0) (pc' := 111) dX5_join_110 rfl (by decide) ?_
        refine u_goto (tgt := 119) dX5_join_111 (by decide) ?_
        refine s_lstore (i := 5) (ls' := [some (vI a0), some (vL a1), none, some (vL a2), none, some (vL 0), none]) (pc' := 121) dX5_join_119 rfl (Nat.le_of_ble_eq_true rfl) rfl rfl ?_
        refine u_goto (tgt := 205) dX5_join_121 (by decide) ?_
        refine u_ldc2 (z := (-1000000)) (pc' := 208) dX5_join_205 rfl wm_796 (by decide) ?_
        refine u_ldc2 (z := 1000000) (pc' := 211) dX5_join_208 rfl wm_797 (by decide) ?_
        refine u_lload (i := 5) (pc' := 213) dX5_join_211 rfl rfl ?_
        refine u_invS (q' := qJ9_min_f86c9) (As := [vL 1000000, vL 0]) (st := [vL (-1000000)]) (pc' := 216) dX5_join_213 rfl gJ9_min_f86c9 wm_790 wm_791 rfl (Nat.le_of_ble_eq_true rfl) (M0.mono h (fun v τ70 h => ?_))
        obtain ⟨r71, rfl, h⟩ := h
        show V0 E (d + 1) qX5_join 216 [some (vI a0), some (vL a1), none, some (vL a2), none, some (vL 0), none] [vL r71, vL (-1000000)] τ70 Q
        refine u_invS (q' := qJ9_max_f86c9) (As := [vL (-1000000), vL r71]) (st := []) (pc' := 219) dX5_join_216 rfl gJ9_max_f86c9 wm_793 wm_794 rfl (Nat.le_of_ble_eq_true rfl) (M0.mono h (fun v τ72 h => ?_))
        obtain ⟨r73, rfl, h⟩ := h
        show V0 E (d + 1) qX5_join 219 [some (vI a0), some (vL a1), none, some (vL a2), none, some (vL 0), none] [vL r73] τ72 Q
        obtain ⟨c74, h⟩ := h
        refine u_l2i (pc' := 220) dX5_join_219 rfl c74 ?_
        exact u_iret dX5_join_220 rfl h
    · have h := h.2.2.2.2.2.2.2.2.1 hc
      refine ⟨83, 84, by rw [hc]; rfl, by decide, ?_⟩
      refine u_lload_n (i := 3) (pc' := 85) dX5_join_84 rfl rfl rfl ?_
      refine u_lconst (z := 0) (pc' := 86) dX5_join_85 rfl (by decide) ?_
      obtain ⟨c75, h⟩ := h
      refine u_lcmp (pc' := 87) dX5_join_86 rfl c75 ⟨by decide, by decide⟩ ?_
      refine u_if_ne (tgt := 94) (pc' := 90) dX5_join_87 rfl (by decide) (mm_cmp_R _ _) (fun hb => ?_) (fun hb => ?_)
      · have h := h.1 (mm_cmp_ne.mp hb)
        refine u_lload_n (i := 1) (pc' := 95) dX5_join_94 rfl rfl rfl ?_
        refine u_lload_n (i := 3) (pc' := 96) dX5_join_95 rfl rfl rfl ?_
        refine u_invS (q' := qJ9_floorDiv_f86c9) (As := [vL a1, vL a2]) (st := []) (pc' := 99) dX5_join_96 rfl gJ9_floorDiv_f86c9 wm_784 wm_785 rfl (Nat.le_of_ble_eq_true rfl) (M0.mono h (fun v τ76 h => ?_))
        obtain ⟨r77, rfl, h⟩ := h
        show V0 E (d + 1) qX5_join 99 [some (vI a0), some (vL a1), none, some (vL a2), none, none, none] [vL r77] τ76 Q
        refine s_lstore (i := 5) (ls' := [some (vI a0), some (vL a1), none, some (vL a2), none, some (vL r77), none]) (pc' := 101) dX5_join_99 rfl (Nat.le_of_ble_eq_true rfl) rfl rfl ?_
        refine u_goto (tgt := 205) dX5_join_101 (by decide) ?_
        refine u_ldc2 (z := (-1000000)) (pc' := 208) dX5_join_205 rfl wm_796 (by decide) ?_
        refine u_ldc2 (z := 1000000) (pc' := 211) dX5_join_208 rfl wm_797 (by decide) ?_
        refine u_lload (i := 5) (pc' := 213) dX5_join_211 rfl rfl ?_
        refine u_invS (q' := qJ9_min_f86c9) (As := [vL 1000000, vL r77]) (st := [vL (-1000000)]) (pc' := 216) dX5_join_213 rfl gJ9_min_f86c9 wm_790 wm_791 rfl (Nat.le_of_ble_eq_true rfl) (M0.mono h (fun v τ78 h => ?_))
        obtain ⟨r79, rfl, h⟩ := h
        show V0 E (d + 1) qX5_join 216 [some (vI a0), some (vL a1), none, some (vL a2), none, some (vL r77), none] [vL r79, vL (-1000000)] τ78 Q
        refine u_invS (q' := qJ9_max_f86c9) (As := [vL (-1000000), vL r79]) (st := []) (pc' := 219) dX5_join_216 rfl gJ9_max_f86c9 wm_793 wm_794 rfl (Nat.le_of_ble_eq_true rfl) (M0.mono h (fun v τ80 h => ?_))
        obtain ⟨r81, rfl, h⟩ := h
        show V0 E (d + 1) qX5_join 219 [some (vI a0), some (vL a1), none, some (vL a2), none, some (vL r77), none] [vL r81] τ80 Q
        obtain ⟨c82, h⟩ := h
        refine u_l2i (pc' := 220) dX5_join_219 rfl c82 ?_
        exact u_iret dX5_join_220 rfl h
      · have h := h.2 (mm_cmp_0.mp hb)
        refine u_lconst (z := 0) (pc' := 91) dX5_join_90 rfl (by decide) ?_
        refine u_goto (tgt := 99) dX5_join_91 (by decide) ?_
        refine s_lstore (i := 5) (ls' := [some (vI a0), some (vL a1), none, some (vL a2), none, some (vL 0), none]) (pc' := 101) dX5_join_99 rfl (Nat.le_of_ble_eq_true rfl) rfl rfl ?_
        refine u_goto (tgt := 205) dX5_join_101 (by decide) ?_
        refine u_ldc2 (z := (-1000000)) (pc' := 208) dX5_join_205 rfl wm_796 (by decide) ?_
        refine u_ldc2 (z := 1000000) (pc' := 211) dX5_join_208 rfl wm_797 (by decide) ?_
        refine u_lload (i := 5) (pc' := 213) dX5_join_211 rfl rfl ?_
        refine u_invS (q' := qJ9_min_f86c9) (As := [vL 1000000, vL 0]) (st := [vL (-1000000)]) (pc' := 216) dX5_join_213 rfl gJ9_min_f86c9 wm_790 wm_791 rfl (Nat.le_of_ble_eq_true rfl) (M0.mono h (fun v τ83 h => ?_))
        obtain ⟨r84, rfl, h⟩ := h
        show V0 E (d + 1) qX5_join 216 [some (vI a0), some (vL a1), none, some (vL a2), none, some (vL 0), none] [vL r84, vL (-1000000)] τ83 Q
        refine u_invS (q' := qJ9_max_f86c9) (As := [vL (-1000000), vL r84]) (st := []) (pc' := 219) dX5_join_216 rfl gJ9_max_f86c9 wm_793 wm_794 rfl (Nat.le_of_ble_eq_true rfl) (M0.mono h (fun v τ85 h => ?_))
        obtain ⟨r86, rfl, h⟩ := h
        show V0 E (d + 1) qX5_join 219 [some (vI a0), some (vL a1), none, some (vL a2), none, some (vL 0), none] [vL r86] τ85 Q
        obtain ⟨c87, h⟩ := h
        refine u_l2i (pc' := 220) dX5_join_219 rfl c87 ?_
        exact u_iret dX5_join_220 rfl h
    · have h := h.2.2.2.2.2.2.2.2.2.1 hc
      refine ⟨75, 76, by rw [hc]; rfl, by decide, ?_⟩
      refine u_lload_n (i := 1) (pc' := 77) dX5_join_76 rfl rfl rfl ?_
      refine u_lload_n (i := 3) (pc' := 78) dX5_join_77 rfl rfl rfl ?_
      refine u_lmul (pc' := 79) dX5_join_78 rfl ?_
      refine s_lstore (i := 5) (ls' := [some (vI a0), some (vL a1), none, some (vL a2), none, some (vL (a1 * a2)), none]) (pc' := 81) dX5_join_79 rfl (Nat.le_of_ble_eq_true rfl) rfl rfl ?_
      refine u_goto (tgt := 205) dX5_join_81 (by decide) ?_
      refine u_ldc2 (z := (-1000000)) (pc' := 208) dX5_join_205 rfl wm_796 (by decide) ?_
      refine u_ldc2 (z := 1000000) (pc' := 211) dX5_join_208 rfl wm_797 (by decide) ?_
      refine u_lload (i := 5) (pc' := 213) dX5_join_211 rfl rfl ?_
      refine u_invS (q' := qJ9_min_f86c9) (As := [vL 1000000, vL (a1 * a2)]) (st := [vL (-1000000)]) (pc' := 216) dX5_join_213 rfl gJ9_min_f86c9 wm_790 wm_791 rfl (Nat.le_of_ble_eq_true rfl) (M0.mono h (fun v τ88 h => ?_))
      obtain ⟨r89, rfl, h⟩ := h
      show V0 E (d + 1) qX5_join 216 [some (vI a0), some (vL a1), none, some (vL a2), none, some (vL (a1 * a2)), none] [vL r89, vL (-1000000)] τ88 Q
      refine u_invS (q' := qJ9_max_f86c9) (As := [vL (-1000000), vL r89]) (st := []) (pc' := 219) dX5_join_216 rfl gJ9_max_f86c9 wm_793 wm_794 rfl (Nat.le_of_ble_eq_true rfl) (M0.mono h (fun v τ90 h => ?_))
      obtain ⟨r91, rfl, h⟩ := h
      show V0 E (d + 1) qX5_join 219 [some (vI a0), some (vL a1), none, some (vL a2), none, some (vL (a1 * a2)), none] [vL r91] τ90 Q
      obtain ⟨c92, h⟩ := h
      refine u_l2i (pc' := 220) dX5_join_219 rfl c92 ?_
      exact u_iret dX5_join_220 rfl h
    · have h := h.2.2.2.2.2.2.2.2.2.2.1 hc
      refine ⟨67, 68, by rw [hc]; rfl, by decide, ?_⟩
      refine u_lload_n (i := 1) (pc' := 69) dX5_join_68 rfl rfl rfl ?_
      refine u_lload_n (i := 3) (pc' := 70) dX5_join_69 rfl rfl rfl ?_
      refine u_lsub (pc' := 71) dX5_join_70 rfl ?_
      refine s_lstore (i := 5) (ls' := [some (vI a0), some (vL a1), none, some (vL a2), none, some (vL (a1 - a2)), none]) (pc' := 73) dX5_join_71 rfl (Nat.le_of_ble_eq_true rfl) rfl rfl ?_
      refine u_goto (tgt := 205) dX5_join_73 (by decide) ?_
      refine u_ldc2 (z := (-1000000)) (pc' := 208) dX5_join_205 rfl wm_796 (by decide) ?_
      refine u_ldc2 (z := 1000000) (pc' := 211) dX5_join_208 rfl wm_797 (by decide) ?_
      refine u_lload (i := 5) (pc' := 213) dX5_join_211 rfl rfl ?_
      refine u_invS (q' := qJ9_min_f86c9) (As := [vL 1000000, vL (a1 - a2)]) (st := [vL (-1000000)]) (pc' := 216) dX5_join_213 rfl gJ9_min_f86c9 wm_790 wm_791 rfl (Nat.le_of_ble_eq_true rfl) (M0.mono h (fun v τ93 h => ?_))
      obtain ⟨r94, rfl, h⟩ := h
      show V0 E (d + 1) qX5_join 216 [some (vI a0), some (vL a1), none, some (vL a2), none, some (vL (a1 - a2)), none] [vL r94, vL (-1000000)] τ93 Q
      refine u_invS (q' := qJ9_max_f86c9) (As := [vL (-1000000), vL r94]) (st := []) (pc' := 219) dX5_join_216 rfl gJ9_max_f86c9 wm_793 wm_794 rfl (Nat.le_of_ble_eq_true rfl) (M0.mono h (fun v τ95 h => ?_))
      obtain ⟨r96, rfl, h⟩ := h
      show V0 E (d + 1) qX5_join 219 [some (vI a0), some (vL a1), none, some (vL a2), none, some (vL (a1 - a2)), none] [vL r96] τ95 Q
      obtain ⟨c97, h⟩ := h
      refine u_l2i (pc' := 220) dX5_join_219 rfl c97 ?_
      exact u_iret dX5_join_220 rfl h
    · have h := h.2.2.2.2.2.2.2.2.2.2.2 hc
      refine ⟨59, 60, by rw [hc]; rfl, by decide, ?_⟩
      refine u_lload_n (i := 1) (pc' := 61) dX5_join_60 rfl rfl rfl ?_
      refine u_lload_n (i := 3) (pc' := 62) dX5_join_61 rfl rfl rfl ?_
      refine u_ladd (pc' := 63) dX5_join_62 rfl ?_
      refine s_lstore (i := 5) (ls' := [some (vI a0), some (vL a1), none, some (vL a2), none, some (vL (a1 + a2)), none]) (pc' := 65) dX5_join_63 rfl (Nat.le_of_ble_eq_true rfl) rfl rfl ?_
      refine u_goto (tgt := 205) dX5_join_65 (by decide) ?_
      refine u_ldc2 (z := (-1000000)) (pc' := 208) dX5_join_205 rfl wm_796 (by decide) ?_
      refine u_ldc2 (z := 1000000) (pc' := 211) dX5_join_208 rfl wm_797 (by decide) ?_
      refine u_lload (i := 5) (pc' := 213) dX5_join_211 rfl rfl ?_
      refine u_invS (q' := qJ9_min_f86c9) (As := [vL 1000000, vL (a1 + a2)]) (st := [vL (-1000000)]) (pc' := 216) dX5_join_213 rfl gJ9_min_f86c9 wm_790 wm_791 rfl (Nat.le_of_ble_eq_true rfl) (M0.mono h (fun v τ98 h => ?_))
      obtain ⟨r99, rfl, h⟩ := h
      show V0 E (d + 1) qX5_join 216 [some (vI a0), some (vL a1), none, some (vL a2), none, some (vL (a1 + a2)), none] [vL r99, vL (-1000000)] τ98 Q
      refine u_invS (q' := qJ9_max_f86c9) (As := [vL (-1000000), vL r99]) (st := []) (pc' := 219) dX5_join_216 rfl gJ9_max_f86c9 wm_793 wm_794 rfl (Nat.le_of_ble_eq_true rfl) (M0.mono h (fun v τ100 h => ?_))
      obtain ⟨r101, rfl, h⟩ := h
      show V0 E (d + 1) qX5_join 219 [some (vI a0), some (vL a1), none, some (vL a2), none, some (vL (a1 + a2)), none] [vL r101] τ100 Q
      obtain ⟨c102, h⟩ := h
      refine u_l2i (pc' := 220) dX5_join_219 rfl c102 ?_
      exact u_iret dX5_join_220 rfl h
theorem mX5_join {E : mm_Env} {d : Nat} {τ : mm_Mem} {Q : mm_Q0} {a0 : Int} {a1 : Int} {a2 : Int} (h : inR a0 ∧ ((a0 < (-18) ∨ (-8) < a0 → M0 E d qJ9_min_f86c9 [vL 1000000, vL (mm_lor a1 a2)] τ (fun v τ2 => ∃ r3 : Int, v = some (vL r3) ∧ M0 E d qJ9_max_f86c9 [vL (-1000000), vL r3] τ2 (fun v τ4 => ∃ r5 : Int, v = some (vL r5) ∧ inL r5 ∧ Q (some (vI r5)) τ4))) ∧ (a0 = (-18) → M0 E d qJ9_min_f86c9 [vL 1000000, vL (mm_land a1 a2)] τ (fun v τ7 => ∃ r8 : Int, v = some (vL r8) ∧ M0 E d qJ9_max_f86c9 [vL (-1000000), vL r8] τ7 (fun v τ9 => ∃ r10 : Int, v = some (vL r10) ∧ inL r10 ∧ Q (some (vI r10)) τ9))) ∧ (a0 = (-17) → inL a1 ∧ inL a2 ∧ ((a1 ≠ a2 → M0 E d qJ9_min_f86c9 [vL 1000000, vL 0] τ (fun v τ14 => ∃ r15 : Int, v = some (vL r15) ∧ M0 E d qJ9_max_f86c9 [vL (-1000000), vL r15] τ14 (fun v τ16 => ∃ r17 : Int, v = some (vL r17) ∧ inL r17 ∧ Q (some (vI r17)) τ16))) ∧ (a1 = a2 → M0 E d qJ9_min_f86c9 [vL 1000000, vL 1] τ (fun v τ19 => ∃ r20 : Int, v = some (vL r20) ∧ M0 E d qJ9_max_f86c9 [vL (-1000000), vL r20] τ19 (fun v τ21 => ∃ r22 : Int, v = some (vL r22) ∧ inL r22 ∧ Q (some (vI r22)) τ21))))) ∧ (a0 = (-16) → inL a1 ∧ inL a2 ∧ ((a1 ≤ a2 → M0 E d qJ9_min_f86c9 [vL 1000000, vL 0] τ (fun v τ26 => ∃ r27 : Int, v = some (vL r27) ∧ M0 E d qJ9_max_f86c9 [vL (-1000000), vL r27] τ26 (fun v τ28 => ∃ r29 : Int, v = some (vL r29) ∧ inL r29 ∧ Q (some (vI r29)) τ28))) ∧ (¬ a1 ≤ a2 → M0 E d qJ9_min_f86c9 [vL 1000000, vL 1] τ (fun v τ31 => ∃ r32 : Int, v = some (vL r32) ∧ M0 E d qJ9_max_f86c9 [vL (-1000000), vL r32] τ31 (fun v τ33 => ∃ r34 : Int, v = some (vL r34) ∧ inL r34 ∧ Q (some (vI r34)) τ33))))) ∧ (a0 = (-15) → inL a1 ∧ inL a2 ∧ ((a2 ≤ a1 → M0 E d qJ9_min_f86c9 [vL 1000000, vL 0] τ (fun v τ38 => ∃ r39 : Int, v = some (vL r39) ∧ M0 E d qJ9_max_f86c9 [vL (-1000000), vL r39] τ38 (fun v τ40 => ∃ r41 : Int, v = some (vL r41) ∧ inL r41 ∧ Q (some (vI r41)) τ40))) ∧ (¬ a2 ≤ a1 → M0 E d qJ9_min_f86c9 [vL 1000000, vL 1] τ (fun v τ43 => ∃ r44 : Int, v = some (vL r44) ∧ M0 E d qJ9_max_f86c9 [vL (-1000000), vL r44] τ43 (fun v τ45 => ∃ r46 : Int, v = some (vL r46) ∧ inL r46 ∧ Q (some (vI r46)) τ45))))) ∧ (a0 = (-14) → M0 E d qJ9_max_f86c9 [vL a1, vL a2] τ (fun v τ48 => ∃ r49 : Int, v = some (vL r49) ∧ M0 E d qJ9_min_f86c9 [vL 1000000, vL r49] τ48 (fun v τ50 => ∃ r51 : Int, v = some (vL r51) ∧ M0 E d qJ9_max_f86c9 [vL (-1000000), vL r51] τ50 (fun v τ52 => ∃ r53 : Int, v = some (vL r53) ∧ inL r53 ∧ Q (some (vI r53)) τ52)))) ∧ (a0 = (-13) → M0 E d qJ9_min_f86c9 [vL a1, vL a2] τ (fun v τ55 => ∃ r56 : Int, v = some (vL r56) ∧ M0 E d qJ9_min_f86c9 [vL 1000000, vL r56] τ55 (fun v τ57 => ∃ r58 : Int, v = some (vL r58) ∧ M0 E d qJ9_max_f86c9 [vL (-1000000), vL r58] τ57 (fun v τ59 => ∃ r60 : Int, v = some (vL r60) ∧ inL r60 ∧ Q (some (vI r60)) τ59)))) ∧ (a0 = (-12) → inL a2 ∧ ((a2 ≠ 0 → M0 E d qJ9_floorMod_f86c9 [vL a1, vL a2] τ (fun v τ63 => ∃ r64 : Int, v = some (vL r64) ∧ M0 E d qJ9_min_f86c9 [vL 1000000, vL r64] τ63 (fun v τ65 => ∃ r66 : Int, v = some (vL r66) ∧ M0 E d qJ9_max_f86c9 [vL (-1000000), vL r66] τ65 (fun v τ67 => ∃ r68 : Int, v = some (vL r68) ∧ inL r68 ∧ Q (some (vI r68)) τ67)))) ∧ (a2 = 0 → M0 E d qJ9_min_f86c9 [vL 1000000, vL 0] τ (fun v τ70 => ∃ r71 : Int, v = some (vL r71) ∧ M0 E d qJ9_max_f86c9 [vL (-1000000), vL r71] τ70 (fun v τ72 => ∃ r73 : Int, v = some (vL r73) ∧ inL r73 ∧ Q (some (vI r73)) τ72))))) ∧ (a0 = (-11) → inL a2 ∧ ((a2 ≠ 0 → M0 E d qJ9_floorDiv_f86c9 [vL a1, vL a2] τ (fun v τ76 => ∃ r77 : Int, v = some (vL r77) ∧ M0 E d qJ9_min_f86c9 [vL 1000000, vL r77] τ76 (fun v τ78 => ∃ r79 : Int, v = some (vL r79) ∧ M0 E d qJ9_max_f86c9 [vL (-1000000), vL r79] τ78 (fun v τ80 => ∃ r81 : Int, v = some (vL r81) ∧ inL r81 ∧ Q (some (vI r81)) τ80)))) ∧ (a2 = 0 → M0 E d qJ9_min_f86c9 [vL 1000000, vL 0] τ (fun v τ83 => ∃ r84 : Int, v = some (vL r84) ∧ M0 E d qJ9_max_f86c9 [vL (-1000000), vL r84] τ83 (fun v τ85 => ∃ r86 : Int, v = some (vL r86) ∧ inL r86 ∧ Q (some (vI r86)) τ85))))) ∧ (a0 = (-10) → M0 E d qJ9_min_f86c9 [vL 1000000, vL (a1 * a2)] τ (fun v τ88 => ∃ r89 : Int, v = some (vL r89) ∧ M0 E d qJ9_max_f86c9 [vL (-1000000), vL r89] τ88 (fun v τ90 => ∃ r91 : Int, v = some (vL r91) ∧ inL r91 ∧ Q (some (vI r91)) τ90))) ∧ (a0 = (-9) → M0 E d qJ9_min_f86c9 [vL 1000000, vL (a1 - a2)] τ (fun v τ93 => ∃ r94 : Int, v = some (vL r94) ∧ M0 E d qJ9_max_f86c9 [vL (-1000000), vL r94] τ93 (fun v τ95 => ∃ r96 : Int, v = some (vL r96) ∧ inL r96 ∧ Q (some (vI r96)) τ95))) ∧ (a0 = (-8) → M0 E d qJ9_min_f86c9 [vL 1000000, vL (a1 + a2)] τ (fun v τ98 => ∃ r99 : Int, v = some (vL r99) ∧ M0 E d qJ9_max_f86c9 [vL (-1000000), vL r99] τ98 (fun v τ100 => ∃ r101 : Int, v = some (vL r101) ∧ inL r101 ∧ Q (some (vI r101)) τ100))))) : M0 E (d + 1) qX5_join [vI a0, vL a1, vL a2] τ Q := M0_of rfl (Nat.le_of_ble_eq_true rfl) [some (vI a0), some (vL a1), none, some (vL a2), none, none, none] rfl (bX5_join_0  h)
