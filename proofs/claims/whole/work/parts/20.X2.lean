set_option maxRecDepth 20000 in
theorem bX2_clear_0 {E : mm_Env} {d : Nat} {τ : mm_Mem} {Q : mm_Q0} {ths : Nat} (k_ths : KD ths = some (.inr 2)) (h : M0 E d qX5_clear [vR (ths + 6)] (wr (wr (wr (wr (wr (wr (wr τ ths 0 0) ths 1 0) ths 2 0) ths 3 0) ths 4 0) ths 5 1) ths 6 1) (fun v τ1 => v = none ∧ Q none τ1)) : V0 E (d + 1) qX2_clear 0 [some (vR ths)] [] τ Q := by
  refine u_aload_n (i := 0) (pc' := 1) dX2_clear_0 rfl rfl rfl ?_
  refine u_iconst (pc' := 2) dX2_clear_1 rfl ?_
  refine u_putI (pc' := 5) dX2_clear_2 rfl fl_TuneDoor_House_49 rfl rfl (by decide) (kHouse k_ths).1 k_ths ⟨by decide, by decide⟩ ?_
  refine u_aload_n (i := 0) (pc' := 6) dX2_clear_5 rfl rfl rfl ?_
  refine u_iconst (pc' := 7) dX2_clear_6 rfl ?_
  refine u_putI (pc' := 10) dX2_clear_7 rfl fl_TuneDoor_House_52 rfl rfl (by decide) (kHouse k_ths).1 k_ths ⟨by decide, by decide⟩ ?_
  refine u_aload_n (i := 0) (pc' := 11) dX2_clear_10 rfl rfl rfl ?_
  refine u_iconst (pc' := 12) dX2_clear_11 rfl ?_
  refine u_putI (pc' := 15) dX2_clear_12 rfl fl_TuneDoor_House_55 rfl rfl (by decide) (kHouse k_ths).1 k_ths ⟨by decide, by decide⟩ ?_
  refine u_aload_n (i := 0) (pc' := 16) dX2_clear_15 rfl rfl rfl ?_
  refine u_iconst (pc' := 17) dX2_clear_16 rfl ?_
  refine u_putI (pc' := 20) dX2_clear_17 rfl fl_TuneDoor_House_58 rfl rfl (by decide) (kHouse k_ths).1 k_ths ⟨by decide, by decide⟩ ?_
  refine u_aload_n (i := 0) (pc' := 21) dX2_clear_20 rfl rfl rfl ?_
  refine u_iconst (pc' := 22) dX2_clear_21 rfl ?_
  refine u_putI (pc' := 25) dX2_clear_22 rfl fl_TuneDoor_House_61 rfl rfl (by decide) (kHouse k_ths).1 k_ths ⟨by decide, by decide⟩ ?_
  refine u_aload_n (i := 0) (pc' := 26) dX2_clear_25 rfl rfl rfl ?_
  refine u_iconst (pc' := 27) dX2_clear_26 rfl ?_
  refine u_putI (pc' := 30) dX2_clear_27 rfl fl_TuneDoor_House_9 rfl rfl (by decide) (kHouse k_ths).1 k_ths ⟨by decide, by decide⟩ ?_
  refine u_aload_n (i := 0) (pc' := 31) dX2_clear_30 rfl rfl rfl ?_
  refine u_iconst (pc' := 32) dX2_clear_31 rfl ?_
  refine u_putI (pc' := 35) dX2_clear_32 rfl fl_TuneDoor_House_15 rfl rfl (by decide) (kHouse k_ths).1 k_ths ⟨by decide, by decide⟩ ?_
  refine u_aload_n (i := 0) (pc' := 36) dX2_clear_35 rfl rfl rfl ?_
  refine u_getR (a := (ths + 6)) (pc' := 39) dX2_clear_36 rfl fl_TuneDoor_House_43 rfl (kHouse k_ths).1 k_ths (kHouse k_ths).2.2.2.2.2.2.1 ?_
  refine u_invV (q' := qX5_clear) (As := []) (st := []) (pc' := 42) dX2_clear_39 rfl gX5_clear wm_562 rfl rfl (Nat.le_trans (kHouse k_ths).1 (Nat.le_add_right _ _)) (kHouse k_ths).2.2.2.2.2.2.2.2.2.2.2.2.1 wm_563 wm_564 rfl (Nat.le_of_ble_eq_true rfl) (M0.mono h (fun v τ1 h => ?_))
  obtain ⟨rfl, h⟩ := h
  show V0 E (d + 1) qX2_clear 42 [some (vR ths)] [] τ1 Q
  exact u_ret dX2_clear_42 rfl h
theorem mX2_clear {E : mm_Env} {d : Nat} {τ : mm_Mem} {Q : mm_Q0} {ths : Nat} (k_ths : KD ths = some (.inr 2)) (h : M0 E d qX5_clear [vR (ths + 6)] (wr (wr (wr (wr (wr (wr (wr τ ths 0 0) ths 1 0) ths 2 0) ths 3 0) ths 4 0) ths 5 1) ths 6 1) (fun v τ1 => v = none ∧ Q none τ1)) : M0 E (d + 1) qX2_clear [vR ths] τ Q := M0_of rfl (Nat.le_of_ble_eq_true rfl) [some (vR ths)] rfl (bX2_clear_0 k_ths h)
set_option maxRecDepth 20000 in
theorem bX2_isTaken_0 {E : mm_Env} {d : Nat} {τ : mm_Mem} {Q : mm_Q0} {ths : Nat} {a0 : Int} (k_ths : KD ths = some (.inr 2)) (h : M0 E d qX2_tuneNamed [vR ths, vI a0] τ (fun v τ1 => ∃ r2 : Int, v = some (vI r2) ∧ inR r2 ∧ ((r2 ≠ (-1) → Q (some (vB true)) τ1) ∧ (r2 = (-1) → M0 E d qX2_doorNamed [vR ths, vI a0] τ1 (fun v τ4 => ∃ r5 : Int, v = some (vI r5) ∧ inR r5 ∧ ((r5 ≠ (-1) → Q (some (vB true)) τ4) ∧ (r5 = (-1) → M0 E d qX2_personNamed [vR ths, vI a0] τ4 (fun v τ7 => ∃ r8 : Int, v = some (vI r8) ∧ inR r8 ∧ ((r8 = (-1) → Q (some (vB false)) τ7) ∧ (¬ r8 = (-1) → Q (some (vB true)) τ7)))))))))) : V0 E (d + 1) qX2_isTaken 0 [some (vR ths), some (vI a0)] [] τ Q := by
  refine u_aload_n (i := 0) (pc' := 1) dX2_isTaken_0 rfl rfl rfl ?_
  refine u_iload_n (i := 1) (pc' := 2) dX2_isTaken_1 rfl rfl rfl ?_
  refine u_invV (q' := qX2_tuneNamed) (As := [vI a0]) (st := []) (pc' := 5) dX2_isTaken_2 rfl gX2_tuneNamed wm_617 rfl rfl (kHouse k_ths).1 k_ths wm_618 wm_619 rfl (Nat.le_of_ble_eq_true rfl) (M0.mono h (fun v τ1 h => ?_))
  obtain ⟨r2, rfl, h⟩ := h
  show V0 E (d + 1) qX2_isTaken 5 [some (vR ths), some (vI a0)] [vI r2] τ1 Q
  refine u_iconst (pc' := 6) dX2_isTaken_5 rfl ?_
  obtain ⟨c3, h⟩ := h
  refine u_icmp_ne (tgt := 27) (pc' := 9) dX2_isTaken_6 rfl (by decide) c3 ⟨by decide, by decide⟩ (fun hb => ?_) (fun hb => ?_)
  · have h := h.1 hb
    refine u_iconst (pc' := 28) dX2_isTaken_27 rfl ?_
    refine u_goto (tgt := 32) dX2_isTaken_28 (by decide) ?_
    exact u_zret (b := true) dX2_isTaken_32 rfl rfl h
  · have h := h.2 hb
    refine u_aload_n (i := 0) (pc' := 10) dX2_isTaken_9 rfl rfl rfl ?_
    refine u_iload_n (i := 1) (pc' := 11) dX2_isTaken_10 rfl rfl rfl ?_
    refine u_invV (q' := qX2_doorNamed) (As := [vI a0]) (st := []) (pc' := 14) dX2_isTaken_11 rfl gX2_doorNamed wm_621 rfl rfl (kHouse k_ths).1 k_ths wm_622 wm_623 rfl (Nat.le_of_ble_eq_true rfl) (M0.mono h (fun v τ4 h => ?_))
    obtain ⟨r5, rfl, h⟩ := h
    show V0 E (d + 1) qX2_isTaken 14 [some (vR ths), some (vI a0)] [vI r5] τ4 Q
    refine u_iconst (pc' := 15) dX2_isTaken_14 rfl ?_
    obtain ⟨c6, h⟩ := h
    refine u_icmp_ne (tgt := 27) (pc' := 18) dX2_isTaken_15 rfl (by decide) c6 ⟨by decide, by decide⟩ (fun hb => ?_) (fun hb => ?_)
    · have h := h.1 hb
      refine u_iconst (pc' := 28) dX2_isTaken_27 rfl ?_
      refine u_goto (tgt := 32) dX2_isTaken_28 (by decide) ?_
      exact u_zret (b := true) dX2_isTaken_32 rfl rfl h
    · have h := h.2 hb
      refine u_aload_n (i := 0) (pc' := 19) dX2_isTaken_18 rfl rfl rfl ?_
      refine u_iload_n (i := 1) (pc' := 20) dX2_isTaken_19 rfl rfl rfl ?_
      refine u_invV (q' := qX2_personNamed) (As := [vI a0]) (st := []) (pc' := 23) dX2_isTaken_20 rfl gX2_personNamed wm_625 rfl rfl (kHouse k_ths).1 k_ths wm_626 wm_627 rfl (Nat.le_of_ble_eq_true rfl) (M0.mono h (fun v τ7 h => ?_))
      obtain ⟨r8, rfl, h⟩ := h
      show V0 E (d + 1) qX2_isTaken 23 [some (vR ths), some (vI a0)] [vI r8] τ7 Q
      refine u_iconst (pc' := 24) dX2_isTaken_23 rfl ?_
      obtain ⟨c9, h⟩ := h
      refine u_icmp_eq (tgt := 31) (pc' := 27) dX2_isTaken_24 rfl (by decide) c9 ⟨by decide, by decide⟩ (fun hb => ?_) (fun hb => ?_)
      · have h := h.1 hb
        refine u_iconst (pc' := 32) dX2_isTaken_31 rfl ?_
        exact u_zret (b := false) dX2_isTaken_32 rfl rfl h
      · have h := h.2 hb
        refine u_iconst (pc' := 28) dX2_isTaken_27 rfl ?_
        refine u_goto (tgt := 32) dX2_isTaken_28 (by decide) ?_
        exact u_zret (b := true) dX2_isTaken_32 rfl rfl h
theorem mX2_isTaken {E : mm_Env} {d : Nat} {τ : mm_Mem} {Q : mm_Q0} {ths : Nat} {a0 : Int} (k_ths : KD ths = some (.inr 2)) (h : M0 E d qX2_tuneNamed [vR ths, vI a0] τ (fun v τ1 => ∃ r2 : Int, v = some (vI r2) ∧ inR r2 ∧ ((r2 ≠ (-1) → Q (some (vB true)) τ1) ∧ (r2 = (-1) → M0 E d qX2_doorNamed [vR ths, vI a0] τ1 (fun v τ4 => ∃ r5 : Int, v = some (vI r5) ∧ inR r5 ∧ ((r5 ≠ (-1) → Q (some (vB true)) τ4) ∧ (r5 = (-1) → M0 E d qX2_personNamed [vR ths, vI a0] τ4 (fun v τ7 => ∃ r8 : Int, v = some (vI r8) ∧ inR r8 ∧ ((r8 = (-1) → Q (some (vB false)) τ7) ∧ (¬ r8 = (-1) → Q (some (vB true)) τ7)))))))))) : M0 E (d + 1) qX2_isTaken [vR ths, vI a0] τ Q := M0_of rfl (Nat.le_of_ble_eq_true rfl) [some (vR ths), some (vI a0)] rfl (bX2_isTaken_0 k_ths h)
set_option maxRecDepth 20000 in
theorem bX2_tuneNamed_0 {E : mm_Env} {d : Nat} {τ : mm_Mem} {Q : mm_Q0} {ths : Nat} {a0 : Int} (k_ths : KD ths = some (.inr 2)) (h : V0 E d qX2_tuneNamed 2 [some (vR ths), some (vI a0), some (vI 0)] [] τ Q) : V0 E d qX2_tuneNamed 0 [some (vR ths), some (vI a0), none] [] τ Q := by
  refine u_iconst (pc' := 1) dX2_tuneNamed_0 rfl ?_
  refine s_istore_n (i := 2) (ls' := [some (vR ths), some (vI a0), some (vI 0)]) (pc' := 2) dX2_tuneNamed_1 rfl rfl (Nat.le_of_ble_eq_true rfl) rfl rfl ?_
  exact u_less (ls' := [some (vR ths), some (vI a0), some (vI 0)]) ⟨rfl, ⟨rfl, ⟨rfl, trivial⟩⟩⟩ h
theorem mX2_tuneNamed {E : mm_Env} {d : Nat} {τ : mm_Mem} {Q : mm_Q0} {ths : Nat} {a0 : Int} (k_ths : KD ths = some (.inr 2)) (h : V0 E d qX2_tuneNamed 2 [some (vR ths), some (vI a0), some (vI 0)] [] τ Q) : M0 E d qX2_tuneNamed [vR ths, vI a0] τ Q := M0_of rfl (Nat.le_of_ble_eq_true rfl) [some (vR ths), some (vI a0), none] rfl (bX2_tuneNamed_0 k_ths h)
set_option maxRecDepth 20000 in
theorem bX2_tuneNamed_2 {E : mm_Env} {d : Nat} {τ : mm_Mem} {Q : mm_Q0} {x0 : Nat} {x1 : Int} {x2 : Int} (k_x0 : KD x0 = some (.inr 2)) (h : inR x2 ∧ (((τ x0 2) ≤ x2 → Q (some (vI (-1))) τ) ∧ (¬ (τ x0 2) ≤ x2 → ((3 ≤ x2 → Q (some (vI (-1))) τ) ∧ (¬ 3 ≤ x2 → 0 ≤ x2 ∧ x2 < 3 ∧ inR x1 ∧ (((τ (x0 + 1) x2.toNat) ≠ x1 → V0 E d qX2_tuneNamed 2 [some (vR x0), some (vI x1), some (vI (x2 + 1))] [] τ Q) ∧ ((τ (x0 + 1) x2.toNat) = x1 → Q (some (vI x2)) τ))))))) : V0 E d qX2_tuneNamed 2 [some (vR x0), some (vI x1), some (vI x2)] [] τ Q := by
  refine u_iload_n (i := 2) (pc' := 3) dX2_tuneNamed_2 rfl rfl rfl ?_
  refine u_aload_n (i := 0) (pc' := 4) dX2_tuneNamed_3 rfl rfl rfl ?_
  refine u_getI (z := (τ x0 2)) (pc' := 7) dX2_tuneNamed_4 rfl fl_TuneDoor_House_55 rfl (by decide) (kHouse k_x0).1 k_x0 rfl (fun r1 => ?_)
  obtain ⟨c2, h⟩ := h
  refine u_icmp_ge (tgt := 33) (pc' := 10) dX2_tuneNamed_7 rfl (by decide) c2 r1 (fun hb => ?_) (fun hb => ?_)
  · have h := h.1 hb
    refine u_iconst (pc' := 34) dX2_tuneNamed_33 rfl ?_
    exact u_iret dX2_tuneNamed_34 rfl h
  · have h := h.2 hb
    refine u_iload_n (i := 2) (pc' := 11) dX2_tuneNamed_10 rfl rfl rfl ?_
    refine u_iconst (pc' := 12) dX2_tuneNamed_11 rfl ?_
    refine u_icmp_ge (tgt := 33) (pc' := 15) dX2_tuneNamed_12 rfl (by decide) c2 ⟨by decide, by decide⟩ (fun hb => ?_) (fun hb => ?_)
    · have h := h.1 hb
      refine u_iconst (pc' := 34) dX2_tuneNamed_33 rfl ?_
      exact u_iret dX2_tuneNamed_34 rfl h
    · have h := h.2 hb
      refine u_aload_n (i := 0) (pc' := 16) dX2_tuneNamed_15 rfl rfl rfl ?_
      refine u_getR (a := (x0 + 1)) (pc' := 19) dX2_tuneNamed_16 rfl fl_TuneDoor_House_18 rfl (kHouse k_x0).1 k_x0 (kHouse k_x0).2.1 ?_
      refine u_iload_n (i := 2) (pc' := 20) dX2_tuneNamed_19 rfl rfl rfl ?_
      obtain ⟨c3, c4, h⟩ := h
      refine u_iaload (k := x2.toNat) (z := (τ (x0 + 1) x2.toNat)) (pc' := 21) dX2_tuneNamed_20 rfl (Nat.le_trans (kHouse k_x0).1 (Nat.le_add_right _ _)) (kHouse k_x0).2.2.2.2.2.2.2.1 c3 c4 (by decide) rfl rfl (fun r5 => ?_)
      refine u_iload_n (i := 1) (pc' := 22) dX2_tuneNamed_21 rfl rfl rfl ?_
      obtain ⟨c6, h⟩ := h
      refine u_icmp_ne (tgt := 27) (pc' := 25) dX2_tuneNamed_22 rfl (by decide) r5 c6 (fun hb => ?_) (fun hb => ?_)
      · have h := h.1 hb
        refine s_iinc (i := 2) (ls' := [some (vR x0), some (vI x1), some (vI (x2 + 1))]) (pc' := 30) dX2_tuneNamed_27 rfl rfl (Nat.le_of_ble_eq_true rfl) rfl rfl ?_
        refine u_goto (tgt := 2) dX2_tuneNamed_30 (by decide) ?_
        exact u_less (ls' := [some (vR x0), some (vI x1), some (vI (x2 + 1))]) ⟨rfl, ⟨rfl, ⟨rfl, trivial⟩⟩⟩ h
      · have h := h.2 hb
        refine u_iload_n (i := 2) (pc' := 26) dX2_tuneNamed_25 rfl rfl rfl ?_
        exact u_iret dX2_tuneNamed_26 rfl h
set_option maxRecDepth 20000 in
theorem bX2_doorNamed_0 {E : mm_Env} {d : Nat} {τ : mm_Mem} {Q : mm_Q0} {ths : Nat} {a0 : Int} (k_ths : KD ths = some (.inr 2)) (h : V0 E d qX2_doorNamed 2 [some (vR ths), some (vI a0), some (vI 0)] [] τ Q) : V0 E d qX2_doorNamed 0 [some (vR ths), some (vI a0), none] [] τ Q := by
  refine u_iconst (pc' := 1) dX2_doorNamed_0 rfl ?_
  refine s_istore_n (i := 2) (ls' := [some (vR ths), some (vI a0), some (vI 0)]) (pc' := 2) dX2_doorNamed_1 rfl rfl (Nat.le_of_ble_eq_true rfl) rfl rfl ?_
  exact u_less (ls' := [some (vR ths), some (vI a0), some (vI 0)]) ⟨rfl, ⟨rfl, ⟨rfl, trivial⟩⟩⟩ h
theorem mX2_doorNamed {E : mm_Env} {d : Nat} {τ : mm_Mem} {Q : mm_Q0} {ths : Nat} {a0 : Int} (k_ths : KD ths = some (.inr 2)) (h : V0 E d qX2_doorNamed 2 [some (vR ths), some (vI a0), some (vI 0)] [] τ Q) : M0 E d qX2_doorNamed [vR ths, vI a0] τ Q := M0_of rfl (Nat.le_of_ble_eq_true rfl) [some (vR ths), some (vI a0), none] rfl (bX2_doorNamed_0 k_ths h)
set_option maxRecDepth 20000 in
theorem bX2_doorNamed_2 {E : mm_Env} {d : Nat} {τ : mm_Mem} {Q : mm_Q0} {x0 : Nat} {x1 : Int} {x2 : Int} (k_x0 : KD x0 = some (.inr 2)) (h : inR x2 ∧ (((τ x0 3) ≤ x2 → Q (some (vI (-1))) τ) ∧ (¬ (τ x0 3) ≤ x2 → ((4 ≤ x2 → Q (some (vI (-1))) τ) ∧ (¬ 4 ≤ x2 → 0 ≤ x2 ∧ x2 < 4 ∧ inR x1 ∧ (((τ (x0 + 14 + 4 * x2.toNat) 0) ≠ x1 → V0 E d qX2_doorNamed 2 [some (vR x0), some (vI x1), some (vI (x2 + 1))] [] τ Q) ∧ ((τ (x0 + 14 + 4 * x2.toNat) 0) = x1 → Q (some (vI x2)) τ))))))) : V0 E d qX2_doorNamed 2 [some (vR x0), some (vI x1), some (vI x2)] [] τ Q := by
  refine u_iload_n (i := 2) (pc' := 3) dX2_doorNamed_2 rfl rfl rfl ?_
  refine u_aload_n (i := 0) (pc' := 4) dX2_doorNamed_3 rfl rfl rfl ?_
  refine u_getI (z := (τ x0 3)) (pc' := 7) dX2_doorNamed_4 rfl fl_TuneDoor_House_58 rfl (by decide) (kHouse k_x0).1 k_x0 rfl (fun r1 => ?_)
  obtain ⟨c2, h⟩ := h
  refine u_icmp_ge (tgt := 36) (pc' := 10) dX2_doorNamed_7 rfl (by decide) c2 r1 (fun hb => ?_) (fun hb => ?_)
  · have h := h.1 hb
    refine u_iconst (pc' := 37) dX2_doorNamed_36 rfl ?_
    exact u_iret dX2_doorNamed_37 rfl h
  · have h := h.2 hb
    refine u_iload_n (i := 2) (pc' := 11) dX2_doorNamed_10 rfl rfl rfl ?_
    refine u_iconst (pc' := 12) dX2_doorNamed_11 rfl ?_
    refine u_icmp_ge (tgt := 36) (pc' := 15) dX2_doorNamed_12 rfl (by decide) c2 ⟨by decide, by decide⟩ (fun hb => ?_) (fun hb => ?_)
    · have h := h.1 hb
      refine u_iconst (pc' := 37) dX2_doorNamed_36 rfl ?_
      exact u_iret dX2_doorNamed_37 rfl h
    · have h := h.2 hb
      refine u_aload_n (i := 0) (pc' := 16) dX2_doorNamed_15 rfl rfl rfl ?_
      refine u_getR (a := (x0 + 4)) (pc' := 19) dX2_doorNamed_16 rfl fl_TuneDoor_House_30 rfl (kHouse k_x0).1 k_x0 (kHouse k_x0).2.2.2.2.1 ?_
      refine u_iload_n (i := 2) (pc' := 20) dX2_doorNamed_19 rfl rfl rfl ?_
      obtain ⟨c3, c4, h⟩ := h
      have j5 : x2.toNat < 4 := by omega
      refine u_aaload_D (k := x2.toNat) (a := (x0 + 14 + 4 * x2.toNat)) (pc' := 21) dX2_doorNamed_20 rfl (Nat.le_trans (kHouse k_x0).1 (Nat.le_add_right _ _)) (kHouse k_x0).2.2.2.2.2.2.2.2.2.2.1 c3 c4 (by decide) rfl (kHouseD k_x0 j5).1 ?_
      refine u_getI (z := (τ (x0 + 14 + 4 * x2.toNat) 0)) (pc' := 24) dX2_doorNamed_21 rfl fl_TuneDoor_House_67 rfl (by decide) (by omega) (kHouseD k_x0 j5).2 rfl (fun r6 => ?_)
      refine u_iload_n (i := 1) (pc' := 25) dX2_doorNamed_24 rfl rfl rfl ?_
      obtain ⟨c7, h⟩ := h
      refine u_icmp_ne (tgt := 30) (pc' := 28) dX2_doorNamed_25 rfl (by decide) r6 c7 (fun hb => ?_) (fun hb => ?_)
      · have h := h.1 hb
        refine s_iinc (i := 2) (ls' := [some (vR x0), some (vI x1), some (vI (x2 + 1))]) (pc' := 33) dX2_doorNamed_30 rfl rfl (Nat.le_of_ble_eq_true rfl) rfl rfl ?_
        refine u_goto (tgt := 2) dX2_doorNamed_33 (by decide) ?_
        exact u_less (ls' := [some (vR x0), some (vI x1), some (vI (x2 + 1))]) ⟨rfl, ⟨rfl, ⟨rfl, trivial⟩⟩⟩ h
      · have h := h.2 hb
        refine u_iload_n (i := 2) (pc' := 29) dX2_doorNamed_28 rfl rfl rfl ?_
        exact u_iret dX2_doorNamed_29 rfl h
set_option maxRecDepth 20000 in
theorem bX2_personNamed_0 {E : mm_Env} {d : Nat} {τ : mm_Mem} {Q : mm_Q0} {ths : Nat} {a0 : Int} (k_ths : KD ths = some (.inr 2)) (h : V0 E d qX2_personNamed 2 [some (vR ths), some (vI a0), some (vI 0)] [] τ Q) : V0 E d qX2_personNamed 0 [some (vR ths), some (vI a0), none] [] τ Q := by
  refine u_iconst (pc' := 1) dX2_personNamed_0 rfl ?_
  refine s_istore_n (i := 2) (ls' := [some (vR ths), some (vI a0), some (vI 0)]) (pc' := 2) dX2_personNamed_1 rfl rfl (Nat.le_of_ble_eq_true rfl) rfl rfl ?_
  exact u_less (ls' := [some (vR ths), some (vI a0), some (vI 0)]) ⟨rfl, ⟨rfl, ⟨rfl, trivial⟩⟩⟩ h
theorem mX2_personNamed {E : mm_Env} {d : Nat} {τ : mm_Mem} {Q : mm_Q0} {ths : Nat} {a0 : Int} (k_ths : KD ths = some (.inr 2)) (h : V0 E d qX2_personNamed 2 [some (vR ths), some (vI a0), some (vI 0)] [] τ Q) : M0 E d qX2_personNamed [vR ths, vI a0] τ Q := M0_of rfl (Nat.le_of_ble_eq_true rfl) [some (vR ths), some (vI a0), none] rfl (bX2_personNamed_0 k_ths h)
set_option maxRecDepth 20000 in
theorem bX2_personNamed_2 {E : mm_Env} {d : Nat} {τ : mm_Mem} {Q : mm_Q0} {x0 : Nat} {x1 : Int} {x2 : Int} (k_x0 : KD x0 = some (.inr 2)) (h : inR x2 ∧ (((τ x0 4) ≤ x2 → Q (some (vI (-1))) τ) ∧ (¬ (τ x0 4) ≤ x2 → ((4 ≤ x2 → Q (some (vI (-1))) τ) ∧ (¬ 4 ≤ x2 → 0 ≤ x2 ∧ x2 < 4 ∧ inR x1 ∧ (((τ (x0 + 30 + x2.toNat) 0) ≠ x1 → V0 E d qX2_personNamed 2 [some (vR x0), some (vI x1), some (vI (x2 + 1))] [] τ Q) ∧ ((τ (x0 + 30 + x2.toNat) 0) = x1 → Q (some (vI x2)) τ))))))) : V0 E d qX2_personNamed 2 [some (vR x0), some (vI x1), some (vI x2)] [] τ Q := by
  refine u_iload_n (i := 2) (pc' := 3) dX2_personNamed_2 rfl rfl rfl ?_
  refine u_aload_n (i := 0) (pc' := 4) dX2_personNamed_3 rfl rfl rfl ?_
  refine u_getI (z := (τ x0 4)) (pc' := 7) dX2_personNamed_4 rfl fl_TuneDoor_House_61 rfl (by decide) (kHouse k_x0).1 k_x0 rfl (fun r1 => ?_)
  obtain ⟨c2, h⟩ := h
  refine u_icmp_ge (tgt := 36) (pc' := 10) dX2_personNamed_7 rfl (by decide) c2 r1 (fun hb => ?_) (fun hb => ?_)
  · have h := h.1 hb
    refine u_iconst (pc' := 37) dX2_personNamed_36 rfl ?_
    exact u_iret dX2_personNamed_37 rfl h
  · have h := h.2 hb
    refine u_iload_n (i := 2) (pc' := 11) dX2_personNamed_10 rfl rfl rfl ?_
    refine u_iconst (pc' := 12) dX2_personNamed_11 rfl ?_
    refine u_icmp_ge (tgt := 36) (pc' := 15) dX2_personNamed_12 rfl (by decide) c2 ⟨by decide, by decide⟩ (fun hb => ?_) (fun hb => ?_)
    · have h := h.1 hb
      refine u_iconst (pc' := 37) dX2_personNamed_36 rfl ?_
      exact u_iret dX2_personNamed_37 rfl h
    · have h := h.2 hb
      refine u_aload_n (i := 0) (pc' := 16) dX2_personNamed_15 rfl rfl rfl ?_
      refine u_getR (a := (x0 + 5)) (pc' := 19) dX2_personNamed_16 rfl fl_TuneDoor_House_36 rfl (kHouse k_x0).1 k_x0 (kHouse k_x0).2.2.2.2.2.1 ?_
      refine u_iload_n (i := 2) (pc' := 20) dX2_personNamed_19 rfl rfl rfl ?_
      obtain ⟨c3, c4, h⟩ := h
      have j5 : x2.toNat < 4 := by omega
      refine u_aaload_P (k := x2.toNat) (a := (x0 + 30 + x2.toNat)) (pc' := 21) dX2_personNamed_20 rfl (Nat.le_trans (kHouse k_x0).1 (Nat.le_add_right _ _)) (kHouse k_x0).2.2.2.2.2.2.2.2.2.2.2.1 c3 c4 (by decide) rfl (kHouseP k_x0 j5).1 ?_
      refine u_getI (z := (τ (x0 + 30 + x2.toNat) 0)) (pc' := 24) dX2_personNamed_21 rfl fl_TuneDoor_House_70 rfl (by decide) (by omega) (kHouseP k_x0 j5).2 rfl (fun r6 => ?_)
      refine u_iload_n (i := 1) (pc' := 25) dX2_personNamed_24 rfl rfl rfl ?_
      obtain ⟨c7, h⟩ := h
      refine u_icmp_ne (tgt := 30) (pc' := 28) dX2_personNamed_25 rfl (by decide) r6 c7 (fun hb => ?_) (fun hb => ?_)
      · have h := h.1 hb
        refine s_iinc (i := 2) (ls' := [some (vR x0), some (vI x1), some (vI (x2 + 1))]) (pc' := 33) dX2_personNamed_30 rfl rfl (Nat.le_of_ble_eq_true rfl) rfl rfl ?_
        refine u_goto (tgt := 2) dX2_personNamed_33 (by decide) ?_
        exact u_less (ls' := [some (vR x0), some (vI x1), some (vI (x2 + 1))]) ⟨rfl, ⟨rfl, ⟨rfl, trivial⟩⟩⟩ h
      · have h := h.2 hb
        refine u_iload_n (i := 2) (pc' := 29) dX2_personNamed_28 rfl rfl rfl ?_
        exact u_iret dX2_personNamed_29 rfl h
