set_option maxRecDepth 20000 in
theorem bX6_withLetter_0 {E : mm_Env} {d : Nat} {τ : mm_Mem} {Q : mm_Q0} {a0 : Int} {a1 : Int} (h : Q (some (vI (((mm_shl a0 5) + a1) - 96))) τ) : V0 E d qX6_withLetter 0 [some (vI a0), some (vI a1)] [] τ Q := by
  refine u_iload_n (i := 0) (pc' := 1) dX6_withLetter_0 rfl rfl rfl ?_
  refine u_iconst (pc' := 2) dX6_withLetter_1 rfl ?_
  refine u_ishl (pc' := 3) dX6_withLetter_2 rfl ?_
  refine u_iload_n (i := 1) (pc' := 4) dX6_withLetter_3 rfl rfl rfl ?_
  refine u_iadd (pc' := 5) dX6_withLetter_4 rfl ?_
  refine u_bipush (pc' := 7) dX6_withLetter_5 rfl (by decide) ?_
  refine u_isub (pc' := 8) dX6_withLetter_7 rfl ?_
  exact u_iret dX6_withLetter_8 rfl h
theorem mX6_withLetter {E : mm_Env} {d : Nat} {τ : mm_Mem} {Q : mm_Q0} {a0 : Int} {a1 : Int} (h : Q (some (vI (((mm_shl a0 5) + a1) - 96))) τ) : M0 E d qX6_withLetter [vI a0, vI a1] τ Q := M0_of rfl (Nat.le_of_ble_eq_true rfl) [some (vI a0), some (vI a1)] rfl (bX6_withLetter_0  h)
set_option maxRecDepth 20000 in
theorem bX6_split_0 {E : mm_Env} {d : Nat} {τ : mm_Mem} {Q : mm_Q0} {a0 : Nat} {n_a0 : Nat} {a1 : Int} (k_a0 : KD a0 = some (.inl (.int, n_a0))) (t_a0 : 2 ≤ a0) (l_a0 : n_a0 ≤ 2147483647) (h : M0 E d qJ9_min_7cf53 [vI a1, vI (n_a0 : Int)] τ (fun v τ1 => ∃ r2 : Int, v = some (vI r2) ∧ V0 E (d + 1) qX6_split 23 [some (vR 72), some (vR a0), none, some (vI r2), some (vI 0), some (vI 0)] [] (wr (wr τ1 72 3 0) 72 5 (-1)) Q)) : V0 E (d + 1) qX6_split 0 [some (vR 72), some (vR a0), some (vI a1), none, none, none] [] τ Q := by
  refine u_iload_n (i := 2) (pc' := 1) dX6_split_0 rfl rfl rfl ?_
  refine u_aload_n (i := 1) (pc' := 2) dX6_split_1 rfl rfl rfl ?_
  refine u_alen (t0 := 0) (pc' := 3) dX6_split_2 rfl t_a0 k_a0 (fun _ => rfl) ?_
  refine u_invS (q' := qJ9_min_7cf53) (As := [vI a1, vI (n_a0 : Int)]) (st := []) (pc' := 6) dX6_split_3 rfl gJ9_min_7cf53 wm_529 wm_530 rfl (Nat.le_of_ble_eq_true rfl) (M0.mono h (fun v τ1 h => ?_))
  obtain ⟨r2, rfl, h⟩ := h
  show V0 E (d + 1) qX6_split 6 [some (vR 72), some (vR a0), some (vI a1), none, none, none] [vI r2] τ1 Q
  refine s_istore_n (i := 3) (ls' := [some (vR 72), some (vR a0), some (vI a1), some (vI r2), none, none]) (pc' := 7) dX6_split_6 rfl rfl (Nat.le_of_ble_eq_true rfl) rfl rfl ?_
  refine u_aload_n (i := 0) (pc' := 8) dX6_split_7 rfl rfl rfl ?_
  refine u_iconst (pc' := 9) dX6_split_8 rfl ?_
  refine u_putI (pc' := 12) dX6_split_9 rfl fl_TuneDoor_Tokens_45 rfl rfl (by decide) (by decide) kd_72 ⟨by decide, by decide⟩ ?_
  refine u_aload_n (i := 0) (pc' := 13) dX6_split_12 rfl rfl rfl ?_
  refine u_iconst (pc' := 14) dX6_split_13 rfl ?_
  refine u_putI (pc' := 17) dX6_split_14 rfl fl_TuneDoor_Tokens_49 rfl rfl (by decide) (by decide) kd_72 ⟨by decide, by decide⟩ ?_
  refine u_iconst (pc' := 18) dX6_split_17 rfl ?_
  refine s_istore (i := 4) (ls' := [some (vR 72), some (vR a0), some (vI a1), some (vI r2), some (vI 0), none]) (pc' := 20) dX6_split_18 rfl (Nat.le_of_ble_eq_true rfl) rfl rfl ?_
  refine u_iconst (pc' := 21) dX6_split_20 rfl ?_
  refine s_istore (i := 5) (ls' := [some (vR 72), some (vR a0), some (vI a1), some (vI r2), some (vI 0), some (vI 0)]) (pc' := 23) dX6_split_21 rfl (Nat.le_of_ble_eq_true rfl) rfl rfl ?_
  exact u_less (ls' := [some (vR 72), some (vR a0), none, some (vI r2), some (vI 0), some (vI 0)]) ⟨rfl, ⟨rfl, ⟨rfl, ⟨rfl, ⟨rfl, trivial⟩⟩⟩⟩⟩ h
theorem mX6_split {E : mm_Env} {d : Nat} {τ : mm_Mem} {Q : mm_Q0} {a0 : Nat} {n_a0 : Nat} {a1 : Int} (k_a0 : KD a0 = some (.inl (.int, n_a0))) (t_a0 : 2 ≤ a0) (l_a0 : n_a0 ≤ 2147483647) (h : M0 E d qJ9_min_7cf53 [vI a1, vI (n_a0 : Int)] τ (fun v τ1 => ∃ r2 : Int, v = some (vI r2) ∧ V0 E (d + 1) qX6_split 23 [some (vR 72), some (vR a0), none, some (vI r2), some (vI 0), some (vI 0)] [] (wr (wr τ1 72 3 0) 72 5 (-1)) Q)) : M0 E (d + 1) qX6_split [vR 72, vR a0, vI a1] τ Q := M0_of rfl (Nat.le_of_ble_eq_true rfl) [some (vR 72), some (vR a0), some (vI a1), none, none, none] rfl (bX6_split_0 k_a0 t_a0 l_a0 h)
set_option maxRecDepth 20000 in
theorem bX6_split_23 {E : mm_Env} {d : Nat} {τ : mm_Mem} {Q : mm_Q0} {x1 : Nat} {n_x1 : Nat} {x3 : Int} {x4 : Int} {x5 : Int} (k_x1 : KD x1 = some (.inl (.int, n_x1))) (t_x1 : 2 ≤ x1) (l_x1 : n_x1 ≤ 2147483647) (h : inR x5 ∧ ((1600 ≤ x5 → inR x4 ∧ ((x4 = (-1) → Q none τ) ∧ (¬ x4 = (-1) → M0 E d qX6_add [vR 72, vI 0, vI x3, vI 0] τ (fun v τ3 => ∃ r4 : Int, v = some (vI r4) ∧ Q none τ3)))) ∧ (¬ 1600 ≤ x5 → inR x4 ∧ ((x4 < 0 → ((x4 = (-1) → Q none τ) ∧ (¬ x4 = (-1) → M0 E d qX6_add [vR 72, vI 0, vI x3, vI 0] τ (fun v τ6 => ∃ r7 : Int, v = some (vI r7) ∧ Q none τ6)))) ∧ (¬ x4 < 0 → inR x3 ∧ ((x3 ≤ x4 → ((x4 = (-1) → Q none τ) ∧ (¬ x4 = (-1) → M0 E d qX6_add [vR 72, vI 0, vI x3, vI 0] τ (fun v τ9 => ∃ r10 : Int, v = some (vI r10) ∧ Q none τ9)))) ∧ (¬ x3 ≤ x4 → M0 E d qX6_splitOne [vR 72, vR x1, vI x3, vI x4] τ (fun v τ11 => ∃ r12 : Int, v = some (vI r12) ∧ V0 E (d + 1) qX6_split 23 [some (vR 72), some (vR x1), none, some (vI x3), some (vI r12), some (vI (x5 + 1))] [] τ11 Q)))))))) : V0 E (d + 1) qX6_split 23 [some (vR 72), some (vR x1), none, some (vI x3), some (vI x4), some (vI x5)] [] τ Q := by
  refine u_iload (i := 5) (pc' := 25) dX6_split_23 rfl rfl ?_
  refine u_sipush (pc' := 28) dX6_split_25 rfl (by decide) ?_
  obtain ⟨c1, h⟩ := h
  refine u_icmp_ge (tgt := 58) (pc' := 31) dX6_split_28 rfl (by decide) c1 ⟨by decide, by decide⟩ (fun hb => ?_) (fun hb => ?_)
  · have h := h.1 hb
    refine u_iload (i := 4) (pc' := 60) dX6_split_58 rfl rfl ?_
    refine u_iconst (pc' := 61) dX6_split_60 rfl ?_
    obtain ⟨c2, h⟩ := h
    refine u_icmp_eq (tgt := 72) (pc' := 64) dX6_split_61 rfl (by decide) c2 ⟨by decide, by decide⟩ (fun hb => ?_) (fun hb => ?_)
    · have h := h.1 hb
      exact u_ret dX6_split_72 rfl h
    · have h := h.2 hb
      refine u_aload_n (i := 0) (pc' := 65) dX6_split_64 rfl rfl rfl ?_
      refine u_iconst (pc' := 66) dX6_split_65 rfl ?_
      refine u_iload_n (i := 3) (pc' := 67) dX6_split_66 rfl rfl rfl ?_
      refine u_iconst (pc' := 68) dX6_split_67 rfl ?_
      refine u_invV (q' := qX6_add) (As := [vI 0, vI x3, vI 0]) (st := []) (pc' := 71) dX6_split_68 rfl gX6_add wm_542 rfl rfl (by decide) kd_72 wm_544 wp_3 rfl (Nat.le_of_ble_eq_true rfl) (M0.mono h (fun v τ3 h => ?_))
      obtain ⟨r4, rfl, h⟩ := h
      show V0 E (d + 1) qX6_split 71 [some (vR 72), some (vR x1), none, some (vI x3), some (vI x4), some (vI x5)] [vI r4] τ3 Q
      refine u_pop (pc' := 72) dX6_split_71 rfl (fun _ hh => by cases hh) ?_
      exact u_ret dX6_split_72 rfl h
  · have h := h.2 hb
    refine u_iload (i := 4) (pc' := 33) dX6_split_31 rfl rfl ?_
    obtain ⟨c5, h⟩ := h
    refine u_if_lt (tgt := 58) (pc' := 36) dX6_split_33 rfl (by decide) c5 (fun hb => ?_) (fun hb => ?_)
    · have h := h.1 hb
      refine u_iload (i := 4) (pc' := 60) dX6_split_58 rfl rfl ?_
      refine u_iconst (pc' := 61) dX6_split_60 rfl ?_
      refine u_icmp_eq (tgt := 72) (pc' := 64) dX6_split_61 rfl (by decide) c5 ⟨by decide, by decide⟩ (fun hb => ?_) (fun hb => ?_)
      · have h := h.1 hb
        exact u_ret dX6_split_72 rfl h
      · have h := h.2 hb
        refine u_aload_n (i := 0) (pc' := 65) dX6_split_64 rfl rfl rfl ?_
        refine u_iconst (pc' := 66) dX6_split_65 rfl ?_
        refine u_iload_n (i := 3) (pc' := 67) dX6_split_66 rfl rfl rfl ?_
        refine u_iconst (pc' := 68) dX6_split_67 rfl ?_
        refine u_invV (q' := qX6_add) (As := [vI 0, vI x3, vI 0]) (st := []) (pc' := 71) dX6_split_68 rfl gX6_add wm_542 rfl rfl (by decide) kd_72 wm_544 wp_3 rfl (Nat.le_of_ble_eq_true rfl) (M0.mono h (fun v τ6 h => ?_))
        obtain ⟨r7, rfl, h⟩ := h
        show V0 E (d + 1) qX6_split 71 [some (vR 72), some (vR x1), none, some (vI x3), some (vI x4), some (vI x5)] [vI r7] τ6 Q
        refine u_pop (pc' := 72) dX6_split_71 rfl (fun _ hh => by cases hh) ?_
        exact u_ret dX6_split_72 rfl h
    · have h := h.2 hb
      refine u_iload (i := 4) (pc' := 38) dX6_split_36 rfl rfl ?_
      refine u_iload_n (i := 3) (pc' := 39) dX6_split_38 rfl rfl rfl ?_
      obtain ⟨c8, h⟩ := h
      refine u_icmp_ge (tgt := 58) (pc' := 42) dX6_split_39 rfl (by decide) c5 c8 (fun hb => ?_) (fun hb => ?_)
      · have h := h.1 hb
        refine u_iload (i := 4) (pc' := 60) dX6_split_58 rfl rfl ?_
        refine u_iconst (pc' := 61) dX6_split_60 rfl ?_
        refine u_icmp_eq (tgt := 72) (pc' := 64) dX6_split_61 rfl (by decide) c5 ⟨by decide, by decide⟩ (fun hb => ?_) (fun hb => ?_)
        · have h := h.1 hb
          exact u_ret dX6_split_72 rfl h
        · have h := h.2 hb
          refine u_aload_n (i := 0) (pc' := 65) dX6_split_64 rfl rfl rfl ?_
          refine u_iconst (pc' := 66) dX6_split_65 rfl ?_
          refine u_iload_n (i := 3) (pc' := 67) dX6_split_66 rfl rfl rfl ?_
          refine u_iconst (pc' := 68) dX6_split_67 rfl ?_
          refine u_invV (q' := qX6_add) (As := [vI 0, vI x3, vI 0]) (st := []) (pc' := 71) dX6_split_68 rfl gX6_add wm_542 rfl rfl (by decide) kd_72 wm_544 wp_3 rfl (Nat.le_of_ble_eq_true rfl) (M0.mono h (fun v τ9 h => ?_))
          obtain ⟨r10, rfl, h⟩ := h
          show V0 E (d + 1) qX6_split 71 [some (vR 72), some (vR x1), none, some (vI x3), some (vI x4), some (vI x5)] [vI r10] τ9 Q
          refine u_pop (pc' := 72) dX6_split_71 rfl (fun _ hh => by cases hh) ?_
          exact u_ret dX6_split_72 rfl h
      · have h := h.2 hb
        refine u_aload_n (i := 0) (pc' := 43) dX6_split_42 rfl rfl rfl ?_
        refine u_aload_n (i := 1) (pc' := 44) dX6_split_43 rfl rfl rfl ?_
        refine u_iload_n (i := 3) (pc' := 45) dX6_split_44 rfl rfl rfl ?_
        refine u_iload (i := 4) (pc' := 47) dX6_split_45 rfl rfl ?_
        refine u_invV (q' := qX6_splitOne) (As := [vR x1, vI x3, vI x4]) (st := []) (pc' := 50) dX6_split_47 rfl gX6_splitOne wm_532 rfl rfl (by decide) kd_72 wm_534 wp_2 rfl (Nat.le_of_ble_eq_true rfl) (M0.mono h (fun v τ11 h => ?_))
        obtain ⟨r12, rfl, h⟩ := h
        show V0 E (d + 1) qX6_split 50 [some (vR 72), some (vR x1), none, some (vI x3), some (vI x4), some (vI x5)] [vI r12] τ11 Q
        refine s_istore (i := 4) (ls' := [some (vR 72), some (vR x1), none, some (vI x3), some (vI r12), some (vI x5)]) (pc' := 52) dX6_split_50 rfl (Nat.le_of_ble_eq_true rfl) rfl rfl ?_
        refine s_iinc (i := 5) (ls' := [some (vR 72), some (vR x1), none, some (vI x3), some (vI r12), some (vI (x5 + 1))]) (pc' := 55) dX6_split_52 rfl rfl (Nat.le_of_ble_eq_true rfl) rfl rfl ?_
        refine u_goto (tgt := 23) dX6_split_55 (by decide) ?_
        exact u_less (ls' := [some (vR 72), some (vR x1), none, some (vI x3), some (vI r12), some (vI (x5 + 1))]) ⟨rfl, ⟨rfl, ⟨rfl, ⟨rfl, ⟨rfl, trivial⟩⟩⟩⟩⟩ h
set_option maxRecDepth 20000 in
theorem bX6_splitOne_0 {E : mm_Env} {d : Nat} {τ : mm_Mem} {Q : mm_Q0} {a0 : Nat} {n_a0 : Nat} {a1 : Int} {a2 : Int} (k_a0 : KD a0 = some (.inl (.int, n_a0))) (t_a0 : 2 ≤ a0) (l_a0 : n_a0 ≤ 2147483647) (h : 0 ≤ a2 ∧ a2 < n_a0 ∧ (((τ a0 a2.toNat) = 10 → Q (some (vI (a2 + 1))) τ) ∧ (¬ (τ a0 a2.toNat) = 10 → (((τ a0 a2.toNat) ≠ 32 → M0 E d qX6_isLetter [vI (τ a0 a2.toNat)] τ (fun v τ4 => ∃ b5 : Bool, v = some (vB b5) ∧ ((b5 = true → V0 E (d + 1) qX6_splitOne 52 [some (vR 72), some (vR a0), some (vI a1), some (vI a2), some (vI (τ a0 a2.toNat))] [] τ4 Q) ∧ (b5 = false → M0 E d qX6_isDigit [vI (τ a0 a2.toNat)] τ4 (fun v τ6 => ∃ b7 : Bool, v = some (vB b7) ∧ ((b7 = true → V0 E (d + 1) qX6_splitOne 52 [some (vR 72), some (vR a0), some (vI a1), some (vI a2), some (vI (τ a0 a2.toNat))] [] τ6 Q) ∧ (b7 = false → M0 E d qX6_add [vR 72, vI 2, vI a2, vI (τ a0 a2.toNat)] τ6 (fun v τ8 => ∃ r9 : Int, v = some (vI r9) ∧ Q (some (vI (a2 + 1))) τ8)))))))) ∧ ((τ a0 a2.toNat) = 32 → Q (some (vI (a2 + 1))) τ))))) : V0 E (d + 1) qX6_splitOne 0 [some (vR 72), some (vR a0), some (vI a1), some (vI a2), none] [] τ Q := by
  refine u_aload_n (i := 1) (pc' := 1) dX6_splitOne_0 rfl rfl rfl ?_
  refine u_iload_n (i := 3) (pc' := 2) dX6_splitOne_1 rfl rfl rfl ?_
  obtain ⟨c1, c2, h⟩ := h
  refine u_iaload (k := a2.toNat) (z := (τ a0 a2.toNat)) (pc' := 3) dX6_splitOne_2 rfl t_a0 k_a0 c1 c2 l_a0 rfl rfl (fun r3 => ?_)
  refine s_istore (i := 4) (ls' := [some (vR 72), some (vR a0), some (vI a1), some (vI a2), some (vI (τ a0 a2.toNat))]) (pc' := 5) dX6_splitOne_3 rfl (Nat.le_of_ble_eq_true rfl) rfl rfl ?_
  refine u_iload (i := 4) (pc' := 7) dX6_splitOne_5 rfl rfl ?_
  refine u_bipush (pc' := 9) dX6_splitOne_7 rfl (by decide) ?_
  refine u_icmp_eq (tgt := 19) (pc' := 12) dX6_splitOne_9 rfl (by decide) r3 ⟨by decide, by decide⟩ (fun hb => ?_) (fun hb => ?_)
  · have h := h.1 hb
    refine u_iload_n (i := 3) (pc' := 20) dX6_splitOne_19 rfl rfl rfl ?_
    refine u_iconst (pc' := 21) dX6_splitOne_20 rfl ?_
    refine u_iadd (pc' := 22) dX6_splitOne_21 rfl ?_
    exact u_iret dX6_splitOne_22 rfl h
  · have h := h.2 hb
    refine u_iload (i := 4) (pc' := 14) dX6_splitOne_12 rfl rfl ?_
    refine u_bipush (pc' := 16) dX6_splitOne_14 rfl (by decide) ?_
    refine u_icmp_ne (tgt := 23) (pc' := 19) dX6_splitOne_16 rfl (by decide) r3 ⟨by decide, by decide⟩ (fun hb => ?_) (fun hb => ?_)
    · have h := h.1 hb
      refine u_iload (i := 4) (pc' := 25) dX6_splitOne_23 rfl rfl ?_
      refine u_invS (q' := qX6_isLetter) (As := [vI (τ a0 a2.toNat)]) (st := []) (pc' := 28) dX6_splitOne_25 rfl gX6_isLetter wm_536 wm_537 rfl (Nat.le_of_ble_eq_true rfl) (M0.mono h (fun v τ4 h => ?_))
      obtain ⟨b5, rfl, h⟩ := h
      show V0 E (d + 1) qX6_splitOne 28 [some (vR 72), some (vR a0), some (vI a1), some (vI a2), some (vI (τ a0 a2.toNat))] [vB b5] τ4 Q
      refine u_if_ne (tgt := 52) (pc' := 31) dX6_splitOne_28 rfl (by decide) (bI_R _) (fun hb => ?_) (fun hb => ?_)
      · have h := h.1 (bI_n0.mp hb)
        exact u_less (ls' := [some (vR 72), some (vR a0), some (vI a1), some (vI a2), some (vI (τ a0 a2.toNat))]) ⟨rfl, ⟨rfl, ⟨rfl, ⟨rfl, ⟨rfl, trivial⟩⟩⟩⟩⟩ h
      · have h := h.2 (bI_0.mp hb)
        refine u_iload (i := 4) (pc' := 33) dX6_splitOne_31 rfl rfl ?_
        refine u_invS (q' := qX6_isDigit) (As := [vI (τ a0 a2.toNat)]) (st := []) (pc' := 36) dX6_splitOne_33 rfl gX6_isDigit wm_539 wm_540 rfl (Nat.le_of_ble_eq_true rfl) (M0.mono h (fun v τ6 h => ?_))
        obtain ⟨b7, rfl, h⟩ := h
        show V0 E (d + 1) qX6_splitOne 36 [some (vR 72), some (vR a0), some (vI a1), some (vI a2), some (vI (τ a0 a2.toNat))] [vB b7] τ6 Q
        refine u_if_ne (tgt := 52) (pc' := 39) dX6_splitOne_36 rfl (by decide) (bI_R _) (fun hb => ?_) (fun hb => ?_)
        · have h := h.1 (bI_n0.mp hb)
          exact u_less (ls' := [some (vR 72), some (vR a0), some (vI a1), some (vI a2), some (vI (τ a0 a2.toNat))]) ⟨rfl, ⟨rfl, ⟨rfl, ⟨rfl, ⟨rfl, trivial⟩⟩⟩⟩⟩ h
        · have h := h.2 (bI_0.mp hb)
          refine u_aload_n (i := 0) (pc' := 40) dX6_splitOne_39 rfl rfl rfl ?_
          refine u_iconst (pc' := 41) dX6_splitOne_40 rfl ?_
          refine u_iload_n (i := 3) (pc' := 42) dX6_splitOne_41 rfl rfl rfl ?_
          refine u_iload (i := 4) (pc' := 44) dX6_splitOne_42 rfl rfl ?_
          refine u_invV (q' := qX6_add) (As := [vI 2, vI a2, vI (τ a0 a2.toNat)]) (st := []) (pc' := 47) dX6_splitOne_44 rfl gX6_add wm_542 rfl rfl (by decide) kd_72 wm_544 wp_3 rfl (Nat.le_of_ble_eq_true rfl) (M0.mono h (fun v τ8 h => ?_))
          obtain ⟨r9, rfl, h⟩ := h
          show V0 E (d + 1) qX6_splitOne 47 [some (vR 72), some (vR a0), some (vI a1), some (vI a2), some (vI (τ a0 a2.toNat))] [vI r9] τ8 Q
          refine u_pop (pc' := 48) dX6_splitOne_47 rfl (fun _ hh => by cases hh) ?_
          refine u_iload_n (i := 3) (pc' := 49) dX6_splitOne_48 rfl rfl rfl ?_
          refine u_iconst (pc' := 50) dX6_splitOne_49 rfl ?_
          refine u_iadd (pc' := 51) dX6_splitOne_50 rfl ?_
          exact u_iret dX6_splitOne_51 rfl h
    · have h := h.2 hb
      refine u_iload_n (i := 3) (pc' := 20) dX6_splitOne_19 rfl rfl rfl ?_
      refine u_iconst (pc' := 21) dX6_splitOne_20 rfl ?_
      refine u_iadd (pc' := 22) dX6_splitOne_21 rfl ?_
      exact u_iret dX6_splitOne_22 rfl h
theorem mX6_splitOne {E : mm_Env} {d : Nat} {τ : mm_Mem} {Q : mm_Q0} {a0 : Nat} {n_a0 : Nat} {a1 : Int} {a2 : Int} (k_a0 : KD a0 = some (.inl (.int, n_a0))) (t_a0 : 2 ≤ a0) (l_a0 : n_a0 ≤ 2147483647) (h : 0 ≤ a2 ∧ a2 < n_a0 ∧ (((τ a0 a2.toNat) = 10 → Q (some (vI (a2 + 1))) τ) ∧ (¬ (τ a0 a2.toNat) = 10 → (((τ a0 a2.toNat) ≠ 32 → M0 E d qX6_isLetter [vI (τ a0 a2.toNat)] τ (fun v τ4 => ∃ b5 : Bool, v = some (vB b5) ∧ ((b5 = true → V0 E (d + 1) qX6_splitOne 52 [some (vR 72), some (vR a0), some (vI a1), some (vI a2), some (vI (τ a0 a2.toNat))] [] τ4 Q) ∧ (b5 = false → M0 E d qX6_isDigit [vI (τ a0 a2.toNat)] τ4 (fun v τ6 => ∃ b7 : Bool, v = some (vB b7) ∧ ((b7 = true → V0 E (d + 1) qX6_splitOne 52 [some (vR 72), some (vR a0), some (vI a1), some (vI a2), some (vI (τ a0 a2.toNat))] [] τ6 Q) ∧ (b7 = false → M0 E d qX6_add [vR 72, vI 2, vI a2, vI (τ a0 a2.toNat)] τ6 (fun v τ8 => ∃ r9 : Int, v = some (vI r9) ∧ Q (some (vI (a2 + 1))) τ8)))))))) ∧ ((τ a0 a2.toNat) = 32 → Q (some (vI (a2 + 1))) τ))))) : M0 E (d + 1) qX6_splitOne [vR 72, vR a0, vI a1, vI a2] τ Q := M0_of rfl (Nat.le_of_ble_eq_true rfl) [some (vR 72), some (vR a0), some (vI a1), some (vI a2), none] rfl (bX6_splitOne_0 k_a0 t_a0 l_a0 h)
set_option maxRecDepth 20000 in
theorem bX6_splitOne_52 {E : mm_Env} {d : Nat} {τ : mm_Mem} {Q : mm_Q0} {x1 : Nat} {n_x1 : Nat} {x2 : Int} {x3 : Int} {x4 : Int} (k_x1 : KD x1 = some (.inl (.int, n_x1))) (t_x1 : 2 ≤ x1) (l_x1 : n_x1 ≤ 2147483647) (h : inR x3 ∧ ((x3 ≠ (τ 72 5) → M0 E d qX6_isLetter [vI x4] τ (fun v τ3 => ∃ b4 : Bool, v = some (vB b4) ∧ ((b4 = false → M0 E d qX6_splitNumber [vR 72, vR x1, vI x2, vI x3] τ3 (fun v τ5 => ∃ r6 : Int, v = some (vI r6) ∧ inR r6 ∧ Q (some (vI r6)) (wr τ5 72 5 r6))) ∧ (b4 = true → M0 E d qX6_splitWord [vR 72, vR x1, vI x2, vI x3] τ3 (fun v τ9 => ∃ r10 : Int, v = some (vI r10) ∧ inR r10 ∧ Q (some (vI r10)) (wr τ9 72 5 r10)))))) ∧ (x3 = (τ 72 5) → M0 E d qX6_add [vR 72, vI 1, vI x3, vI 0] τ (fun v τ13 => ∃ r14 : Int, v = some (vI r14) ∧ Q (some (vI r14)) τ13)))) : V0 E (d + 1) qX6_splitOne 52 [some (vR 72), some (vR x1), some (vI x2), some (vI x3), some (vI x4)] [] τ Q := by
  refine u_iload_n (i := 3) (pc' := 53) dX6_splitOne_52 rfl rfl rfl ?_
  refine u_aload_n (i := 0) (pc' := 54) dX6_splitOne_53 rfl rfl rfl ?_
  refine u_getI (z := (τ 72 5)) (pc' := 57) dX6_splitOne_54 rfl fl_TuneDoor_Tokens_49 rfl (by decide) (by decide) kd_72 rfl (fun r1 => ?_)
  obtain ⟨c2, h⟩ := h
  refine u_icmp_ne (tgt := 68) (pc' := 60) dX6_splitOne_57 rfl (by decide) c2 r1 (fun hb => ?_) (fun hb => ?_)
  · have h := h.1 hb
    refine u_aload_n (i := 0) (pc' := 69) dX6_splitOne_68 rfl rfl rfl ?_
    refine u_iload (i := 4) (pc' := 71) dX6_splitOne_69 rfl rfl ?_
    refine u_invS (q' := qX6_isLetter) (As := [vI x4]) (st := [vR 72]) (pc' := 74) dX6_splitOne_71 rfl gX6_isLetter wm_536 wm_537 rfl (Nat.le_of_ble_eq_true rfl) (M0.mono h (fun v τ3 h => ?_))
    obtain ⟨b4, rfl, h⟩ := h
    show V0 E (d + 1) qX6_splitOne 74 [some (vR 72), some (vR x1), some (vI x2), some (vI x3), some (vI x4)] [vB b4, vR 72] τ3 Q
    refine u_if_eq (tgt := 87) (pc' := 77) dX6_splitOne_74 rfl (by decide) (bI_R _) (fun hb => ?_) (fun hb => ?_)
    · have h := h.1 (bI_0.mp hb)
      refine u_aload_n (i := 0) (pc' := 88) dX6_splitOne_87 rfl rfl rfl ?_
      refine u_aload_n (i := 1) (pc' := 89) dX6_splitOne_88 rfl rfl rfl ?_
      refine u_iload_n (i := 2) (pc' := 90) dX6_splitOne_89 rfl rfl rfl ?_
      refine u_iload_n (i := 3) (pc' := 91) dX6_splitOne_90 rfl rfl rfl ?_
      refine u_invV (q' := qX6_splitNumber) (As := [vR x1, vI x2, vI x3]) (st := [vR 72]) (pc' := 94) dX6_splitOne_91 rfl gX6_splitNumber wm_550 rfl rfl (by decide) kd_72 wm_552 wp_5 rfl (Nat.le_of_ble_eq_true rfl) (M0.mono h (fun v τ5 h => ?_))
      obtain ⟨r6, rfl, h⟩ := h
      show V0 E (d + 1) qX6_splitOne 94 [some (vR 72), some (vR x1), some (vI x2), some (vI x3), some (vI x4)] [vI r6, vR 72] τ5 Q
      obtain ⟨c7, h⟩ := h
      refine u_putI (pc' := 97) dX6_splitOne_94 rfl fl_TuneDoor_Tokens_49 rfl rfl (by decide) (by decide) kd_72 c7 ?_
      refine u_aload_n (i := 0) (pc' := 98) dX6_splitOne_97 rfl rfl rfl ?_
      refine u_getI (z := r6) (pc' := 101) dX6_splitOne_98 rfl fl_TuneDoor_Tokens_49 rfl (by decide) (by decide) kd_72 rfl (fun r8 => ?_)
      exact u_iret dX6_splitOne_101 rfl h
    · have h := h.2 (bI_n0.mp hb)
      refine u_aload_n (i := 0) (pc' := 78) dX6_splitOne_77 rfl rfl rfl ?_
      refine u_aload_n (i := 1) (pc' := 79) dX6_splitOne_78 rfl rfl rfl ?_
      refine u_iload_n (i := 2) (pc' := 80) dX6_splitOne_79 rfl rfl rfl ?_
      refine u_iload_n (i := 3) (pc' := 81) dX6_splitOne_80 rfl rfl rfl ?_
      refine u_invV (q' := qX6_splitWord) (As := [vR x1, vI x2, vI x3]) (st := [vR 72]) (pc' := 84) dX6_splitOne_81 rfl gX6_splitWord wm_546 rfl rfl (by decide) kd_72 wm_548 wp_4 rfl (Nat.le_of_ble_eq_true rfl) (M0.mono h (fun v τ9 h => ?_))
      obtain ⟨r10, rfl, h⟩ := h
      show V0 E (d + 1) qX6_splitOne 84 [some (vR 72), some (vR x1), some (vI x2), some (vI x3), some (vI x4)] [vI r10, vR 72] τ9 Q
      refine u_goto (tgt := 94) dX6_splitOne_84 (by decide) ?_
      obtain ⟨c11, h⟩ := h
      refine u_putI (pc' := 97) dX6_splitOne_94 rfl fl_TuneDoor_Tokens_49 rfl rfl (by decide) (by decide) kd_72 c11 ?_
      refine u_aload_n (i := 0) (pc' := 98) dX6_splitOne_97 rfl rfl rfl ?_
      refine u_getI (z := r10) (pc' := 101) dX6_splitOne_98 rfl fl_TuneDoor_Tokens_49 rfl (by decide) (by decide) kd_72 rfl (fun r12 => ?_)
      exact u_iret dX6_splitOne_101 rfl h
  · have h := h.2 hb
    refine u_aload_n (i := 0) (pc' := 61) dX6_splitOne_60 rfl rfl rfl ?_
    refine u_iconst (pc' := 62) dX6_splitOne_61 rfl ?_
    refine u_iload_n (i := 3) (pc' := 63) dX6_splitOne_62 rfl rfl rfl ?_
    refine u_iconst (pc' := 64) dX6_splitOne_63 rfl ?_
    refine u_invV (q' := qX6_add) (As := [vI 1, vI x3, vI 0]) (st := []) (pc' := 67) dX6_splitOne_64 rfl gX6_add wm_542 rfl rfl (by decide) kd_72 wm_544 wp_3 rfl (Nat.le_of_ble_eq_true rfl) (M0.mono h (fun v τ13 h => ?_))
    obtain ⟨r14, rfl, h⟩ := h
    show V0 E (d + 1) qX6_splitOne 67 [some (vR 72), some (vR x1), some (vI x2), some (vI x3), some (vI x4)] [vI r14] τ13 Q
    exact u_iret dX6_splitOne_67 rfl h
set_option maxRecDepth 20000 in
theorem bX6_isLetter_0 {E : mm_Env} {d : Nat} {τ : mm_Mem} {Q : mm_Q0} {a0 : Int} (h : inR a0 ∧ ((a0 < 97 → Q (some (vB false)) τ) ∧ (¬ a0 < 97 → ((122 < a0 → Q (some (vB false)) τ) ∧ (¬ 122 < a0 → Q (some (vB true)) τ))))) : V0 E d qX6_isLetter 0 [some (vI a0)] [] τ Q := by
  refine u_iload_n (i := 0) (pc' := 1) dX6_isLetter_0 rfl rfl rfl ?_
  refine u_bipush (pc' := 3) dX6_isLetter_1 rfl (by decide) ?_
  obtain ⟨c1, h⟩ := h
  refine u_icmp_lt (tgt := 16) (pc' := 6) dX6_isLetter_3 rfl (by decide) c1 ⟨by decide, by decide⟩ (fun hb => ?_) (fun hb => ?_)
  · have h := h.1 hb
    refine u_iconst (pc' := 17) dX6_isLetter_16 rfl ?_
    exact u_zret (b := false) dX6_isLetter_17 rfl rfl h
  · have h := h.2 hb
    refine u_iload_n (i := 0) (pc' := 7) dX6_isLetter_6 rfl rfl rfl ?_
    refine u_bipush (pc' := 9) dX6_isLetter_7 rfl (by decide) ?_
    refine u_icmp_gt (tgt := 16) (pc' := 12) dX6_isLetter_9 rfl (by decide) c1 ⟨by decide, by decide⟩ (fun hb => ?_) (fun hb => ?_)
    · have h := h.1 hb
      refine u_iconst (pc' := 17) dX6_isLetter_16 rfl ?_
      exact u_zret (b := false) dX6_isLetter_17 rfl rfl h
    · have h := h.2 hb
      refine u_iconst (pc' := 13) dX6_isLetter_12 rfl ?_
      refine u_goto (tgt := 17) dX6_isLetter_13 (by decide) ?_
      exact u_zret (b := true) dX6_isLetter_17 rfl rfl h
theorem mX6_isLetter {E : mm_Env} {d : Nat} {τ : mm_Mem} {Q : mm_Q0} {a0 : Int} (h : inR a0 ∧ ((a0 < 97 → Q (some (vB false)) τ) ∧ (¬ a0 < 97 → ((122 < a0 → Q (some (vB false)) τ) ∧ (¬ 122 < a0 → Q (some (vB true)) τ))))) : M0 E d qX6_isLetter [vI a0] τ Q := M0_of rfl (Nat.le_of_ble_eq_true rfl) [some (vI a0)] rfl (bX6_isLetter_0  h)
set_option maxRecDepth 20000 in
theorem bX6_isDigit_0 {E : mm_Env} {d : Nat} {τ : mm_Mem} {Q : mm_Q0} {a0 : Int} (h : inR a0 ∧ ((a0 < 48 → Q (some (vB false)) τ) ∧ (¬ a0 < 48 → ((57 < a0 → Q (some (vB false)) τ) ∧ (¬ 57 < a0 → Q (some (vB true)) τ))))) : V0 E d qX6_isDigit 0 [some (vI a0)] [] τ Q := by
  refine u_iload_n (i := 0) (pc' := 1) dX6_isDigit_0 rfl rfl rfl ?_
  refine u_bipush (pc' := 3) dX6_isDigit_1 rfl (by decide) ?_
  obtain ⟨c1, h⟩ := h
  refine u_icmp_lt (tgt := 16) (pc' := 6) dX6_isDigit_3 rfl (by decide) c1 ⟨by decide, by decide⟩ (fun hb => ?_) (fun hb => ?_)
  · have h := h.1 hb
    refine u_iconst (pc' := 17) dX6_isDigit_16 rfl ?_
    exact u_zret (b := false) dX6_isDigit_17 rfl rfl h
  · have h := h.2 hb
    refine u_iload_n (i := 0) (pc' := 7) dX6_isDigit_6 rfl rfl rfl ?_
    refine u_bipush (pc' := 9) dX6_isDigit_7 rfl (by decide) ?_
    refine u_icmp_gt (tgt := 16) (pc' := 12) dX6_isDigit_9 rfl (by decide) c1 ⟨by decide, by decide⟩ (fun hb => ?_) (fun hb => ?_)
    · have h := h.1 hb
      refine u_iconst (pc' := 17) dX6_isDigit_16 rfl ?_
      exact u_zret (b := false) dX6_isDigit_17 rfl rfl h
    · have h := h.2 hb
      refine u_iconst (pc' := 13) dX6_isDigit_12 rfl ?_
      refine u_goto (tgt := 17) dX6_isDigit_13 (by decide) ?_
      exact u_zret (b := true) dX6_isDigit_17 rfl rfl h
theorem mX6_isDigit {E : mm_Env} {d : Nat} {τ : mm_Mem} {Q : mm_Q0} {a0 : Int} (h : inR a0 ∧ ((a0 < 48 → Q (some (vB false)) τ) ∧ (¬ a0 < 48 → ((57 < a0 → Q (some (vB false)) τ) ∧ (¬ 57 < a0 → Q (some (vB true)) τ))))) : M0 E d qX6_isDigit [vI a0] τ Q := M0_of rfl (Nat.le_of_ble_eq_true rfl) [some (vI a0)] rfl (bX6_isDigit_0  h)
set_option maxRecDepth 20000 in
theorem bX6_add_0 {E : mm_Env} {d : Nat} {τ : mm_Mem} {Q : mm_Q0} {a0 : Int} {a1 : Int} {a2 : Int} (h : ((1601 ≤ (τ 72 3) → Q (some (vI (-1))) τ) ∧ (¬ 1601 ≤ (τ 72 3) → 0 ≤ (τ 72 3) ∧ (τ 72 3) < 1601 ∧ inR a0 ∧ 0 ≤ (τ 72 3) ∧ (τ 72 3) < 1601 ∧ inR a1 ∧ 0 ≤ (τ 72 3) ∧ (τ 72 3) < 1601 ∧ inR a2 ∧ inR ((τ 72 3) + 1) ∧ Q (some (vI (-1))) (wr (wr (wr (wr τ 73 (τ 72 3).toNat a0) 74 (τ 72 3).toNat a1) 75 (τ 72 3).toNat a2) 72 3 ((τ 72 3) + 1))))) : V0 E d qX6_add 0 [some (vR 72), some (vI a0), some (vI a1), some (vI a2)] [] τ Q := by
  refine u_aload_n (i := 0) (pc' := 1) dX6_add_0 rfl rfl rfl ?_
  refine u_getI (z := (τ 72 3)) (pc' := 4) dX6_add_1 rfl fl_TuneDoor_Tokens_45 rfl (by decide) (by decide) kd_72 rfl (fun r1 => ?_)
  refine u_aload_n (i := 0) (pc' := 5) dX6_add_4 rfl rfl rfl ?_
  refine u_getR (a := 73) (pc' := 8) dX6_add_5 rfl fl_TuneDoor_Tokens_9 rfl (by decide) kd_72 rfl ?_
  refine u_alen (t0 := 0) (pc' := 9) dX6_add_8 rfl (by decide) kd_73 (fun _ => rfl) ?_
  refine u_icmp_ge (tgt := 52) (pc' := 12) dX6_add_9 rfl (by decide) r1 ⟨by decide, by decide⟩ (fun hb => ?_) (fun hb => ?_)
  · have h := h.1 hb
    refine u_iconst (pc' := 53) dX6_add_52 rfl ?_
    exact u_iret dX6_add_53 rfl h
  · have h := h.2 hb
    refine u_aload_n (i := 0) (pc' := 13) dX6_add_12 rfl rfl rfl ?_
    refine u_getR (a := 73) (pc' := 16) dX6_add_13 rfl fl_TuneDoor_Tokens_9 rfl (by decide) kd_72 rfl ?_
    refine u_aload_n (i := 0) (pc' := 17) dX6_add_16 rfl rfl rfl ?_
    refine u_getI (z := (τ 72 3)) (pc' := 20) dX6_add_17 rfl fl_TuneDoor_Tokens_45 rfl (by decide) (by decide) kd_72 rfl (fun r2 => ?_)
    refine u_iload_n (i := 1) (pc' := 21) dX6_add_20 rfl rfl rfl ?_
    obtain ⟨c3, c4, c5, h⟩ := h
    refine u_iastore (k := (τ 72 3).toNat) (pc' := 22) dX6_add_21 rfl (by decide) kd_73 c3 c4 (by decide) rfl c5 ?_
    refine u_aload_n (i := 0) (pc' := 23) dX6_add_22 rfl rfl rfl ?_
    refine u_getR (a := 74) (pc' := 26) dX6_add_23 rfl fl_TuneDoor_Tokens_15 rfl (by decide) kd_72 rfl ?_
    refine u_aload_n (i := 0) (pc' := 27) dX6_add_26 rfl rfl rfl ?_
    refine u_getI (z := (τ 72 3)) (pc' := 30) dX6_add_27 rfl fl_TuneDoor_Tokens_45 rfl (by decide) (by decide) kd_72 rfl (fun r6 => ?_)
    refine u_iload_n (i := 2) (pc' := 31) dX6_add_30 rfl rfl rfl ?_
    obtain ⟨c7, c8, c9, h⟩ := h
    refine u_iastore (k := (τ 72 3).toNat) (pc' := 32) dX6_add_31 rfl (by decide) kd_74 c7 c8 (by decide) rfl c9 ?_
    refine u_aload_n (i := 0) (pc' := 33) dX6_add_32 rfl rfl rfl ?_
    refine u_getR (a := 75) (pc' := 36) dX6_add_33 rfl fl_TuneDoor_Tokens_18 rfl (by decide) kd_72 rfl ?_
    refine u_aload_n (i := 0) (pc' := 37) dX6_add_36 rfl rfl rfl ?_
    refine u_getI (z := (τ 72 3)) (pc' := 40) dX6_add_37 rfl fl_TuneDoor_Tokens_45 rfl (by decide) (by decide) kd_72 rfl (fun r10 => ?_)
    refine u_iload_n (i := 3) (pc' := 41) dX6_add_40 rfl rfl rfl ?_
    obtain ⟨c11, c12, c13, h⟩ := h
    refine u_iastore (k := (τ 72 3).toNat) (pc' := 42) dX6_add_41 rfl (by decide) kd_75 c11 c12 (by decide) rfl c13 ?_
    refine u_aload_n (i := 0) (pc' := 43) dX6_add_42 rfl rfl rfl ?_
    refine u_dup (pc' := 44) dX6_add_43 rfl (fun _ hh => by cases hh) ?_
    refine u_getI (z := (τ 72 3)) (pc' := 47) dX6_add_44 rfl fl_TuneDoor_Tokens_45 rfl (by decide) (by decide) kd_72 rfl (fun r14 => ?_)
    refine u_iconst (pc' := 48) dX6_add_47 rfl ?_
    refine u_iadd (pc' := 49) dX6_add_48 rfl ?_
    obtain ⟨c15, h⟩ := h
    refine u_putI (pc' := 52) dX6_add_49 rfl fl_TuneDoor_Tokens_45 rfl rfl (by decide) (by decide) kd_72 c15 ?_
    refine u_iconst (pc' := 53) dX6_add_52 rfl ?_
    exact u_iret dX6_add_53 rfl h
theorem mX6_add {E : mm_Env} {d : Nat} {τ : mm_Mem} {Q : mm_Q0} {a0 : Int} {a1 : Int} {a2 : Int} (h : ((1601 ≤ (τ 72 3) → Q (some (vI (-1))) τ) ∧ (¬ 1601 ≤ (τ 72 3) → 0 ≤ (τ 72 3) ∧ (τ 72 3) < 1601 ∧ inR a0 ∧ 0 ≤ (τ 72 3) ∧ (τ 72 3) < 1601 ∧ inR a1 ∧ 0 ≤ (τ 72 3) ∧ (τ 72 3) < 1601 ∧ inR a2 ∧ inR ((τ 72 3) + 1) ∧ Q (some (vI (-1))) (wr (wr (wr (wr τ 73 (τ 72 3).toNat a0) 74 (τ 72 3).toNat a1) 75 (τ 72 3).toNat a2) 72 3 ((τ 72 3) + 1))))) : M0 E d qX6_add [vR 72, vI a0, vI a1, vI a2] τ Q := M0_of rfl (Nat.le_of_ble_eq_true rfl) [some (vR 72), some (vI a0), some (vI a1), some (vI a2)] rfl (bX6_add_0  h)
set_option maxRecDepth 20000 in
theorem bX6_splitWord_0 {E : mm_Env} {d : Nat} {τ : mm_Mem} {Q : mm_Q0} {a0 : Nat} {n_a0 : Nat} {a1 : Int} {a2 : Int} (k_a0 : KD a0 = some (.inl (.int, n_a0))) (t_a0 : 2 ≤ a0) (l_a0 : n_a0 ≤ 2147483647) (h : V0 E (d + 1) qX6_splitWord 6 [some (vR 72), some (vR a0), some (vI a1), some (vI a2), some (vI 0), some (vI a2), none, none] [] τ Q) : V0 E (d + 1) qX6_splitWord 0 [some (vR 72), some (vR a0), some (vI a1), some (vI a2), none, none, none, none] [] τ Q := by
  refine u_iconst (pc' := 1) dX6_splitWord_0 rfl ?_
  refine s_istore (i := 4) (ls' := [some (vR 72), some (vR a0), some (vI a1), some (vI a2), some (vI 0), none, none, none]) (pc' := 3) dX6_splitWord_1 rfl (Nat.le_of_ble_eq_true rfl) rfl rfl ?_
  refine u_iload_n (i := 3) (pc' := 4) dX6_splitWord_3 rfl rfl rfl ?_
  refine s_istore (i := 5) (ls' := [some (vR 72), some (vR a0), some (vI a1), some (vI a2), some (vI 0), some (vI a2), none, none]) (pc' := 6) dX6_splitWord_4 rfl (Nat.le_of_ble_eq_true rfl) rfl rfl ?_
  exact u_less (ls' := [some (vR 72), some (vR a0), some (vI a1), some (vI a2), some (vI 0), some (vI a2), none, none]) ⟨rfl, ⟨rfl, ⟨rfl, ⟨rfl, ⟨rfl, ⟨rfl, trivial⟩⟩⟩⟩⟩⟩ h
theorem mX6_splitWord {E : mm_Env} {d : Nat} {τ : mm_Mem} {Q : mm_Q0} {a0 : Nat} {n_a0 : Nat} {a1 : Int} {a2 : Int} (k_a0 : KD a0 = some (.inl (.int, n_a0))) (t_a0 : 2 ≤ a0) (l_a0 : n_a0 ≤ 2147483647) (h : V0 E (d + 1) qX6_splitWord 6 [some (vR 72), some (vR a0), some (vI a1), some (vI a2), some (vI 0), some (vI a2), none, none] [] τ Q) : M0 E (d + 1) qX6_splitWord [vR 72, vR a0, vI a1, vI a2] τ Q := M0_of rfl (Nat.le_of_ble_eq_true rfl) [some (vR 72), some (vR a0), some (vI a1), some (vI a2), none, none, none, none] rfl (bX6_splitWord_0 k_a0 t_a0 l_a0 h)
set_option maxRecDepth 20000 in
theorem bX6_splitWord_6 {E : mm_Env} {d : Nat} {τ : mm_Mem} {Q : mm_Q0} {x1 : Nat} {n_x1 : Nat} {x2 : Int} {x3 : Int} {x4 : Int} {x5 : Int} (k_x1 : KD x1 = some (.inl (.int, n_x1))) (t_x1 : 2 ≤ x1) (l_x1 : n_x1 ≤ 2147483647) (h : inR x5 ∧ inR x2 ∧ ((x2 ≤ x5 → V0 E (d + 1) qX6_splitWord 63 [some (vR 72), none, none, some (vI x3), some (vI x4), some (vI x5), some (vI (-1)), some (vI 0)] [] τ Q) ∧ (¬ x2 ≤ x5 → 0 ≤ x5 ∧ x5 < n_x1 ∧ M0 E d qX6_isLetter [vI (τ x1 x5.toNat)] τ (fun v τ6 => ∃ b7 : Bool, v = some (vB b7) ∧ ((b7 = false → V0 E (d + 1) qX6_splitWord 63 [some (vR 72), none, none, some (vI x3), some (vI x4), some (vI x5), some (vI (-1)), some (vI 0)] [] τ6 Q) ∧ (b7 = true → inR (x3 + 6) ∧ ((x5 ≠ (x3 + 6) → 0 ≤ x5 ∧ x5 < n_x1 ∧ M0 E d qX6_withLetter [vI x4, vI (τ6 x1 x5.toNat)] τ6 (fun v τ12 => ∃ r13 : Int, v = some (vI r13) ∧ V0 E (d + 1) qX6_splitWord 6 [some (vR 72), some (vR x1), some (vI x2), some (vI x3), some (vI r13), some (vI (x5 + 1)), none, none] [] τ12 Q)) ∧ (x5 = (x3 + 6) → M0 E d qX6_add [vR 72, vI 1, vI x5, vI 0] τ6 (fun v τ14 => ∃ r15 : Int, v = some (vI r15) ∧ Q (some (vI r15)) τ14))))))))) : V0 E (d + 1) qX6_splitWord 6 [some (vR 72), some (vR x1), some (vI x2), some (vI x3), some (vI x4), some (vI x5), none, none] [] τ Q := by
  refine u_iload (i := 5) (pc' := 8) dX6_splitWord_6 rfl rfl ?_
  refine u_iload_n (i := 2) (pc' := 9) dX6_splitWord_8 rfl rfl rfl ?_
  obtain ⟨c1, c2, h⟩ := h
  refine u_icmp_ge (tgt := 57) (pc' := 12) dX6_splitWord_9 rfl (by decide) c1 c2 (fun hb => ?_) (fun hb => ?_)
  · have h := h.1 hb
    refine u_iconst (pc' := 58) dX6_splitWord_57 rfl ?_
    refine s_istore (i := 6) (ls' := [some (vR 72), some (vR x1), some (vI x2), some (vI x3), some (vI x4), some (vI x5), some (vI (-1)), none]) (pc' := 60) dX6_splitWord_58 rfl (Nat.le_of_ble_eq_true rfl) rfl rfl ?_
    refine u_iconst (pc' := 61) dX6_splitWord_60 rfl ?_
    refine s_istore (i := 7) (ls' := [some (vR 72), some (vR x1), some (vI x2), some (vI x3), some (vI x4), some (vI x5), some (vI (-1)), some (vI 0)]) (pc' := 63) dX6_splitWord_61 rfl (Nat.le_of_ble_eq_true rfl) rfl rfl ?_
    exact u_less (ls' := [some (vR 72), none, none, some (vI x3), some (vI x4), some (vI x5), some (vI (-1)), some (vI 0)]) ⟨rfl, ⟨rfl, ⟨rfl, ⟨rfl, ⟨rfl, ⟨rfl, trivial⟩⟩⟩⟩⟩⟩ h
  · have h := h.2 hb
    refine u_aload_n (i := 1) (pc' := 13) dX6_splitWord_12 rfl rfl rfl ?_
    refine u_iload (i := 5) (pc' := 15) dX6_splitWord_13 rfl rfl ?_
    obtain ⟨c3, c4, h⟩ := h
    refine u_iaload (k := x5.toNat) (z := (τ x1 x5.toNat)) (pc' := 16) dX6_splitWord_15 rfl t_x1 k_x1 c3 c4 l_x1 rfl rfl (fun r5 => ?_)
    refine u_invS (q' := qX6_isLetter) (As := [vI (τ x1 x5.toNat)]) (st := []) (pc' := 19) dX6_splitWord_16 rfl gX6_isLetter wm_536 wm_537 rfl (Nat.le_of_ble_eq_true rfl) (M0.mono h (fun v τ6 h => ?_))
    obtain ⟨b7, rfl, h⟩ := h
    show V0 E (d + 1) qX6_splitWord 19 [some (vR 72), some (vR x1), some (vI x2), some (vI x3), some (vI x4), some (vI x5), none, none] [vB b7] τ6 Q
    refine u_if_eq (tgt := 57) (pc' := 22) dX6_splitWord_19 rfl (by decide) (bI_R _) (fun hb => ?_) (fun hb => ?_)
    · have h := h.1 (bI_0.mp hb)
      refine u_iconst (pc' := 58) dX6_splitWord_57 rfl ?_
      refine s_istore (i := 6) (ls' := [some (vR 72), some (vR x1), some (vI x2), some (vI x3), some (vI x4), some (vI x5), some (vI (-1)), none]) (pc' := 60) dX6_splitWord_58 rfl (Nat.le_of_ble_eq_true rfl) rfl rfl ?_
      refine u_iconst (pc' := 61) dX6_splitWord_60 rfl ?_
      refine s_istore (i := 7) (ls' := [some (vR 72), some (vR x1), some (vI x2), some (vI x3), some (vI x4), some (vI x5), some (vI (-1)), some (vI 0)]) (pc' := 63) dX6_splitWord_61 rfl (Nat.le_of_ble_eq_true rfl) rfl rfl ?_
      exact u_less (ls' := [some (vR 72), none, none, some (vI x3), some (vI x4), some (vI x5), some (vI (-1)), some (vI 0)]) ⟨rfl, ⟨rfl, ⟨rfl, ⟨rfl, ⟨rfl, ⟨rfl, trivial⟩⟩⟩⟩⟩⟩ h
    · have h := h.2 (bI_n0.mp hb)
      refine u_iload (i := 5) (pc' := 24) dX6_splitWord_22 rfl rfl ?_
      refine u_iload_n (i := 3) (pc' := 25) dX6_splitWord_24 rfl rfl rfl ?_
      refine u_bipush (pc' := 27) dX6_splitWord_25 rfl (by decide) ?_
      refine u_iadd (pc' := 28) dX6_splitWord_27 rfl ?_
      obtain ⟨c8, h⟩ := h
      refine u_icmp_ne (tgt := 40) (pc' := 31) dX6_splitWord_28 rfl (by decide) c1 c8 (fun hb => ?_) (fun hb => ?_)
      · have h := h.1 hb
        refine u_iload (i := 4) (pc' := 42) dX6_splitWord_40 rfl rfl ?_
        refine u_aload_n (i := 1) (pc' := 43) dX6_splitWord_42 rfl rfl rfl ?_
        refine u_iload (i := 5) (pc' := 45) dX6_splitWord_43 rfl rfl ?_
        obtain ⟨c9, c10, h⟩ := h
        refine u_iaload (k := x5.toNat) (z := (τ6 x1 x5.toNat)) (pc' := 46) dX6_splitWord_45 rfl t_x1 k_x1 c9 c10 l_x1 rfl rfl (fun r11 => ?_)
        refine u_invS (q' := qX6_withLetter) (As := [vI x4, vI (τ6 x1 x5.toNat)]) (st := []) (pc' := 49) dX6_splitWord_46 rfl gX6_withLetter wm_300 wm_301 rfl (Nat.le_of_ble_eq_true rfl) (M0.mono h (fun v τ12 h => ?_))
        obtain ⟨r13, rfl, h⟩ := h
        show V0 E (d + 1) qX6_splitWord 49 [some (vR 72), some (vR x1), some (vI x2), some (vI x3), some (vI x4), some (vI x5), none, none] [vI r13] τ12 Q
        refine s_istore (i := 4) (ls' := [some (vR 72), some (vR x1), some (vI x2), some (vI x3), some (vI r13), some (vI x5), none, none]) (pc' := 51) dX6_splitWord_49 rfl (Nat.le_of_ble_eq_true rfl) rfl rfl ?_
        refine s_iinc (i := 5) (ls' := [some (vR 72), some (vR x1), some (vI x2), some (vI x3), some (vI r13), some (vI (x5 + 1)), none, none]) (pc' := 54) dX6_splitWord_51 rfl rfl (Nat.le_of_ble_eq_true rfl) rfl rfl ?_
        refine u_goto (tgt := 6) dX6_splitWord_54 (by decide) ?_
        exact u_less (ls' := [some (vR 72), some (vR x1), some (vI x2), some (vI x3), some (vI r13), some (vI (x5 + 1)), none, none]) ⟨rfl, ⟨rfl, ⟨rfl, ⟨rfl, ⟨rfl, ⟨rfl, trivial⟩⟩⟩⟩⟩⟩ h
      · have h := h.2 hb
        refine u_aload_n (i := 0) (pc' := 32) dX6_splitWord_31 rfl rfl rfl ?_
        refine u_iconst (pc' := 33) dX6_splitWord_32 rfl ?_
        refine u_iload (i := 5) (pc' := 35) dX6_splitWord_33 rfl rfl ?_
        refine u_iconst (pc' := 36) dX6_splitWord_35 rfl ?_
        refine u_invV (q' := qX6_add) (As := [vI 1, vI x5, vI 0]) (st := []) (pc' := 39) dX6_splitWord_36 rfl gX6_add wm_542 rfl rfl (by decide) kd_72 wm_544 wp_3 rfl (Nat.le_of_ble_eq_true rfl) (M0.mono h (fun v τ14 h => ?_))
        obtain ⟨r15, rfl, h⟩ := h
        show V0 E (d + 1) qX6_splitWord 39 [some (vR 72), some (vR x1), some (vI x2), some (vI x3), some (vI x4), some (vI x5), none, none] [vI r15] τ14 Q
        exact u_iret dX6_splitWord_39 rfl h
set_option maxRecDepth 20000 in
theorem bX6_splitWord_63 {E : mm_Env} {d : Nat} {τ : mm_Mem} {Q : mm_Q0} {x3 : Int} {x4 : Int} {x5 : Int} {x6 : Int} {x7 : Int} (h : inR x7 ∧ ((29 ≤ x7 → V0 E (d + 1) qX6_splitWord 102 [some (vR 72), none, none, some (vI x3), some (vI x4), some (vI x5), some (vI x6), none] [] τ Q) ∧ (¬ 29 ≤ x7 → inR x6 ∧ ((x6 ≠ (-1) → V0 E (d + 1) qX6_splitWord 102 [some (vR 72), none, none, some (vI x3), some (vI x4), some (vI x5), some (vI x6), none] [] τ Q) ∧ (x6 = (-1) → 0 ≤ x7 ∧ x7 < 29 ∧ inR x4 ∧ (((τ 76 x7.toNat) ≠ x4 → V0 E (d + 1) qX6_splitWord 63 [some (vR 72), none, none, some (vI x3), some (vI x4), some (vI x5), some (vI (-1)), some (vI (x7 + 1))] [] τ Q) ∧ ((τ 76 x7.toNat) = x4 → V0 E (d + 1) qX6_splitWord 63 [some (vR 72), none, none, some (vI x3), some (vI x4), some (vI x5), some (vI x7), some (vI (x7 + 1))] [] τ Q))))))) : V0 E (d + 1) qX6_splitWord 63 [some (vR 72), none, none, some (vI x3), some (vI x4), some (vI x5), some (vI x6), some (vI x7)] [] τ Q := by
  refine u_iload (i := 7) (pc' := 65) dX6_splitWord_63 rfl rfl ?_
  refine u_bipush (pc' := 67) dX6_splitWord_65 rfl (by decide) ?_
  obtain ⟨c1, h⟩ := h
  refine u_icmp_ge (tgt := 102) (pc' := 70) dX6_splitWord_67 rfl (by decide) c1 ⟨by decide, by decide⟩ (fun hb => ?_) (fun hb => ?_)
  · have h := h.1 hb
    exact u_less (ls' := [some (vR 72), none, none, some (vI x3), some (vI x4), some (vI x5), some (vI x6), none]) ⟨rfl, ⟨rfl, ⟨rfl, ⟨rfl, ⟨rfl, trivial⟩⟩⟩⟩⟩ h
  · have h := h.2 hb
    refine u_iload (i := 6) (pc' := 72) dX6_splitWord_70 rfl rfl ?_
    refine u_iconst (pc' := 73) dX6_splitWord_72 rfl ?_
    obtain ⟨c2, h⟩ := h
    refine u_icmp_ne (tgt := 102) (pc' := 76) dX6_splitWord_73 rfl (by decide) c2 ⟨by decide, by decide⟩ (fun hb => ?_) (fun hb => ?_)
    · have h := h.1 hb
      exact u_less (ls' := [some (vR 72), none, none, some (vI x3), some (vI x4), some (vI x5), some (vI x6), none]) ⟨rfl, ⟨rfl, ⟨rfl, ⟨rfl, ⟨rfl, trivial⟩⟩⟩⟩⟩ h
    · have h := h.2 hb
      refine u_aload_n (i := 0) (pc' := 77) dX6_splitWord_76 rfl rfl rfl ?_
      refine u_getR (a := 76) (pc' := 80) dX6_splitWord_77 rfl fl_TuneDoor_Tokens_21 rfl (by decide) kd_72 rfl ?_
      refine u_iload (i := 7) (pc' := 82) dX6_splitWord_80 rfl rfl ?_
      obtain ⟨c3, c4, h⟩ := h
      refine u_iaload (k := x7.toNat) (z := (τ 76 x7.toNat)) (pc' := 83) dX6_splitWord_82 rfl (by decide) kd_76 c3 c4 (by decide) rfl rfl (fun r5 => ?_)
      refine u_iload (i := 4) (pc' := 85) dX6_splitWord_83 rfl rfl ?_
      obtain ⟨c6, h⟩ := h
      refine u_icmp_ne (tgt := 93) (pc' := 88) dX6_splitWord_85 rfl (by decide) r5 c6 (fun hb => ?_) (fun hb => ?_)
      · have h := h.1 hb
        refine u_iconst (pc' := 94) dX6_splitWord_93 rfl ?_
        refine s_istore (i := 6) (ls' := [some (vR 72), none, none, some (vI x3), some (vI x4), some (vI x5), some (vI (-1)), some (vI x7)]) (pc' := 96) dX6_splitWord_94 rfl (Nat.le_of_ble_eq_true rfl) rfl rfl ?_
        refine s_iinc (i := 7) (ls' := [some (vR 72), none, none, some (vI x3), some (vI x4), some (vI x5), some (vI (-1)), some (vI (x7 + 1))]) (pc' := 99) dX6_splitWord_96 rfl rfl (Nat.le_of_ble_eq_true rfl) rfl rfl ?_
        refine u_goto (tgt := 63) dX6_splitWord_99 (by decide) ?_
        exact u_less (ls' := [some (vR 72), none, none, some (vI x3), some (vI x4), some (vI x5), some (vI (-1)), some (vI (x7 + 1))]) ⟨rfl, ⟨rfl, ⟨rfl, ⟨rfl, ⟨rfl, ⟨rfl, trivial⟩⟩⟩⟩⟩⟩ h
      · have h := h.2 hb
        refine u_iload (i := 7) (pc' := 90) dX6_splitWord_88 rfl rfl ?_
        refine u_goto (tgt := 94) dX6_splitWord_90 (by decide) ?_
        refine s_istore (i := 6) (ls' := [some (vR 72), none, none, some (vI x3), some (vI x4), some (vI x5), some (vI x7), some (vI x7)]) (pc' := 96) dX6_splitWord_94 rfl (Nat.le_of_ble_eq_true rfl) rfl rfl ?_
        refine s_iinc (i := 7) (ls' := [some (vR 72), none, none, some (vI x3), some (vI x4), some (vI x5), some (vI x7), some (vI (x7 + 1))]) (pc' := 99) dX6_splitWord_96 rfl rfl (Nat.le_of_ble_eq_true rfl) rfl rfl ?_
        refine u_goto (tgt := 63) dX6_splitWord_99 (by decide) ?_
        exact u_less (ls' := [some (vR 72), none, none, some (vI x3), some (vI x4), some (vI x5), some (vI x7), some (vI (x7 + 1))]) ⟨rfl, ⟨rfl, ⟨rfl, ⟨rfl, ⟨rfl, ⟨rfl, trivial⟩⟩⟩⟩⟩⟩ h
set_option maxRecDepth 20000 in
theorem bX6_splitWord_102 {E : mm_Env} {d : Nat} {τ : mm_Mem} {Q : mm_Q0} {x3 : Int} {x4 : Int} {x5 : Int} {x6 : Int} (h : inR x6 ∧ ((x6 ≠ (-1) → ((x6 ≠ (-1) → M0 E d qX6_add [vR 72, vI 4, vI x3, vI x6] τ (fun v τ2 => ∃ r3 : Int, v = some (vI r3) ∧ Q (some (vI x5)) τ2)) ∧ (x6 = (-1) → M0 E d qX6_add [vR 72, vI 4, vI x3, vI x4] τ (fun v τ4 => ∃ r5 : Int, v = some (vI r5) ∧ Q (some (vI x5)) τ4)))) ∧ (x6 = (-1) → ((x6 ≠ (-1) → M0 E d qX6_add [vR 72, vI 5, vI x3, vI x6] τ (fun v τ6 => ∃ r7 : Int, v = some (vI r7) ∧ Q (some (vI x5)) τ6)) ∧ (x6 = (-1) → M0 E d qX6_add [vR 72, vI 5, vI x3, vI x4] τ (fun v τ8 => ∃ r9 : Int, v = some (vI r9) ∧ Q (some (vI x5)) τ8)))))) : V0 E (d + 1) qX6_splitWord 102 [some (vR 72), none, none, some (vI x3), some (vI x4), some (vI x5), some (vI x6), none] [] τ Q := by
  refine u_aload_n (i := 0) (pc' := 103) dX6_splitWord_102 rfl rfl rfl ?_
  refine u_iload (i := 6) (pc' := 105) dX6_splitWord_103 rfl rfl ?_
  refine u_iconst (pc' := 106) dX6_splitWord_105 rfl ?_
  obtain ⟨c1, h⟩ := h
  refine u_icmp_ne (tgt := 113) (pc' := 109) dX6_splitWord_106 rfl (by decide) c1 ⟨by decide, by decide⟩ (fun hb => ?_) (fun hb => ?_)
  · have h := h.1 hb
    refine u_iconst (pc' := 114) dX6_splitWord_113 rfl ?_
    refine u_iload_n (i := 3) (pc' := 115) dX6_splitWord_114 rfl rfl rfl ?_
    refine u_iload (i := 6) (pc' := 117) dX6_splitWord_115 rfl rfl ?_
    refine u_iconst (pc' := 118) dX6_splitWord_117 rfl ?_
    refine u_icmp_ne (tgt := 126) (pc' := 121) dX6_splitWord_118 rfl (by decide) c1 ⟨by decide, by decide⟩ (fun hb => ?_) (fun hb => ?_)
    · have h := h.1 hb
      refine u_iload (i := 6) (pc' := 128) dX6_splitWord_126 rfl rfl ?_
      refine u_invV (q' := qX6_add) (As := [vI 4, vI x3, vI x6]) (st := []) (pc' := 131) dX6_splitWord_128 rfl gX6_add wm_542 rfl rfl (by decide) kd_72 wm_544 wp_3 rfl (Nat.le_of_ble_eq_true rfl) (M0.mono h (fun v τ2 h => ?_))
      obtain ⟨r3, rfl, h⟩ := h
      show V0 E (d + 1) qX6_splitWord 131 [some (vR 72), none, none, some (vI x3), some (vI x4), some (vI x5), some (vI x6), none] [vI r3] τ2 Q
      refine u_pop (pc' := 132) dX6_splitWord_131 rfl (fun _ hh => by cases hh) ?_
      refine u_iload (i := 5) (pc' := 134) dX6_splitWord_132 rfl rfl ?_
      exact u_iret dX6_splitWord_134 rfl h
    · have h := h.2 hb
      refine u_iload (i := 4) (pc' := 123) dX6_splitWord_121 rfl rfl ?_
      refine u_goto (tgt := 128) dX6_splitWord_123 (by decide) ?_
      refine u_invV (q' := qX6_add) (As := [vI 4, vI x3, vI x4]) (st := []) (pc' := 131) dX6_splitWord_128 rfl gX6_add wm_542 rfl rfl (by decide) kd_72 wm_544 wp_3 rfl (Nat.le_of_ble_eq_true rfl) (M0.mono h (fun v τ4 h => ?_))
      obtain ⟨r5, rfl, h⟩ := h
      show V0 E (d + 1) qX6_splitWord 131 [some (vR 72), none, none, some (vI x3), some (vI x4), some (vI x5), some (vI x6), none] [vI r5] τ4 Q
      refine u_pop (pc' := 132) dX6_splitWord_131 rfl (fun _ hh => by cases hh) ?_
      refine u_iload (i := 5) (pc' := 134) dX6_splitWord_132 rfl rfl ?_
      exact u_iret dX6_splitWord_134 rfl h
  · have h := h.2 hb
    refine u_iconst (pc' := 110) dX6_splitWord_109 rfl ?_
    refine u_goto (tgt := 114) dX6_splitWord_110 (by decide) ?_
    refine u_iload_n (i := 3) (pc' := 115) dX6_splitWord_114 rfl rfl rfl ?_
    refine u_iload (i := 6) (pc' := 117) dX6_splitWord_115 rfl rfl ?_
    refine u_iconst (pc' := 118) dX6_splitWord_117 rfl ?_
    refine u_icmp_ne (tgt := 126) (pc' := 121) dX6_splitWord_118 rfl (by decide) c1 ⟨by decide, by decide⟩ (fun hb => ?_) (fun hb => ?_)
    · have h := h.1 hb
      refine u_iload (i := 6) (pc' := 128) dX6_splitWord_126 rfl rfl ?_
      refine u_invV (q' := qX6_add) (As := [vI 5, vI x3, vI x6]) (st := []) (pc' := 131) dX6_splitWord_128 rfl gX6_add wm_542 rfl rfl (by decide) kd_72 wm_544 wp_3 rfl (Nat.le_of_ble_eq_true rfl) (M0.mono h (fun v τ6 h => ?_))
      obtain ⟨r7, rfl, h⟩ := h
      show V0 E (d + 1) qX6_splitWord 131 [some (vR 72), none, none, some (vI x3), some (vI x4), some (vI x5), some (vI x6), none] [vI r7] τ6 Q
      refine u_pop (pc' := 132) dX6_splitWord_131 rfl (fun _ hh => by cases hh) ?_
      refine u_iload (i := 5) (pc' := 134) dX6_splitWord_132 rfl rfl ?_
      exact u_iret dX6_splitWord_134 rfl h
    · have h := h.2 hb
      refine u_iload (i := 4) (pc' := 123) dX6_splitWord_121 rfl rfl ?_
      refine u_goto (tgt := 128) dX6_splitWord_123 (by decide) ?_
      refine u_invV (q' := qX6_add) (As := [vI 5, vI x3, vI x4]) (st := []) (pc' := 131) dX6_splitWord_128 rfl gX6_add wm_542 rfl rfl (by decide) kd_72 wm_544 wp_3 rfl (Nat.le_of_ble_eq_true rfl) (M0.mono h (fun v τ8 h => ?_))
      obtain ⟨r9, rfl, h⟩ := h
      show V0 E (d + 1) qX6_splitWord 131 [some (vR 72), none, none, some (vI x3), some (vI x4), some (vI x5), some (vI x6), none] [vI r9] τ8 Q
      refine u_pop (pc' := 132) dX6_splitWord_131 rfl (fun _ hh => by cases hh) ?_
      refine u_iload (i := 5) (pc' := 134) dX6_splitWord_132 rfl rfl ?_
      exact u_iret dX6_splitWord_134 rfl h
set_option maxRecDepth 20000 in
theorem bX6_splitNumber_0 {E : mm_Env} {d : Nat} {τ : mm_Mem} {Q : mm_Q0} {a0 : Nat} {n_a0 : Nat} {a1 : Int} {a2 : Int} (k_a0 : KD a0 = some (.inl (.int, n_a0))) (t_a0 : 2 ≤ a0) (l_a0 : n_a0 ≤ 2147483647) (h : V0 E (d + 1) qX6_splitNumber 6 [some (vR 72), some (vR a0), some (vI a1), some (vI a2), some (vI 0), some (vI a2)] [] τ Q) : V0 E (d + 1) qX6_splitNumber 0 [some (vR 72), some (vR a0), some (vI a1), some (vI a2), none, none] [] τ Q := by
  refine u_iconst (pc' := 1) dX6_splitNumber_0 rfl ?_
  refine s_istore (i := 4) (ls' := [some (vR 72), some (vR a0), some (vI a1), some (vI a2), some (vI 0), none]) (pc' := 3) dX6_splitNumber_1 rfl (Nat.le_of_ble_eq_true rfl) rfl rfl ?_
  refine u_iload_n (i := 3) (pc' := 4) dX6_splitNumber_3 rfl rfl rfl ?_
  refine s_istore (i := 5) (ls' := [some (vR 72), some (vR a0), some (vI a1), some (vI a2), some (vI 0), some (vI a2)]) (pc' := 6) dX6_splitNumber_4 rfl (Nat.le_of_ble_eq_true rfl) rfl rfl ?_
  exact u_less (ls' := [some (vR 72), some (vR a0), some (vI a1), some (vI a2), some (vI 0), some (vI a2)]) ⟨rfl, ⟨rfl, ⟨rfl, ⟨rfl, ⟨rfl, ⟨rfl, trivial⟩⟩⟩⟩⟩⟩ h
theorem mX6_splitNumber {E : mm_Env} {d : Nat} {τ : mm_Mem} {Q : mm_Q0} {a0 : Nat} {n_a0 : Nat} {a1 : Int} {a2 : Int} (k_a0 : KD a0 = some (.inl (.int, n_a0))) (t_a0 : 2 ≤ a0) (l_a0 : n_a0 ≤ 2147483647) (h : V0 E (d + 1) qX6_splitNumber 6 [some (vR 72), some (vR a0), some (vI a1), some (vI a2), some (vI 0), some (vI a2)] [] τ Q) : M0 E (d + 1) qX6_splitNumber [vR 72, vR a0, vI a1, vI a2] τ Q := M0_of rfl (Nat.le_of_ble_eq_true rfl) [some (vR 72), some (vR a0), some (vI a1), some (vI a2), none, none] rfl (bX6_splitNumber_0 k_a0 t_a0 l_a0 h)
set_option maxRecDepth 20000 in
theorem bX6_splitNumber_6 {E : mm_Env} {d : Nat} {τ : mm_Mem} {Q : mm_Q0} {x1 : Nat} {n_x1 : Nat} {x2 : Int} {x3 : Int} {x4 : Int} {x5 : Int} (k_x1 : KD x1 = some (.inl (.int, n_x1))) (t_x1 : 2 ≤ x1) (l_x1 : n_x1 ≤ 2147483647) (h : inR x5 ∧ inR x2 ∧ ((x2 ≤ x5 → M0 E d qX6_add [vR 72, vI 3, vI x3, vI x4] τ (fun v τ3 => ∃ r4 : Int, v = some (vI r4) ∧ Q (some (vI x5)) τ3)) ∧ (¬ x2 ≤ x5 → 0 ≤ x5 ∧ x5 < n_x1 ∧ M0 E d qX6_isDigit [vI (τ x1 x5.toNat)] τ (fun v τ8 => ∃ b9 : Bool, v = some (vB b9) ∧ ((b9 = false → M0 E d qX6_add [vR 72, vI 3, vI x3, vI x4] τ8 (fun v τ10 => ∃ r11 : Int, v = some (vI r11) ∧ Q (some (vI x5)) τ10)) ∧ (b9 = true → inR (x3 + 4) ∧ ((x5 ≠ (x3 + 4) → 0 ≤ x5 ∧ x5 < n_x1 ∧ V0 E (d + 1) qX6_splitNumber 6 [some (vR 72), some (vR x1), some (vI x2), some (vI x3), some (vI (((10 * x4) + (τ8 x1 x5.toNat)) - 48)), some (vI (x5 + 1))] [] τ8 Q) ∧ (x5 = (x3 + 4) → M0 E d qX6_add [vR 72, vI 1, vI x5, vI 0] τ8 (fun v τ16 => ∃ r17 : Int, v = some (vI r17) ∧ Q (some (vI r17)) τ16))))))))) : V0 E (d + 1) qX6_splitNumber 6 [some (vR 72), some (vR x1), some (vI x2), some (vI x3), some (vI x4), some (vI x5)] [] τ Q := by
  refine u_iload (i := 5) (pc' := 8) dX6_splitNumber_6 rfl rfl ?_
  refine u_iload_n (i := 2) (pc' := 9) dX6_splitNumber_8 rfl rfl rfl ?_
  obtain ⟨c1, c2, h⟩ := h
  refine u_icmp_ge (tgt := 60) (pc' := 12) dX6_splitNumber_9 rfl (by decide) c1 c2 (fun hb => ?_) (fun hb => ?_)
  · have h := h.1 hb
    refine u_aload_n (i := 0) (pc' := 61) dX6_splitNumber_60 rfl rfl rfl ?_
    refine u_iconst (pc' := 62) dX6_splitNumber_61 rfl ?_
    refine u_iload_n (i := 3) (pc' := 63) dX6_splitNumber_62 rfl rfl rfl ?_
    refine u_iload (i := 4) (pc' := 65) dX6_splitNumber_63 rfl rfl ?_
    refine u_invV (q' := qX6_add) (As := [vI 3, vI x3, vI x4]) (st := []) (pc' := 68) dX6_splitNumber_65 rfl gX6_add wm_542 rfl rfl (by decide) kd_72 wm_544 wp_3 rfl (Nat.le_of_ble_eq_true rfl) (M0.mono h (fun v τ3 h => ?_))
    obtain ⟨r4, rfl, h⟩ := h
    show V0 E (d + 1) qX6_splitNumber 68 [some (vR 72), some (vR x1), some (vI x2), some (vI x3), some (vI x4), some (vI x5)] [vI r4] τ3 Q
    refine u_pop (pc' := 69) dX6_splitNumber_68 rfl (fun _ hh => by cases hh) ?_
    refine u_iload (i := 5) (pc' := 71) dX6_splitNumber_69 rfl rfl ?_
    exact u_iret dX6_splitNumber_71 rfl h
  · have h := h.2 hb
    refine u_aload_n (i := 1) (pc' := 13) dX6_splitNumber_12 rfl rfl rfl ?_
    refine u_iload (i := 5) (pc' := 15) dX6_splitNumber_13 rfl rfl ?_
    obtain ⟨c5, c6, h⟩ := h
    refine u_iaload (k := x5.toNat) (z := (τ x1 x5.toNat)) (pc' := 16) dX6_splitNumber_15 rfl t_x1 k_x1 c5 c6 l_x1 rfl rfl (fun r7 => ?_)
    refine u_invS (q' := qX6_isDigit) (As := [vI (τ x1 x5.toNat)]) (st := []) (pc' := 19) dX6_splitNumber_16 rfl gX6_isDigit wm_539 wm_540 rfl (Nat.le_of_ble_eq_true rfl) (M0.mono h (fun v τ8 h => ?_))
    obtain ⟨b9, rfl, h⟩ := h
    show V0 E (d + 1) qX6_splitNumber 19 [some (vR 72), some (vR x1), some (vI x2), some (vI x3), some (vI x4), some (vI x5)] [vB b9] τ8 Q
    refine u_if_eq (tgt := 60) (pc' := 22) dX6_splitNumber_19 rfl (by decide) (bI_R _) (fun hb => ?_) (fun hb => ?_)
    · have h := h.1 (bI_0.mp hb)
      refine u_aload_n (i := 0) (pc' := 61) dX6_splitNumber_60 rfl rfl rfl ?_
      refine u_iconst (pc' := 62) dX6_splitNumber_61 rfl ?_
      refine u_iload_n (i := 3) (pc' := 63) dX6_splitNumber_62 rfl rfl rfl ?_
      refine u_iload (i := 4) (pc' := 65) dX6_splitNumber_63 rfl rfl ?_
      refine u_invV (q' := qX6_add) (As := [vI 3, vI x3, vI x4]) (st := []) (pc' := 68) dX6_splitNumber_65 rfl gX6_add wm_542 rfl rfl (by decide) kd_72 wm_544 wp_3 rfl (Nat.le_of_ble_eq_true rfl) (M0.mono h (fun v τ10 h => ?_))
      obtain ⟨r11, rfl, h⟩ := h
      show V0 E (d + 1) qX6_splitNumber 68 [some (vR 72), some (vR x1), some (vI x2), some (vI x3), some (vI x4), some (vI x5)] [vI r11] τ10 Q
      refine u_pop (pc' := 69) dX6_splitNumber_68 rfl (fun _ hh => by cases hh) ?_
      refine u_iload (i := 5) (pc' := 71) dX6_splitNumber_69 rfl rfl ?_
      exact u_iret dX6_splitNumber_71 rfl h
    · have h := h.2 (bI_n0.mp hb)
      refine u_iload (i := 5) (pc' := 24) dX6_splitNumber_22 rfl rfl ?_
      refine u_iload_n (i := 3) (pc' := 25) dX6_splitNumber_24 rfl rfl rfl ?_
      refine u_iconst (pc' := 26) dX6_splitNumber_25 rfl ?_
      refine u_iadd (pc' := 27) dX6_splitNumber_26 rfl ?_
      obtain ⟨c12, h⟩ := h
      refine u_icmp_ne (tgt := 39) (pc' := 30) dX6_splitNumber_27 rfl (by decide) c1 c12 (fun hb => ?_) (fun hb => ?_)
      · have h := h.1 hb
        refine u_bipush (pc' := 41) dX6_splitNumber_39 rfl (by decide) ?_
        refine u_iload (i := 4) (pc' := 43) dX6_splitNumber_41 rfl rfl ?_
        refine u_imul (pc' := 44) dX6_splitNumber_43 rfl ?_
        refine u_aload_n (i := 1) (pc' := 45) dX6_splitNumber_44 rfl rfl rfl ?_
        refine u_iload (i := 5) (pc' := 47) dX6_splitNumber_45 rfl rfl ?_
        obtain ⟨c13, c14, h⟩ := h
        refine u_iaload (k := x5.toNat) (z := (τ8 x1 x5.toNat)) (pc' := 48) dX6_splitNumber_47 rfl t_x1 k_x1 c13 c14 l_x1 rfl rfl (fun r15 => ?_)
        refine u_iadd (pc' := 49) dX6_splitNumber_48 rfl ?_
        refine u_bipush (pc' := 51) dX6_splitNumber_49 rfl (by decide) ?_
        refine u_isub (pc' := 52) dX6_splitNumber_51 rfl ?_
        refine s_istore (i := 4) (ls' := [some (vR 72), some (vR x1), some (vI x2), some (vI x3), some (vI (((10 * x4) + (τ8 x1 x5.toNat)) - 48)), some (vI x5)]) (pc' := 54) dX6_splitNumber_52 rfl (Nat.le_of_ble_eq_true rfl) rfl rfl ?_
        refine s_iinc (i := 5) (ls' := [some (vR 72), some (vR x1), some (vI x2), some (vI x3), some (vI (((10 * x4) + (τ8 x1 x5.toNat)) - 48)), some (vI (x5 + 1))]) (pc' := 57) dX6_splitNumber_54 rfl rfl (Nat.le_of_ble_eq_true rfl) rfl rfl ?_
        refine u_goto (tgt := 6) dX6_splitNumber_57 (by decide) ?_
        exact u_less (ls' := [some (vR 72), some (vR x1), some (vI x2), some (vI x3), some (vI (((10 * x4) + (τ8 x1 x5.toNat)) - 48)), some (vI (x5 + 1))]) ⟨rfl, ⟨rfl, ⟨rfl, ⟨rfl, ⟨rfl, ⟨rfl, trivial⟩⟩⟩⟩⟩⟩ h
      · have h := h.2 hb
        refine u_aload_n (i := 0) (pc' := 31) dX6_splitNumber_30 rfl rfl rfl ?_
        refine u_iconst (pc' := 32) dX6_splitNumber_31 rfl ?_
        refine u_iload (i := 5) (pc' := 34) dX6_splitNumber_32 rfl rfl ?_
        refine u_iconst (pc' := 35) dX6_splitNumber_34 rfl ?_
        refine u_invV (q' := qX6_add) (As := [vI 1, vI x5, vI 0]) (st := []) (pc' := 38) dX6_splitNumber_35 rfl gX6_add wm_542 rfl rfl (by decide) kd_72 wm_544 wp_3 rfl (Nat.le_of_ble_eq_true rfl) (M0.mono h (fun v τ16 h => ?_))
        obtain ⟨r17, rfl, h⟩ := h
        show V0 E (d + 1) qX6_splitNumber 38 [some (vR 72), some (vR x1), some (vI x2), some (vI x3), some (vI x4), some (vI x5)] [vI r17] τ16 Q
        exact u_iret dX6_splitNumber_38 rfl h
