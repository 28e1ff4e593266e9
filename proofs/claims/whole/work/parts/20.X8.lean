set_option maxRecDepth 20000 in
theorem bX8_weigh_0 {E : mm_Env} {d : Nat} {τ : mm_Mem} {Q : mm_Q0} {a0 : Nat} {a1 : Nat} {a2 : Int} {a3 : Bool} (k_a0 : KD a0 = some (.inr 3)) (k_a1 : KD a1 = some (.inr 0)) (h : M0 E d qJ9_min_7cf53 [vI a2, vI 8] (wr τ 95 2 (a0 : Int)) (fun v τ1 => ∃ r2 : Int, v = some (vI r2) ∧ inR r2 ∧ M0 E d qX0_copyFrom [vR 97, vR a1] (wr (wr τ1 95 3 r2) 95 4 (bI a3)) (fun v τ5 => v = none ∧ M0 E d qX8_walk [vR 95, vI 0, vI (τ5 a0 5), vL 1000000000, vB false] τ5 (fun v τ7 => ∃ r8 : Int, v = some (vL r8) ∧ Q (some (vL r8)) τ7)))) : V0 E (d + 1) qX8_weigh 0 [some (vR 95), some (vR a0), some (vR a1), some (vI a2), some (vB a3)] [] τ Q := by
  refine u_aload_n (i := 0) (pc' := 1) dX8_weigh_0 rfl rfl rfl ?_
  refine u_aload_n (i := 1) (pc' := 2) dX8_weigh_1 rfl rfl rfl ?_
  refine u_putR (pc' := 5) dX8_weigh_2 rfl fl_TuneDoor_Ways_22 rfl rfl rfl (by decide) kd_95 ?_
  refine u_aload_n (i := 0) (pc' := 6) dX8_weigh_5 rfl rfl rfl ?_
  refine u_iload_n (i := 3) (pc' := 7) dX8_weigh_6 rfl rfl rfl ?_
  refine u_bipush (pc' := 9) dX8_weigh_7 rfl (by decide) ?_
  refine u_invS (q' := qJ9_min_7cf53) (As := [vI a2, vI 8]) (st := [vR 95]) (pc' := 12) dX8_weigh_9 rfl gJ9_min_7cf53 wm_998 wm_530 rfl (Nat.le_of_ble_eq_true rfl) (M0.mono h (fun v τ1 h => ?_))
  obtain ⟨r2, rfl, h⟩ := h
  show V0 E (d + 1) qX8_weigh 12 [some (vR 95), some (vR a0), some (vR a1), some (vI a2), some (vB a3)] [vI r2, vR 95] τ1 Q
  obtain ⟨c3, h⟩ := h
  refine u_putI (pc' := 15) dX8_weigh_12 rfl fl_TuneDoor_Ways_32 rfl rfl (by decide) (by decide) kd_95 c3 ?_
  refine u_aload_n (i := 0) (pc' := 16) dX8_weigh_15 rfl rfl rfl ?_
  refine u_iload (i := 4) (pc' := 18) dX8_weigh_16 rfl rfl ?_
  refine u_putZ (b := a3) (pc' := 21) dX8_weigh_18 rfl fl_TuneDoor_Ways_36 rfl rfl (by decide) (by decide) kd_95 rfl ?_
  refine u_aload_n (i := 0) (pc' := 22) dX8_weigh_21 rfl rfl rfl ?_
  refine u_getR (a := 96) (pc' := 25) dX8_weigh_22 rfl fl_TuneDoor_Ways_11 rfl (by decide) kd_95 rfl ?_
  refine u_iconst (pc' := 26) dX8_weigh_25 rfl ?_
  refine u_aaload_D (k := 0) (a := 97) (pc' := 27) dX8_weigh_26 rfl (by decide) kd_96 (by decide) (by decide) (by decide) rfl rfl ?_
  refine u_aload_n (i := 2) (pc' := 28) dX8_weigh_27 rfl rfl rfl ?_
  refine u_invV (q' := qX0_copyFrom) (As := [vR a1]) (st := []) (pc' := 31) dX8_weigh_28 rfl gX0_copyFrom wm_999 rfl rfl (by decide) kd_97 wm_974 wm_975 rfl (Nat.le_of_ble_eq_true rfl) (M0.mono h (fun v τ5 h => ?_))
  obtain ⟨rfl, h⟩ := h
  show V0 E (d + 1) qX8_weigh 31 [some (vR 95), some (vR a0), some (vR a1), some (vI a2), some (vB a3)] [] τ5 Q
  refine u_aload_n (i := 0) (pc' := 32) dX8_weigh_31 rfl rfl rfl ?_
  refine u_iconst (pc' := 33) dX8_weigh_32 rfl ?_
  refine u_aload_n (i := 1) (pc' := 34) dX8_weigh_33 rfl rfl rfl ?_
  refine u_getI (z := (τ5 a0 5)) (pc' := 37) dX8_weigh_34 rfl fl_TuneDoor_Ways_44 rfl (by decide) (kPerson k_a0) k_a0 rfl (fun r6 => ?_)
  refine u_ldc2 (z := 1000000000) (pc' := 40) dX8_weigh_37 rfl wm_1000 (by decide) ?_
  refine u_iconst (pc' := 41) dX8_weigh_40 rfl ?_
  refine u_invV (q' := qX8_walk) (As := [vI 0, vI (τ5 a0 5), vL 1000000000, vB false]) (st := []) (pc' := 44) dX8_weigh_41 rfl gX8_walk wm_1001 rfl rfl (by decide) kd_95 wm_1003 wp_53 rfl (Nat.le_of_ble_eq_true rfl) (M0.mono h (fun v τ7 h => ?_))
  obtain ⟨r8, rfl, h⟩ := h
  show V0 E (d + 1) qX8_weigh 44 [some (vR 95), some (vR a0), some (vR a1), some (vI a2), some (vB a3)] [vL r8] τ7 Q
  exact u_lret dX8_weigh_44 rfl h
theorem mX8_weigh {E : mm_Env} {d : Nat} {τ : mm_Mem} {Q : mm_Q0} {a0 : Nat} {a1 : Nat} {a2 : Int} {a3 : Bool} (k_a0 : KD a0 = some (.inr 3)) (k_a1 : KD a1 = some (.inr 0)) (h : M0 E d qJ9_min_7cf53 [vI a2, vI 8] (wr τ 95 2 (a0 : Int)) (fun v τ1 => ∃ r2 : Int, v = some (vI r2) ∧ inR r2 ∧ M0 E d qX0_copyFrom [vR 97, vR a1] (wr (wr τ1 95 3 r2) 95 4 (bI a3)) (fun v τ5 => v = none ∧ M0 E d qX8_walk [vR 95, vI 0, vI (τ5 a0 5), vL 1000000000, vB false] τ5 (fun v τ7 => ∃ r8 : Int, v = some (vL r8) ∧ Q (some (vL r8)) τ7)))) : M0 E (d + 1) qX8_weigh [vR 95, vR a0, vR a1, vI a2, vB a3] τ Q := M0_of rfl (Nat.le_of_ble_eq_true rfl) [some (vR 95), some (vR a0), some (vR a1), some (vI a2), some (vB a3)] rfl (bX8_weigh_0 k_a0 k_a1 h)
set_option maxRecDepth 20000 in
theorem bX8_walk_0 {E : mm_Env} {d : Nat} {τ : mm_Mem} {Q : mm_Q0} {a0 : Int} {a1 : Int} {a2 : Int} {a3 : Bool} (h : inR a0 ∧ (((τ 95 3) ≤ a0 → (((bI a3) ≠ (τ 95 4) → Q (some (vL 0)) τ) ∧ ((bI a3) = (τ 95 4) → Q (some (vL a2)) τ))) ∧ (¬ (τ 95 3) ≤ a0 → ((a0 < 8 → V0 E (d + 1) qX8_walk 35 [some (vR 95), some (vI a0), some (vI a1), some (vL a2), none, some (vB a3), some (vL 0), none, some (vI 0), none, none, none, none, none] [] τ Q) ∧ (¬ a0 < 8 → (((bI a3) ≠ (τ 95 4) → Q (some (vL 0)) τ) ∧ ((bI a3) = (τ 95 4) → Q (some (vL a2)) τ))))))) : V0 E (d + 1) qX8_walk 0 [some (vR 95), some (vI a0), some (vI a1), some (vL a2), none, some (vB a3), none, none, none, none, none, none, none, none] [] τ Q := by
  refine u_iload_n (i := 1) (pc' := 1) dX8_walk_0 rfl rfl rfl ?_
  refine u_aload_n (i := 0) (pc' := 2) dX8_walk_1 rfl rfl rfl ?_
  refine u_getI (z := (τ 95 3)) (pc' := 5) dX8_walk_2 rfl fl_TuneDoor_Ways_32 rfl (by decide) (by decide) kd_95 rfl (fun r1 => ?_)
  obtain ⟨c2, h⟩ := h
  refine u_icmp_ge (tgt := 14) (pc' := 8) dX8_walk_5 rfl (by decide) c2 r1 (fun hb => ?_) (fun hb => ?_)
  · have h := h.1 hb
    refine u_iload (i := 5) (pc' := 16) dX8_walk_14 rfl rfl ?_
    refine u_aload_n (i := 0) (pc' := 17) dX8_walk_16 rfl rfl rfl ?_
    refine u_getI (z := (τ 95 4)) (pc' := 20) dX8_walk_17 rfl fl_TuneDoor_Ways_36 rfl (by decide) (by decide) kd_95 rfl (fun r3 => ?_)
    refine u_icmp_ne (tgt := 27) (pc' := 23) dX8_walk_20 rfl (by decide) (bI_R _) r3 (fun hb => ?_) (fun hb => ?_)
    · have h := h.1 hb
      refine u_lconst (z := 0) (pc' := 28) dX8_walk_27 rfl (by decide) ?_
      exact u_lret dX8_walk_28 rfl h
    · have h := h.2 hb
      refine u_lload_n (i := 3) (pc' := 24) dX8_walk_23 rfl rfl rfl ?_
      refine u_goto (tgt := 28) dX8_walk_24 (by decide) ?_
      exact u_lret dX8_walk_28 rfl h
  · have h := h.2 hb
    refine u_iload_n (i := 1) (pc' := 9) dX8_walk_8 rfl rfl rfl ?_
    refine u_bipush (pc' := 11) dX8_walk_9 rfl (by decide) ?_
    refine u_icmp_lt (tgt := 29) (pc' := 14) dX8_walk_11 rfl (by decide) c2 ⟨by decide, by decide⟩ (fun hb => ?_) (fun hb => ?_)
    · have h := h.1 hb
      refine u_lconst (z := 0) (pc' := 30) dX8_walk_29 rfl (by decide) ?_
      refine s_lstore (i := 6) (ls' := [some (vR 95), some (vI a0), some (vI a1), some (vL a2), none, some (vB a3), some (vL 0), none, none, none, none, none, none, none]) (pc' := 32) dX8_walk_30 rfl (Nat.le_of_ble_eq_true rfl) rfl rfl ?_
      refine u_iconst (pc' := 33) dX8_walk_32 rfl ?_
      refine s_istore (i := 8) (ls' := [some (vR 95), some (vI a0), some (vI a1), some (vL a2), none, some (vB a3), some (vL 0), none, some (vI 0), none, none, none, none, none]) (pc' := 35) dX8_walk_33 rfl (Nat.le_of_ble_eq_true rfl) rfl rfl ?_
      exact u_less (ls' := [some (vR 95), some (vI a0), some (vI a1), some (vL a2), none, some (vB a3), some (vL 0), none, some (vI 0), none, none, none, none, none]) ⟨rfl, ⟨rfl, ⟨rfl, ⟨rfl, ⟨rfl, ⟨rfl, ⟨rfl, trivial⟩⟩⟩⟩⟩⟩⟩ h
    · have h := h.2 hb
      refine u_iload (i := 5) (pc' := 16) dX8_walk_14 rfl rfl ?_
      refine u_aload_n (i := 0) (pc' := 17) dX8_walk_16 rfl rfl rfl ?_
      refine u_getI (z := (τ 95 4)) (pc' := 20) dX8_walk_17 rfl fl_TuneDoor_Ways_36 rfl (by decide) (by decide) kd_95 rfl (fun r4 => ?_)
      refine u_icmp_ne (tgt := 27) (pc' := 23) dX8_walk_20 rfl (by decide) (bI_R _) r4 (fun hb => ?_) (fun hb => ?_)
      · have h := h.1 hb
        refine u_lconst (z := 0) (pc' := 28) dX8_walk_27 rfl (by decide) ?_
        exact u_lret dX8_walk_28 rfl h
      · have h := h.2 hb
        refine u_lload_n (i := 3) (pc' := 24) dX8_walk_23 rfl rfl rfl ?_
        refine u_goto (tgt := 28) dX8_walk_24 (by decide) ?_
        exact u_lret dX8_walk_28 rfl h
theorem mX8_walk {E : mm_Env} {d : Nat} {τ : mm_Mem} {Q : mm_Q0} {a0 : Int} {a1 : Int} {a2 : Int} {a3 : Bool} (h : inR a0 ∧ (((τ 95 3) ≤ a0 → (((bI a3) ≠ (τ 95 4) → Q (some (vL 0)) τ) ∧ ((bI a3) = (τ 95 4) → Q (some (vL a2)) τ))) ∧ (¬ (τ 95 3) ≤ a0 → ((a0 < 8 → V0 E (d + 1) qX8_walk 35 [some (vR 95), some (vI a0), some (vI a1), some (vL a2), none, some (vB a3), some (vL 0), none, some (vI 0), none, none, none, none, none] [] τ Q) ∧ (¬ a0 < 8 → (((bI a3) ≠ (τ 95 4) → Q (some (vL 0)) τ) ∧ ((bI a3) = (τ 95 4) → Q (some (vL a2)) τ))))))) : M0 E (d + 1) qX8_walk [vR 95, vI a0, vI a1, vL a2, vB a3] τ Q := M0_of rfl (Nat.le_of_ble_eq_true rfl) [some (vR 95), some (vI a0), some (vI a1), some (vL a2), none, some (vB a3), none, none, none, none, none, none, none, none] rfl (bX8_walk_0  h)
set_option maxRecDepth 20000 in
theorem bX8_walk_35 {E : mm_Env} {d : Nat} {τ : mm_Mem} {Q : mm_Q0} {x1 : Int} {x2 : Int} {x3 : Int} {x5 : Bool} {x6 : Int} {x8 : Int} (h : inR x8 ∧ ((2 ≤ x8 → Q (some (vL x6)) τ) ∧ (¬ 2 ≤ x8 → ((x8 ≠ 1 → ∃ o2 : Nat, (τ 95 2) = (o2 : Int) ∧ KD o2 = some (.inr 3) ∧ V0 E (d + 1) qX8_walk 68 [some (vR 95), some (vI x1), some (vI x2), some (vL x3), none, some (vB x5), some (vL x6), none, some (vI x8), none, none, none, none, none] [vI (100 - (τ o2 3)), vL x3] τ Q) ∧ (x8 = 1 → ∃ o6 : Nat, (τ 95 2) = (o6 : Int) ∧ KD o6 = some (.inr 3) ∧ V0 E (d + 1) qX8_walk 68 [some (vR 95), some (vI x1), some (vI x2), some (vL x3), none, some (vB x5), some (vL x6), none, some (vI x8), none, none, none, none, none] [vI (τ o6 3), vL x3] τ Q))))) : V0 E (d + 1) qX8_walk 35 [some (vR 95), some (vI x1), some (vI x2), some (vL x3), none, some (vB x5), some (vL x6), none, some (vI x8), none, none, none, none, none] [] τ Q := by
  refine u_iload (i := 8) (pc' := 37) dX8_walk_35 rfl rfl ?_
  refine u_iconst (pc' := 38) dX8_walk_37 rfl ?_
  obtain ⟨c1, h⟩ := h
  refine u_icmp_ge (tgt := 206) (pc' := 41) dX8_walk_38 rfl (by decide) c1 ⟨by decide, by decide⟩ (fun hb => ?_) (fun hb => ?_)
  · have h := h.1 hb
    refine u_lload (i := 6) (pc' := 208) dX8_walk_206 rfl rfl ?_
    exact u_lret dX8_walk_208 rfl h
  · have h := h.2 hb
    refine u_lload_n (i := 3) (pc' := 42) dX8_walk_41 rfl rfl rfl ?_
    refine u_iload (i := 8) (pc' := 44) dX8_walk_42 rfl rfl ?_
    refine u_iconst (pc' := 45) dX8_walk_44 rfl ?_
    refine u_icmp_ne (tgt := 58) (pc' := 48) dX8_walk_45 rfl (by decide) c1 ⟨by decide, by decide⟩ (fun hb => ?_) (fun hb => ?_)
    · have h := h.1 hb
      refine u_bipush (pc' := 60) dX8_walk_58 rfl (by decide) ?_
      refine u_aload_n (i := 0) (pc' := 61) dX8_walk_60 rfl rfl rfl ?_
      obtain ⟨o2, z3, k4, h⟩ := h
      refine u_getD (a := o2) (pc' := 64) dX8_walk_61 rfl fl_TuneDoor_Ways_22 rfl (by decide) kd_95 rfl (z3) ?_
      refine u_getI (z := (τ o2 3)) (pc' := 67) dX8_walk_64 rfl fl_TuneDoor_Ways_55 rfl (by decide) (kPerson k4) k4 rfl (fun r5 => ?_)
      refine u_isub (pc' := 68) dX8_walk_67 rfl ?_
      exact u_less (ls' := [some (vR 95), some (vI x1), some (vI x2), some (vL x3), none, some (vB x5), some (vL x6), none, some (vI x8), none, none, none, none, none]) ⟨rfl, ⟨rfl, ⟨rfl, ⟨rfl, ⟨rfl, ⟨rfl, ⟨rfl, trivial⟩⟩⟩⟩⟩⟩⟩ h
    · have h := h.2 hb
      refine u_aload_n (i := 0) (pc' := 49) dX8_walk_48 rfl rfl rfl ?_
      obtain ⟨o6, z7, k8, h⟩ := h
      refine u_getD (a := o6) (pc' := 52) dX8_walk_49 rfl fl_TuneDoor_Ways_22 rfl (by decide) kd_95 rfl (z7) ?_
      refine u_getI (z := (τ o6 3)) (pc' := 55) dX8_walk_52 rfl fl_TuneDoor_Ways_55 rfl (by decide) (kPerson k8) k8 rfl (fun r9 => ?_)
      refine u_goto (tgt := 68) dX8_walk_55 (by decide) ?_
      exact u_less (ls' := [some (vR 95), some (vI x1), some (vI x2), some (vL x3), none, some (vB x5), some (vL x6), none, some (vI x8), none, none, none, none, none]) ⟨rfl, ⟨rfl, ⟨rfl, ⟨rfl, ⟨rfl, ⟨rfl, ⟨rfl, trivial⟩⟩⟩⟩⟩⟩⟩ h
set_option maxRecDepth 20000 in
theorem bX8_walk_68 {E : mm_Env} {d : Nat} {τ : mm_Mem} {Q : mm_Q0} {x1 : Int} {x2 : Int} {x3 : Int} {x5 : Bool} {x6 : Int} {x8 : Int} {y0 : Int} {y1 : Int} (h : inR y0 ∧ inL (y1 * y0) ∧ inL (Int.tdiv (y1 * y0) 100) ∧ (((Int.tdiv (y1 * y0) 100) ≤ 0 → V0 E (d + 1) qX8_walk 35 [some (vR 95), some (vI x1), some (vI x2), some (vL x3), none, some (vB x5), some (vL x6), none, some (vI (x8 + 1)), none, none, none, none, none] [] τ Q) ∧ (¬ (Int.tdiv (y1 * y0) 100) ≤ 0 → 0 ≤ (x1 + 1) ∧ (x1 + 1) < 9 ∧ 0 ≤ x1 ∧ x1 < 9 ∧ M0 E d qX0_copyFrom [vR (97 + 4 * (x1 + 1).toNat), vR (97 + 4 * x1.toNat)] τ (fun v τ10 => v = none ∧ inR (x2 + x8) ∧ ((1000 ≤ (x2 + x8) → V0 E (d + 1) qX8_walk 152 [some (vR 95), some (vI x1), some (vI x2), some (vL x3), none, some (vB x5), some (vL x6), none, some (vI x8), some (vL (Int.tdiv (y1 * y0) 100)), none, some (vI (x2 + x8)), none, none] [vI 0] τ10 Q) ∧ (¬ 1000 ≤ (x2 + x8) → ∃ o12 : Nat, (τ10 95 2) = (o12 : Int) ∧ KD o12 = some (.inr 3) ∧ M0 E d qX9_tuneAt [vR 78, vI (τ10 o12 2), vI (x2 + x8)] τ10 (fun v τ16 => ∃ r17 : Int, v = some (vI r17) ∧ M0 E d qX0_hear [vR (97 + 4 * (x1 + 1).toNat), vR 78, vI r17] τ16 (fun v τ18 => ∃ r19 : Int, v = some (vI r19) ∧ inR r19 ∧ ((r19 = (-1) → V0 E (d + 1) qX8_walk 152 [some (vR 95), some (vI x1), some (vI x2), some (vL x3), none, some (vB x5), some (vL x6), none, some (vI x8), some (vL (Int.tdiv (y1 * y0) 100)), none, some (vI (x2 + x8)), none, none] [vI 0] τ18 Q) ∧ (¬ r19 = (-1) → V0 E (d + 1) qX8_walk 152 [some (vR 95), some (vI x1), some (vI x2), some (vL x3), none, some (vB x5), some (vL x6), none, some (vI x8), some (vL (Int.tdiv (y1 * y0) 100)), none, some (vI (x2 + x8)), none, none] [vI 1] τ18 Q)))))))))) : V0 E (d + 1) qX8_walk 68 [some (vR 95), some (vI x1), some (vI x2), some (vL x3), none, some (vB x5), some (vL x6), none, some (vI x8), none, none, none, none, none] [vI y0, vL y1] τ Q := by
  obtain ⟨c1, h⟩ := h
  refine u_i2l (pc' := 69) dX8_walk_68 rfl c1 ?_
  refine u_lmul (pc' := 70) dX8_walk_69 rfl ?_
  refine u_ldc2 (z := 100) (pc' := 73) dX8_walk_70 rfl wm_1005 (by decide) ?_
  obtain ⟨c2, h⟩ := h
  refine u_ldiv (pc' := 74) dX8_walk_73 rfl c2 ⟨by decide, by decide⟩ (by decide) ?_
  refine s_lstore (i := 9) (ls' := [some (vR 95), some (vI x1), some (vI x2), some (vL x3), none, some (vB x5), some (vL x6), none, some (vI x8), some (vL (Int.tdiv (y1 * y0) 100)), none, none, none, none]) (pc' := 76) dX8_walk_74 rfl (Nat.le_of_ble_eq_true rfl) rfl rfl ?_
  refine u_lload (i := 9) (pc' := 78) dX8_walk_76 rfl rfl ?_
  refine u_lconst (z := 0) (pc' := 79) dX8_walk_78 rfl (by decide) ?_
  obtain ⟨c3, h⟩ := h
  refine u_lcmp (pc' := 80) dX8_walk_79 rfl c3 ⟨by decide, by decide⟩ ?_
  refine u_if_le (tgt := 200) (pc' := 83) dX8_walk_80 rfl (by decide) (mm_cmp_R _ _) (fun hb => ?_) (fun hb => ?_)
  · have h := h.1 (mm_cmp_le.mp hb)
    refine s_iinc (i := 8) (ls' := [some (vR 95), some (vI x1), some (vI x2), some (vL x3), none, some (vB x5), some (vL x6), none, some (vI (x8 + 1)), some (vL (Int.tdiv (y1 * y0) 100)), none, none, none, none]) (pc' := 203) dX8_walk_200 rfl rfl (Nat.le_of_ble_eq_true rfl) rfl rfl ?_
    refine u_goto (tgt := 35) dX8_walk_203 (by decide) ?_
    exact u_less (ls' := [some (vR 95), some (vI x1), some (vI x2), some (vL x3), none, some (vB x5), some (vL x6), none, some (vI (x8 + 1)), none, none, none, none, none]) ⟨rfl, ⟨rfl, ⟨rfl, ⟨rfl, ⟨rfl, ⟨rfl, ⟨rfl, trivial⟩⟩⟩⟩⟩⟩⟩ h
  · have h := h.2 (fun w => hb (mm_cmp_le.mpr w))
    refine u_iload_n (i := 2) (pc' := 84) dX8_walk_83 rfl rfl rfl ?_
    refine u_iload (i := 8) (pc' := 86) dX8_walk_84 rfl rfl ?_
    refine u_iadd (pc' := 87) dX8_walk_86 rfl ?_
    refine s_istore (i := 11) (ls' := [some (vR 95), some (vI x1), some (vI x2), some (vL x3), none, some (vB x5), some (vL x6), none, some (vI x8), some (vL (Int.tdiv (y1 * y0) 100)), none, some (vI (x2 + x8)), none, none]) (pc' := 89) dX8_walk_87 rfl (Nat.le_of_ble_eq_true rfl) rfl rfl ?_
    refine u_aload_n (i := 0) (pc' := 90) dX8_walk_89 rfl rfl rfl ?_
    refine u_getR (a := 96) (pc' := 93) dX8_walk_90 rfl fl_TuneDoor_Ways_11 rfl (by decide) kd_95 rfl ?_
    refine u_iload_n (i := 1) (pc' := 94) dX8_walk_93 rfl rfl rfl ?_
    refine u_iconst (pc' := 95) dX8_walk_94 rfl ?_
    refine u_iadd (pc' := 96) dX8_walk_95 rfl ?_
    obtain ⟨c4, c5, h⟩ := h
    have j6 : (x1 + 1).toNat < 9 := by omega
    refine u_aaload_D (k := (x1 + 1).toNat) (a := (97 + 4 * (x1 + 1).toNat)) (pc' := 97) dX8_walk_96 rfl (by decide) kd_96 c4 c5 (by decide) rfl (kWays j6).1 ?_
    refine s_astore (i := 12) (ls' := [some (vR 95), some (vI x1), some (vI x2), some (vL x3), none, some (vB x5), some (vL x6), none, some (vI x8), some (vL (Int.tdiv (y1 * y0) 100)), none, some (vI (x2 + x8)), some (vR (97 + 4 * (x1 + 1).toNat)), none]) (pc' := 99) dX8_walk_97 rfl (Nat.le_of_ble_eq_true rfl) rfl rfl ?_
    refine u_aload (i := 12) (pc' := 101) dX8_walk_99 rfl rfl ?_
    refine u_aload_n (i := 0) (pc' := 102) dX8_walk_101 rfl rfl rfl ?_
    refine u_getR (a := 96) (pc' := 105) dX8_walk_102 rfl fl_TuneDoor_Ways_11 rfl (by decide) kd_95 rfl ?_
    refine u_iload_n (i := 1) (pc' := 106) dX8_walk_105 rfl rfl rfl ?_
    obtain ⟨c7, c8, h⟩ := h
    have j9 : x1.toNat < 9 := by omega
    refine u_aaload_D (k := x1.toNat) (a := (97 + 4 * x1.toNat)) (pc' := 107) dX8_walk_106 rfl (by decide) kd_96 c7 c8 (by decide) rfl (kWays j9).1 ?_
    refine u_invV (q' := qX0_copyFrom) (As := [vR (97 + 4 * x1.toNat)]) (st := []) (pc' := 110) dX8_walk_107 rfl gX0_copyFrom wm_999 rfl rfl (by omega) (kWays j6).2 wm_974 wm_975 rfl (Nat.le_of_ble_eq_true rfl) (M0.mono h (fun v τ10 h => ?_))
    obtain ⟨rfl, h⟩ := h
    show V0 E (d + 1) qX8_walk 110 [some (vR 95), some (vI x1), some (vI x2), some (vL x3), none, some (vB x5), some (vL x6), none, some (vI x8), some (vL (Int.tdiv (y1 * y0) 100)), none, some (vI (x2 + x8)), some (vR (97 + 4 * (x1 + 1).toNat)), none] [] τ10 Q
    refine u_iload (i := 11) (pc' := 112) dX8_walk_110 rfl rfl ?_
    refine u_sipush (pc' := 115) dX8_walk_112 rfl (by decide) ?_
    obtain ⟨c11, h⟩ := h
    refine u_icmp_ge (tgt := 151) (pc' := 118) dX8_walk_115 rfl (by decide) c11 ⟨by decide, by decide⟩ (fun hb => ?_) (fun hb => ?_)
    · have h := h.1 hb
      refine u_iconst (pc' := 152) dX8_walk_151 rfl ?_
      exact u_less (ls' := [some (vR 95), some (vI x1), some (vI x2), some (vL x3), none, some (vB x5), some (vL x6), none, some (vI x8), some (vL (Int.tdiv (y1 * y0) 100)), none, some (vI (x2 + x8)), none, none]) ⟨rfl, ⟨rfl, ⟨rfl, ⟨rfl, ⟨rfl, ⟨rfl, ⟨rfl, ⟨rfl, ⟨rfl, trivial⟩⟩⟩⟩⟩⟩⟩⟩⟩ h
    · have h := h.2 hb
      refine u_aload (i := 12) (pc' := 120) dX8_walk_118 rfl rfl ?_
      refine u_aload_n (i := 0) (pc' := 121) dX8_walk_120 rfl rfl rfl ?_
      refine u_getR (a := 78) (pc' := 124) dX8_walk_121 rfl fl_TuneDoor_Ways_17 rfl (by decide) kd_95 rfl ?_
      refine u_aload_n (i := 0) (pc' := 125) dX8_walk_124 rfl rfl rfl ?_
      refine u_getR (a := 78) (pc' := 128) dX8_walk_125 rfl fl_TuneDoor_Ways_17 rfl (by decide) kd_95 rfl ?_
      refine u_aload_n (i := 0) (pc' := 129) dX8_walk_128 rfl rfl rfl ?_
      obtain ⟨o12, z13, k14, h⟩ := h
      refine u_getD (a := o12) (pc' := 132) dX8_walk_129 rfl fl_TuneDoor_Ways_22 rfl (by decide) kd_95 rfl (z13) ?_
      refine u_getI (z := (τ10 o12 2)) (pc' := 135) dX8_walk_132 rfl fl_TuneDoor_Ways_60 rfl (by decide) (kPerson k14) k14 rfl (fun r15 => ?_)
      refine u_iload (i := 11) (pc' := 137) dX8_walk_135 rfl rfl ?_
      refine u_invV (q' := qX9_tuneAt) (As := [vI (τ10 o12 2), vI (x2 + x8)]) (st := [vR 78, vR (97 + 4 * (x1 + 1).toNat)]) (pc' := 140) dX8_walk_137 rfl gX9_tuneAt wm_1006 rfl rfl (by decide) kd_78 wm_872 wm_873 rfl (Nat.le_of_ble_eq_true rfl) (M0.mono h (fun v τ16 h => ?_))
      obtain ⟨r17, rfl, h⟩ := h
      show V0 E (d + 1) qX8_walk 140 [some (vR 95), some (vI x1), some (vI x2), some (vL x3), none, some (vB x5), some (vL x6), none, some (vI x8), some (vL (Int.tdiv (y1 * y0) 100)), none, some (vI (x2 + x8)), some (vR (97 + 4 * (x1 + 1).toNat)), none] [vI r17, vR 78, vR (97 + 4 * (x1 + 1).toNat)] τ16 Q
      refine u_invV (q' := qX0_hear) (As := [vR 78, vI r17]) (st := []) (pc' := 143) dX8_walk_140 rfl gX0_hear wm_1007 rfl rfl (by omega) (kWays j6).2 wm_909 wm_910 rfl (Nat.le_of_ble_eq_true rfl) (M0.mono h (fun v τ18 h => ?_))
      obtain ⟨r19, rfl, h⟩ := h
      show V0 E (d + 1) qX8_walk 143 [some (vR 95), some (vI x1), some (vI x2), some (vL x3), none, some (vB x5), some (vL x6), none, some (vI x8), some (vL (Int.tdiv (y1 * y0) 100)), none, some (vI (x2 + x8)), some (vR (97 + 4 * (x1 + 1).toNat)), none] [vI r19] τ18 Q
      refine u_iconst (pc' := 144) dX8_walk_143 rfl ?_
      obtain ⟨c20, h⟩ := h
      refine u_icmp_eq (tgt := 151) (pc' := 147) dX8_walk_144 rfl (by decide) c20 ⟨by decide, by decide⟩ (fun hb => ?_) (fun hb => ?_)
      · have h := h.1 hb
        refine u_iconst (pc' := 152) dX8_walk_151 rfl ?_
        exact u_less (ls' := [some (vR 95), some (vI x1), some (vI x2), some (vL x3), none, some (vB x5), some (vL x6), none, some (vI x8), some (vL (Int.tdiv (y1 * y0) 100)), none, some (vI (x2 + x8)), none, none]) ⟨rfl, ⟨rfl, ⟨rfl, ⟨rfl, ⟨rfl, ⟨rfl, ⟨rfl, ⟨rfl, ⟨rfl, trivial⟩⟩⟩⟩⟩⟩⟩⟩⟩ h
      · have h := h.2 hb
        refine u_iconst (pc' := 148) dX8_walk_147 rfl ?_
        refine u_goto (tgt := 152) dX8_walk_148 (by decide) ?_
        exact u_less (ls' := [some (vR 95), some (vI x1), some (vI x2), some (vL x3), none, some (vB x5), some (vL x6), none, some (vI x8), some (vL (Int.tdiv (y1 * y0) 100)), none, some (vI (x2 + x8)), none, none]) ⟨rfl, ⟨rfl, ⟨rfl, ⟨rfl, ⟨rfl, ⟨rfl, ⟨rfl, ⟨rfl, ⟨rfl, trivial⟩⟩⟩⟩⟩⟩⟩⟩⟩ h
set_option maxRecDepth 20000 in
theorem bX8_walk_152 {E : mm_Env} {d : Nat} {τ : mm_Mem} {Q : mm_Q0} {x1 : Int} {x2 : Int} {x3 : Int} {x5 : Bool} {x6 : Int} {x8 : Int} {x9 : Int} {x11 : Int} {y0 : Int} (h : M0 E d qJ9_min_7cf53 [vI (x11 + 1), vI 1000] τ (fun v τ1 => ∃ r2 : Int, v = some (vI r2) ∧ inR y0 ∧ ((y0 = 0 → M0 E d qX8_walk [vR 95, vI (x1 + 1), vI r2, vL x9, vB true] τ1 (fun v τ4 => ∃ r5 : Int, v = some (vL r5) ∧ V0 E (d + 1) qX8_walk 35 [some (vR 95), some (vI x1), some (vI x2), some (vL x3), none, some (vB x5), some (vL (x6 + r5)), none, some (vI (x8 + 1)), none, none, none, none, none] [] τ4 Q)) ∧ (¬ y0 = 0 → (((τ1 95 4) = 0 → M0 E d qX8_walk [vR 95, vI (x1 + 1), vI r2, vL x9, vB false] τ1 (fun v τ7 => ∃ r8 : Int, v = some (vL r8) ∧ V0 E (d + 1) qX8_walk 35 [some (vR 95), some (vI x1), some (vI x2), some (vL x3), none, some (vB x5), some (vL (x6 + r8)), none, some (vI (x8 + 1)), none, none, none, none, none] [] τ7 Q)) ∧ (¬ (τ1 95 4) = 0 → ((x5 = false → M0 E d qX8_walk [vR 95, vI (x1 + 1), vI r2, vL x9, vB false] τ1 (fun v τ9 => ∃ r10 : Int, v = some (vL r10) ∧ V0 E (d + 1) qX8_walk 35 [some (vR 95), some (vI x1), some (vI x2), some (vL x3), none, some (vB x5), some (vL (x6 + r10)), none, some (vI (x8 + 1)), none, none, none, none, none] [] τ9 Q)) ∧ (x5 = true → M0 E d qX8_walk [vR 95, vI (x1 + 1), vI r2, vL x9, vB true] τ1 (fun v τ11 => ∃ r12 : Int, v = some (vL r12) ∧ V0 E (d + 1) qX8_walk 35 [some (vR 95), some (vI x1), some (vI x2), some (vL x3), none, some (vB x5), some (vL (x6 + r12)), none, some (vI (x8 + 1)), none, none, none, none, none] [] τ11 Q))))))))) : V0 E (d + 1) qX8_walk 152 [some (vR 95), some (vI x1), some (vI x2), some (vL x3), none, some (vB x5), some (vL x6), none, some (vI x8), some (vL x9), none, some (vI x11), none, none] [vI y0] τ Q := by
  refine s_istore (i := 13) (ls' := [some (vR 95), some (vI x1), some (vI x2), some (vL x3), none, some (vB x5), some (vL x6), none, some (vI x8), some (vL x9), none, some (vI x11), none, some (vI y0)]) (pc' := 154) dX8_walk_152 rfl (Nat.le_of_ble_eq_true rfl) rfl rfl ?_
  refine u_lload (i := 6) (pc' := 156) dX8_walk_154 rfl rfl ?_
  refine u_aload_n (i := 0) (pc' := 157) dX8_walk_156 rfl rfl rfl ?_
  refine u_iload_n (i := 1) (pc' := 158) dX8_walk_157 rfl rfl rfl ?_
  refine u_iconst (pc' := 159) dX8_walk_158 rfl ?_
  refine u_iadd (pc' := 160) dX8_walk_159 rfl ?_
  refine u_iload (i := 11) (pc' := 162) dX8_walk_160 rfl rfl ?_
  refine u_iconst (pc' := 163) dX8_walk_162 rfl ?_
  refine u_iadd (pc' := 164) dX8_walk_163 rfl ?_
  refine u_sipush (pc' := 167) dX8_walk_164 rfl (by decide) ?_
  refine u_invS (q' := qJ9_min_7cf53) (As := [vI (x11 + 1), vI 1000]) (st := [vI (x1 + 1), vR 95, vL x6]) (pc' := 170) dX8_walk_167 rfl gJ9_min_7cf53 wm_998 wm_530 rfl (Nat.le_of_ble_eq_true rfl) (M0.mono h (fun v τ1 h => ?_))
  obtain ⟨r2, rfl, h⟩ := h
  show V0 E (d + 1) qX8_walk 170 [some (vR 95), some (vI x1), some (vI x2), some (vL x3), none, some (vB x5), some (vL x6), none, some (vI x8), some (vL x9), none, some (vI x11), none, some (vI y0)] [vI r2, vI (x1 + 1), vR 95, vL x6] τ1 Q
  refine u_lload (i := 9) (pc' := 172) dX8_walk_170 rfl rfl ?_
  refine u_iload (i := 13) (pc' := 174) dX8_walk_172 rfl rfl ?_
  obtain ⟨c3, h⟩ := h
  refine u_if_eq (tgt := 189) (pc' := 177) dX8_walk_174 rfl (by decide) c3 (fun hb => ?_) (fun hb => ?_)
  · have h := h.1 hb
    refine u_iconst (pc' := 190) dX8_walk_189 rfl ?_
    refine u_goto (tgt := 194) dX8_walk_190 (by decide) ?_
    refine u_invV (q' := qX8_walk) (As := [vI (x1 + 1), vI r2, vL x9, vB true]) (st := [vL x6]) (pc' := 197) dX8_walk_194 rfl gX8_walk wm_1001 rfl rfl (by decide) kd_95 wm_1003 wp_53 rfl (Nat.le_of_ble_eq_true rfl) (M0.mono h (fun v τ4 h => ?_))
    obtain ⟨r5, rfl, h⟩ := h
    show V0 E (d + 1) qX8_walk 197 [some (vR 95), some (vI x1), some (vI x2), some (vL x3), none, some (vB x5), some (vL x6), none, some (vI x8), some (vL x9), none, some (vI x11), none, some (vI y0)] [vL r5, vL x6] τ4 Q
    refine u_ladd (pc' := 198) dX8_walk_197 rfl ?_
    refine s_lstore (i := 6) (ls' := [some (vR 95), some (vI x1), some (vI x2), some (vL x3), none, some (vB x5), some (vL (x6 + r5)), none, some (vI x8), some (vL x9), none, some (vI x11), none, some (vI y0)]) (pc' := 200) dX8_walk_198 rfl (Nat.le_of_ble_eq_true rfl) rfl rfl ?_
    refine s_iinc (i := 8) (ls' := [some (vR 95), some (vI x1), some (vI x2), some (vL x3), none, some (vB x5), some (vL (x6 + r5)), none, some (vI (x8 + 1)), some (vL x9), none, some (vI x11), none, some (vI y0)]) (pc' := 203) dX8_walk_200 rfl rfl (Nat.le_of_ble_eq_true rfl) rfl rfl ?_
    refine u_goto (tgt := 35) dX8_walk_203 (by decide) ?_
    exact u_less (ls' := [some (vR 95), some (vI x1), some (vI x2), some (vL x3), none, some (vB x5), some (vL (x6 + r5)), none, some (vI (x8 + 1)), none, none, none, none, none]) ⟨rfl, ⟨rfl, ⟨rfl, ⟨rfl, ⟨rfl, ⟨rfl, ⟨rfl, trivial⟩⟩⟩⟩⟩⟩⟩ h
  · have h := h.2 hb
    refine u_aload_n (i := 0) (pc' := 178) dX8_walk_177 rfl rfl rfl ?_
    refine u_getI (z := (τ1 95 4)) (pc' := 181) dX8_walk_178 rfl fl_TuneDoor_Ways_36 rfl (by decide) (by decide) kd_95 rfl (fun r6 => ?_)
    refine u_if_eq (tgt := 193) (pc' := 184) dX8_walk_181 rfl (by decide) r6 (fun hb => ?_) (fun hb => ?_)
    · have h := h.1 hb
      refine u_iconst (pc' := 194) dX8_walk_193 rfl ?_
      refine u_invV (q' := qX8_walk) (As := [vI (x1 + 1), vI r2, vL x9, vB false]) (st := [vL x6]) (pc' := 197) dX8_walk_194 rfl gX8_walk wm_1001 rfl rfl (by decide) kd_95 wm_1003 wp_53 rfl (Nat.le_of_ble_eq_true rfl) (M0.mono h (fun v τ7 h => ?_))
      obtain ⟨r8, rfl, h⟩ := h
      show V0 E (d + 1) qX8_walk 197 [some (vR 95), some (vI x1), some (vI x2), some (vL x3), none, some (vB x5), some (vL x6), none, some (vI x8), some (vL x9), none, some (vI x11), none, some (vI y0)] [vL r8, vL x6] τ7 Q
      refine u_ladd (pc' := 198) dX8_walk_197 rfl ?_
      refine s_lstore (i := 6) (ls' := [some (vR 95), some (vI x1), some (vI x2), some (vL x3), none, some (vB x5), some (vL (x6 + r8)), none, some (vI x8), some (vL x9), none, some (vI x11), none, some (vI y0)]) (pc' := 200) dX8_walk_198 rfl (Nat.le_of_ble_eq_true rfl) rfl rfl ?_
      refine s_iinc (i := 8) (ls' := [some (vR 95), some (vI x1), some (vI x2), some (vL x3), none, some (vB x5), some (vL (x6 + r8)), none, some (vI (x8 + 1)), some (vL x9), none, some (vI x11), none, some (vI y0)]) (pc' := 203) dX8_walk_200 rfl rfl (Nat.le_of_ble_eq_true rfl) rfl rfl ?_
      refine u_goto (tgt := 35) dX8_walk_203 (by decide) ?_
      exact u_less (ls' := [some (vR 95), some (vI x1), some (vI x2), some (vL x3), none, some (vB x5), some (vL (x6 + r8)), none, some (vI (x8 + 1)), none, none, none, none, none]) ⟨rfl, ⟨rfl, ⟨rfl, ⟨rfl, ⟨rfl, ⟨rfl, ⟨rfl, trivial⟩⟩⟩⟩⟩⟩⟩ h
    · have h := h.2 hb
      refine u_iload (i := 5) (pc' := 186) dX8_walk_184 rfl rfl ?_
      refine u_if_eq (tgt := 193) (pc' := 189) dX8_walk_186 rfl (by decide) (bI_R _) (fun hb => ?_) (fun hb => ?_)
      · have h := h.1 (bI_0.mp hb)
        refine u_iconst (pc' := 194) dX8_walk_193 rfl ?_
        refine u_invV (q' := qX8_walk) (As := [vI (x1 + 1), vI r2, vL x9, vB false]) (st := [vL x6]) (pc' := 197) dX8_walk_194 rfl gX8_walk wm_1001 rfl rfl (by decide) kd_95 wm_1003 wp_53 rfl (Nat.le_of_ble_eq_true rfl) (M0.mono h (fun v τ9 h => ?_))
        obtain ⟨r10, rfl, h⟩ := h
        show V0 E (d + 1) qX8_walk 197 [some (vR 95), some (vI x1), some (vI x2), some (vL x3), none, some (vB x5), some (vL x6), none, some (vI x8), some (vL x9), none, some (vI x11), none, some (vI y0)] [vL r10, vL x6] τ9 Q
        refine u_ladd (pc' := 198) dX8_walk_197 rfl ?_
        refine s_lstore (i := 6) (ls' := [some (vR 95), some (vI x1), some (vI x2), some (vL x3), none, some (vB x5), some (vL (x6 + r10)), none, some (vI x8), some (vL x9), none, some (vI x11), none, some (vI y0)]) (pc' := 200) dX8_walk_198 rfl (Nat.le_of_ble_eq_true rfl) rfl rfl ?_
        refine s_iinc (i := 8) (ls' := [some (vR 95), some (vI x1), some (vI x2), some (vL x3), none, some (vB x5), some (vL (x6 + r10)), none, some (vI (x8 + 1)), some (vL x9), none, some (vI x11), none, some (vI y0)]) (pc' := 203) dX8_walk_200 rfl rfl (Nat.le_of_ble_eq_true rfl) rfl rfl ?_
        refine u_goto (tgt := 35) dX8_walk_203 (by decide) ?_
        exact u_less (ls' := [some (vR 95), some (vI x1), some (vI x2), some (vL x3), none, some (vB x5), some (vL (x6 + r10)), none, some (vI (x8 + 1)), none, none, none, none, none]) ⟨rfl, ⟨rfl, ⟨rfl, ⟨rfl, ⟨rfl, ⟨rfl, ⟨rfl, trivial⟩⟩⟩⟩⟩⟩⟩ h
      · have h := h.2 (bI_n0.mp hb)
        refine u_iconst (pc' := 190) dX8_walk_189 rfl ?_
        refine u_goto (tgt := 194) dX8_walk_190 (by decide) ?_
        refine u_invV (q' := qX8_walk) (As := [vI (x1 + 1), vI r2, vL x9, vB true]) (st := [vL x6]) (pc' := 197) dX8_walk_194 rfl gX8_walk wm_1001 rfl rfl (by decide) kd_95 wm_1003 wp_53 rfl (Nat.le_of_ble_eq_true rfl) (M0.mono h (fun v τ11 h => ?_))
        obtain ⟨r12, rfl, h⟩ := h
        show V0 E (d + 1) qX8_walk 197 [some (vR 95), some (vI x1), some (vI x2), some (vL x3), none, some (vB x5), some (vL x6), none, some (vI x8), some (vL x9), none, some (vI x11), none, some (vI y0)] [vL r12, vL x6] τ11 Q
        refine u_ladd (pc' := 198) dX8_walk_197 rfl ?_
        refine s_lstore (i := 6) (ls' := [some (vR 95), some (vI x1), some (vI x2), some (vL x3), none, some (vB x5), some (vL (x6 + r12)), none, some (vI x8), some (vL x9), none, some (vI x11), none, some (vI y0)]) (pc' := 200) dX8_walk_198 rfl (Nat.le_of_ble_eq_true rfl) rfl rfl ?_
        refine s_iinc (i := 8) (ls' := [some (vR 95), some (vI x1), some (vI x2), some (vL x3), none, some (vB x5), some (vL (x6 + r12)), none, some (vI (x8 + 1)), some (vL x9), none, some (vI x11), none, some (vI y0)]) (pc' := 203) dX8_walk_200 rfl rfl (Nat.le_of_ble_eq_true rfl) rfl rfl ?_
        refine u_goto (tgt := 35) dX8_walk_203 (by decide) ?_
        exact u_less (ls' := [some (vR 95), some (vI x1), some (vI x2), some (vL x3), none, some (vB x5), some (vL (x6 + r12)), none, some (vI (x8 + 1)), none, none, none, none, none]) ⟨rfl, ⟨rfl, ⟨rfl, ⟨rfl, ⟨rfl, ⟨rfl, ⟨rfl, trivial⟩⟩⟩⟩⟩⟩⟩ h
