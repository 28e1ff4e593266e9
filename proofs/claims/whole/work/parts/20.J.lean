set_option maxRecDepth 20000 in
theorem bJ9_min_7cf53_0 {E : mm_Env} {d : Nat} {τ : mm_Mem} {Q : mm_Q0} {a0 : Int} {a1 : Int} (h : inR a0 ∧ inR a1 ∧ ((a1 < a0 → Q (some (vI a1)) τ) ∧ (¬ a1 < a0 → Q (some (vI a0)) τ))) : V0 E d qJ9_min_7cf53 0 [some (vI a0), some (vI a1)] [] τ Q := by
  refine u_iload_n (i := 0) (pc' := 1) dJ9_min_7cf53_0 rfl rfl rfl ?_
  refine u_iload_n (i := 1) (pc' := 2) dJ9_min_7cf53_1 rfl rfl rfl ?_
  obtain ⟨c1, c2, h⟩ := h
  refine u_icmp_gt (tgt := 9) (pc' := 5) dJ9_min_7cf53_2 rfl (by decide) c1 c2 (fun hb => ?_) (fun hb => ?_)
  · have h := h.1 hb
    refine u_iload_n (i := 1) (pc' := 10) dJ9_min_7cf53_9 rfl rfl rfl ?_
    exact u_iret dJ9_min_7cf53_10 rfl h
  · have h := h.2 hb
    refine u_iload_n (i := 0) (pc' := 6) dJ9_min_7cf53_5 rfl rfl rfl ?_
    refine u_goto (tgt := 10) dJ9_min_7cf53_6 (by decide) ?_
    exact u_iret dJ9_min_7cf53_10 rfl h
theorem mJ9_min_7cf53 {E : mm_Env} {d : Nat} {τ : mm_Mem} {Q : mm_Q0} {a0 : Int} {a1 : Int} (h : inR a0 ∧ inR a1 ∧ ((a1 < a0 → Q (some (vI a1)) τ) ∧ (¬ a1 < a0 → Q (some (vI a0)) τ))) : M0 E d qJ9_min_7cf53 [vI a0, vI a1] τ Q := M0_ofF (by decide +kernel) (Nat.le_of_ble_eq_true rfl) [some (vI a0), some (vI a1)] rfl (bJ9_min_7cf53_0  h)
set_option maxRecDepth 20000 in
theorem bJ7_fill_53178_0 {E : mm_Env} {d : Nat} {τ : mm_Mem} {Q : mm_Q0} {a0 : Nat} {n_a0 : Nat} {a1 : Int} (k_a0 : KD a0 = some (.inl (.int, n_a0))) (t_a0 : 2 ≤ a0) (l_a0 : n_a0 ≤ 2147483647) (h : V0 E d qJ7_fill_53178 5 [some (vR a0), some (vI a1), some (vI 0), some (vI (n_a0 : Int))] [] τ Q) : V0 E d qJ7_fill_53178 0 [some (vR a0), some (vI a1), none, none] [] τ Q := by
  refine u_iconst (pc' := 1) dJ7_fill_53178_0 rfl ?_
  refine s_istore_n (i := 2) (ls' := [some (vR a0), some (vI a1), some (vI 0), none]) (pc' := 2) dJ7_fill_53178_1 rfl rfl (Nat.le_of_ble_eq_true rfl) rfl rfl ?_
  refine u_aload_n (i := 0) (pc' := 3) dJ7_fill_53178_2 rfl rfl rfl ?_
  refine u_alen (t0 := 0) (pc' := 4) dJ7_fill_53178_3 rfl t_a0 k_a0 (fun _ => rfl) ?_
  refine s_istore_n (i := 3) (ls' := [some (vR a0), some (vI a1), some (vI 0), some (vI (n_a0 : Int))]) (pc' := 5) dJ7_fill_53178_4 rfl rfl (Nat.le_of_ble_eq_true rfl) rfl rfl ?_
  exact u_less (ls' := [some (vR a0), some (vI a1), some (vI 0), some (vI (n_a0 : Int))]) ⟨rfl, ⟨rfl, ⟨rfl, ⟨rfl, trivial⟩⟩⟩⟩ h
theorem mJ7_fill_53178 {E : mm_Env} {d : Nat} {τ : mm_Mem} {Q : mm_Q0} {a0 : Nat} {n_a0 : Nat} {a1 : Int} (k_a0 : KD a0 = some (.inl (.int, n_a0))) (t_a0 : 2 ≤ a0) (l_a0 : n_a0 ≤ 2147483647) (h : V0 E d qJ7_fill_53178 5 [some (vR a0), some (vI a1), some (vI 0), some (vI (n_a0 : Int))] [] τ Q) : M0 E d qJ7_fill_53178 [vR a0, vI a1] τ Q := M0_ofF (by decide +kernel) (Nat.le_of_ble_eq_true rfl) [some (vR a0), some (vI a1), none, none] rfl (bJ7_fill_53178_0 k_a0 t_a0 l_a0 h)
set_option maxRecDepth 20000 in
theorem bJ7_fill_53178_5 {E : mm_Env} {d : Nat} {τ : mm_Mem} {Q : mm_Q0} {x0 : Nat} {n_x0 : Nat} {x1 : Int} {x2 : Int} {x3 : Int} (k_x0 : KD x0 = some (.inl (.int, n_x0))) (t_x0 : 2 ≤ x0) (l_x0 : n_x0 ≤ 2147483647) (h : inR x2 ∧ inR x3 ∧ ((x3 ≤ x2 → Q none τ) ∧ (¬ x3 ≤ x2 → 0 ≤ x2 ∧ x2 < n_x0 ∧ inR x1 ∧ V0 E d qJ7_fill_53178 5 [some (vR x0), some (vI x1), some (vI (x2 + 1)), some (vI x3)] [] (wr τ x0 x2.toNat x1) Q))) : V0 E d qJ7_fill_53178 5 [some (vR x0), some (vI x1), some (vI x2), some (vI x3)] [] τ Q := by
  refine u_iload_n (i := 2) (pc' := 6) dJ7_fill_53178_5 rfl rfl rfl ?_
  refine u_iload_n (i := 3) (pc' := 7) dJ7_fill_53178_6 rfl rfl rfl ?_
  obtain ⟨c1, c2, h⟩ := h
  refine u_icmp_ge (tgt := 20) (pc' := 10) dJ7_fill_53178_7 rfl (by decide) c1 c2 (fun hb => ?_) (fun hb => ?_)
  · have h := h.1 hb
    exact u_ret dJ7_fill_53178_20 rfl h
  · have h := h.2 hb
    refine u_aload_n (i := 0) (pc' := 11) dJ7_fill_53178_10 rfl rfl rfl ?_
    refine u_iload_n (i := 2) (pc' := 12) dJ7_fill_53178_11 rfl rfl rfl ?_
    refine u_iload_n (i := 1) (pc' := 13) dJ7_fill_53178_12 rfl rfl rfl ?_
    obtain ⟨c3, c4, c5, h⟩ := h
    refine u_iastore (k := x2.toNat) (pc' := 14) dJ7_fill_53178_13 rfl t_x0 k_x0 c3 c4 l_x0 rfl c5 ?_
    refine s_iinc (i := 2) (ls' := [some (vR x0), some (vI x1), some (vI (x2 + 1)), some (vI x3)]) (pc' := 17) dJ7_fill_53178_14 rfl rfl (Nat.le_of_ble_eq_true rfl) rfl rfl ?_
    refine u_goto (tgt := 5) dJ7_fill_53178_17 (by decide) ?_
    exact u_less (ls' := [some (vR x0), some (vI x1), some (vI (x2 + 1)), some (vI x3)]) ⟨rfl, ⟨rfl, ⟨rfl, ⟨rfl, trivial⟩⟩⟩⟩ h
set_option maxRecDepth 20000 in
theorem bJ9_floorDiv_f86c9_0 {E : mm_Env} {d : Nat} {τ : mm_Mem} {Q : mm_Q0} {a0 : Int} {a1 : Int} (h : inL a0 ∧ inL a1 ∧ a1 ≠ 0 ∧ inL (mm_lxor a0 a1) ∧ ((0 ≤ (mm_lxor a0 a1) → Q (some (vL (Int.tdiv a0 a1))) τ) ∧ (¬ 0 ≤ (mm_lxor a0 a1) → inL ((Int.tdiv a0 a1) * a1) ∧ ((((Int.tdiv a0 a1) * a1) = a0 → Q (some (vL (Int.tdiv a0 a1))) τ) ∧ (¬ ((Int.tdiv a0 a1) * a1) = a0 → Q (some (vL ((Int.tdiv a0 a1) - 1))) τ))))) : V0 E d qJ9_floorDiv_f86c9 0 [some (vL a0), none, some (vL a1), none, none, none] [] τ Q := by
  refine u_lload_n (i := 0) (pc' := 1) dJ9_floorDiv_f86c9_0 rfl rfl rfl ?_
  refine u_lload_n (i := 2) (pc' := 2) dJ9_floorDiv_f86c9_1 rfl rfl rfl ?_
  obtain ⟨c1, c2, c3, h⟩ := h
  refine u_ldiv (pc' := 3) dJ9_floorDiv_f86c9_2 rfl c1 c2 c3 ?_
  refine s_lstore (i := 4) (ls' := [some (vL a0), none, some (vL a1), none, some (vL (Int.tdiv a0 a1)), none]) (pc' := 5) dJ9_floorDiv_f86c9_3 rfl (Nat.le_of_ble_eq_true rfl) rfl rfl ?_
  refine u_lload_n (i := 0) (pc' := 6) dJ9_floorDiv_f86c9_5 rfl rfl rfl ?_
  refine u_lload_n (i := 2) (pc' := 7) dJ9_floorDiv_f86c9_6 rfl rfl rfl ?_
  refine u_lxor (pc' := 8) dJ9_floorDiv_f86c9_7 rfl ?_
  refine u_lconst (z := 0) (pc' := 9) dJ9_floorDiv_f86c9_8 rfl (by decide) ?_
  obtain ⟨c4, h⟩ := h
  refine u_lcmp (pc' := 10) dJ9_floorDiv_f86c9_9 rfl c4 ⟨by decide, by decide⟩ ?_
  refine u_if_ge (tgt := 27) (pc' := 13) dJ9_floorDiv_f86c9_10 rfl (by decide) (mm_cmp_R _ _) (fun hb => ?_) (fun hb => ?_)
  · have h := h.1 (mm_cmp_ge.mp hb)
    refine u_lload (i := 4) (pc' := 29) dJ9_floorDiv_f86c9_27 rfl rfl ?_
    exact u_lret dJ9_floorDiv_f86c9_29 rfl h
  · have h := h.2 (fun w => hb (mm_cmp_ge.mpr w))
    refine u_lload (i := 4) (pc' := 15) dJ9_floorDiv_f86c9_13 rfl rfl ?_
    refine u_lload_n (i := 2) (pc' := 16) dJ9_floorDiv_f86c9_15 rfl rfl rfl ?_
    refine u_lmul (pc' := 17) dJ9_floorDiv_f86c9_16 rfl ?_
    refine u_lload_n (i := 0) (pc' := 18) dJ9_floorDiv_f86c9_17 rfl rfl rfl ?_
    obtain ⟨c5, h⟩ := h
    refine u_lcmp (pc' := 19) dJ9_floorDiv_f86c9_18 rfl c5 c1 ?_
    refine u_if_eq (tgt := 27) (pc' := 22) dJ9_floorDiv_f86c9_19 rfl (by decide) (mm_cmp_R _ _) (fun hb => ?_) (fun hb => ?_)
    · have h := h.1 (mm_cmp_0.mp hb)
      refine u_lload (i := 4) (pc' := 29) dJ9_floorDiv_f86c9_27 rfl rfl ?_
      exact u_lret dJ9_floorDiv_f86c9_29 rfl h
    · have h := h.2 (fun w => hb (mm_cmp_0.mpr w))
      refine u_lload (i := 4) (pc' := 24) dJ9_floorDiv_f86c9_22 rfl rfl ?_
      refine u_lconst (z := 1) (pc' := 25) dJ9_floorDiv_f86c9_24 rfl (by decide) ?_
      refine u_lsub (pc' := 26) dJ9_floorDiv_f86c9_25 rfl ?_
      exact u_lret dJ9_floorDiv_f86c9_26 rfl h
theorem mJ9_floorDiv_f86c9 {E : mm_Env} {d : Nat} {τ : mm_Mem} {Q : mm_Q0} {a0 : Int} {a1 : Int} (h : inL a0 ∧ inL a1 ∧ a1 ≠ 0 ∧ inL (mm_lxor a0 a1) ∧ ((0 ≤ (mm_lxor a0 a1) → Q (some (vL (Int.tdiv a0 a1))) τ) ∧ (¬ 0 ≤ (mm_lxor a0 a1) → inL ((Int.tdiv a0 a1) * a1) ∧ ((((Int.tdiv a0 a1) * a1) = a0 → Q (some (vL (Int.tdiv a0 a1))) τ) ∧ (¬ ((Int.tdiv a0 a1) * a1) = a0 → Q (some (vL ((Int.tdiv a0 a1) - 1))) τ))))) : M0 E d qJ9_floorDiv_f86c9 [vL a0, vL a1] τ Q := M0_ofF (by decide +kernel) (Nat.le_of_ble_eq_true rfl) [some (vL a0), none, some (vL a1), none, none, none] rfl (bJ9_floorDiv_f86c9_0  h)
set_option maxRecDepth 20000 in
theorem bJ9_floorMod_f86c9_0 {E : mm_Env} {d : Nat} {τ : mm_Mem} {Q : mm_Q0} {a0 : Int} {a1 : Int} (h : inL a0 ∧ inL a1 ∧ a1 ≠ 0 ∧ inL (mm_lxor a0 a1) ∧ ((0 ≤ (mm_lxor a0 a1) → Q (some (vL (Int.tmod a0 a1))) τ) ∧ (¬ 0 ≤ (mm_lxor a0 a1) → inL (Int.tmod a0 a1) ∧ (((Int.tmod a0 a1) = 0 → Q (some (vL (Int.tmod a0 a1))) τ) ∧ (¬ (Int.tmod a0 a1) = 0 → Q (some (vL ((Int.tmod a0 a1) + a1))) τ))))) : V0 E d qJ9_floorMod_f86c9 0 [some (vL a0), none, some (vL a1), none, none, none] [] τ Q := by
  refine u_lload_n (i := 0) (pc' := 1) dJ9_floorMod_f86c9_0 rfl rfl rfl ?_
  refine u_lload_n (i := 2) (pc' := 2) dJ9_floorMod_f86c9_1 rfl rfl rfl ?_
  obtain ⟨c1, c2, c3, h⟩ := h
  refine u_lrem (pc' := 3) dJ9_floorMod_f86c9_2 rfl c1 c2 c3 ?_
  refine s_lstore (i := 4) (ls' := [some (vL a0), none, some (vL a1), none, some (vL (Int.tmod a0 a1)), none]) (pc' := 5) dJ9_floorMod_f86c9_3 rfl (Nat.le_of_ble_eq_true rfl) rfl rfl ?_
  refine u_lload_n (i := 0) (pc' := 6) dJ9_floorMod_f86c9_5 rfl rfl rfl ?_
  refine u_lload_n (i := 2) (pc' := 7) dJ9_floorMod_f86c9_6 rfl rfl rfl ?_
  refine u_lxor (pc' := 8) dJ9_floorMod_f86c9_7 rfl ?_
  refine u_lconst (z := 0) (pc' := 9) dJ9_floorMod_f86c9_8 rfl (by decide) ?_
  obtain ⟨c4, h⟩ := h
  refine u_lcmp (pc' := 10) dJ9_floorMod_f86c9_9 rfl c4 ⟨by decide, by decide⟩ ?_
  refine u_if_ge (tgt := 25) (pc' := 13) dJ9_floorMod_f86c9_10 rfl (by decide) (mm_cmp_R _ _) (fun hb => ?_) (fun hb => ?_)
  · have h := h.1 (mm_cmp_ge.mp hb)
    refine u_lload (i := 4) (pc' := 27) dJ9_floorMod_f86c9_25 rfl rfl ?_
    exact u_lret dJ9_floorMod_f86c9_27 rfl h
  · have h := h.2 (fun w => hb (mm_cmp_ge.mpr w))
    refine u_lload (i := 4) (pc' := 15) dJ9_floorMod_f86c9_13 rfl rfl ?_
    refine u_lconst (z := 0) (pc' := 16) dJ9_floorMod_f86c9_15 rfl (by decide) ?_
    obtain ⟨c5, h⟩ := h
    refine u_lcmp (pc' := 17) dJ9_floorMod_f86c9_16 rfl c5 ⟨by decide, by decide⟩ ?_
    refine u_if_eq (tgt := 25) (pc' := 20) dJ9_floorMod_f86c9_17 rfl (by decide) (mm_cmp_R _ _) (fun hb => ?_) (fun hb => ?_)
    · have h := h.1 (mm_cmp_0.mp hb)
      refine u_lload (i := 4) (pc' := 27) dJ9_floorMod_f86c9_25 rfl rfl ?_
      exact u_lret dJ9_floorMod_f86c9_27 rfl h
    · have h := h.2 (fun w => hb (mm_cmp_0.mpr w))
      refine u_lload (i := 4) (pc' := 22) dJ9_floorMod_f86c9_20 rfl rfl ?_
      refine u_lload_n (i := 2) (pc' := 23) dJ9_floorMod_f86c9_22 rfl rfl rfl ?_
      refine u_ladd (pc' := 24) dJ9_floorMod_f86c9_23 rfl ?_
      exact u_lret dJ9_floorMod_f86c9_24 rfl h
theorem mJ9_floorMod_f86c9 {E : mm_Env} {d : Nat} {τ : mm_Mem} {Q : mm_Q0} {a0 : Int} {a1 : Int} (h : inL a0 ∧ inL a1 ∧ a1 ≠ 0 ∧ inL (mm_lxor a0 a1) ∧ ((0 ≤ (mm_lxor a0 a1) → Q (some (vL (Int.tmod a0 a1))) τ) ∧ (¬ 0 ≤ (mm_lxor a0 a1) → inL (Int.tmod a0 a1) ∧ (((Int.tmod a0 a1) = 0 → Q (some (vL (Int.tmod a0 a1))) τ) ∧ (¬ (Int.tmod a0 a1) = 0 → Q (some (vL ((Int.tmod a0 a1) + a1))) τ))))) : M0 E d qJ9_floorMod_f86c9 [vL a0, vL a1] τ Q := M0_ofF (by decide +kernel) (Nat.le_of_ble_eq_true rfl) [some (vL a0), none, some (vL a1), none, none, none] rfl (bJ9_floorMod_f86c9_0  h)
set_option maxRecDepth 20000 in
theorem bJ9_min_f86c9_0 {E : mm_Env} {d : Nat} {τ : mm_Mem} {Q : mm_Q0} {a0 : Int} {a1 : Int} (h : inL a0 ∧ inL a1 ∧ ((a1 < a0 → Q (some (vL a1)) τ) ∧ (¬ a1 < a0 → Q (some (vL a0)) τ))) : V0 E d qJ9_min_f86c9 0 [some (vL a0), none, some (vL a1), none] [] τ Q := by
  refine u_lload_n (i := 0) (pc' := 1) dJ9_min_f86c9_0 rfl rfl rfl ?_
  refine u_lload_n (i := 2) (pc' := 2) dJ9_min_f86c9_1 rfl rfl rfl ?_
  obtain ⟨c1, c2, h⟩ := h
  refine u_lcmp (pc' := 3) dJ9_min_f86c9_2 rfl c1 c2 ?_
  refine u_if_gt (tgt := 10) (pc' := 6) dJ9_min_f86c9_3 rfl (by decide) (mm_cmp_R _ _) (fun hb => ?_) (fun hb => ?_)
  · have h := h.1 (mm_cmp_gt.mp hb)
    refine u_lload_n (i := 2) (pc' := 11) dJ9_min_f86c9_10 rfl rfl rfl ?_
    exact u_lret dJ9_min_f86c9_11 rfl h
  · have h := h.2 (fun w => hb (mm_cmp_gt.mpr w))
    refine u_lload_n (i := 0) (pc' := 7) dJ9_min_f86c9_6 rfl rfl rfl ?_
    refine u_goto (tgt := 11) dJ9_min_f86c9_7 (by decide) ?_
    exact u_lret dJ9_min_f86c9_11 rfl h
theorem mJ9_min_f86c9 {E : mm_Env} {d : Nat} {τ : mm_Mem} {Q : mm_Q0} {a0 : Int} {a1 : Int} (h : inL a0 ∧ inL a1 ∧ ((a1 < a0 → Q (some (vL a1)) τ) ∧ (¬ a1 < a0 → Q (some (vL a0)) τ))) : M0 E d qJ9_min_f86c9 [vL a0, vL a1] τ Q := M0_ofF (by decide +kernel) (Nat.le_of_ble_eq_true rfl) [some (vL a0), none, some (vL a1), none] rfl (bJ9_min_f86c9_0  h)
set_option maxRecDepth 20000 in
theorem bJ9_max_f86c9_0 {E : mm_Env} {d : Nat} {τ : mm_Mem} {Q : mm_Q0} {a0 : Int} {a1 : Int} (h : inL a0 ∧ inL a1 ∧ ((a0 < a1 → Q (some (vL a1)) τ) ∧ (¬ a0 < a1 → Q (some (vL a0)) τ))) : V0 E d qJ9_max_f86c9 0 [some (vL a0), none, some (vL a1), none] [] τ Q := by
  refine u_lload_n (i := 0) (pc' := 1) dJ9_max_f86c9_0 rfl rfl rfl ?_
  refine u_lload_n (i := 2) (pc' := 2) dJ9_max_f86c9_1 rfl rfl rfl ?_
  obtain ⟨c1, c2, h⟩ := h
  refine u_lcmp (pc' := 3) dJ9_max_f86c9_2 rfl c1 c2 ?_
  refine u_if_lt (tgt := 10) (pc' := 6) dJ9_max_f86c9_3 rfl (by decide) (mm_cmp_R _ _) (fun hb => ?_) (fun hb => ?_)
  · have h := h.1 (mm_cmp_lt.mp hb)
    refine u_lload_n (i := 2) (pc' := 11) dJ9_max_f86c9_10 rfl rfl rfl ?_
    exact u_lret dJ9_max_f86c9_11 rfl h
  · have h := h.2 (fun w => hb (mm_cmp_lt.mpr w))
    refine u_lload_n (i := 0) (pc' := 7) dJ9_max_f86c9_6 rfl rfl rfl ?_
    refine u_goto (tgt := 11) dJ9_max_f86c9_7 (by decide) ?_
    exact u_lret dJ9_max_f86c9_11 rfl h
theorem mJ9_max_f86c9 {E : mm_Env} {d : Nat} {τ : mm_Mem} {Q : mm_Q0} {a0 : Int} {a1 : Int} (h : inL a0 ∧ inL a1 ∧ ((a0 < a1 → Q (some (vL a1)) τ) ∧ (¬ a0 < a1 → Q (some (vL a0)) τ))) : M0 E d qJ9_max_f86c9 [vL a0, vL a1] τ Q := M0_ofF (by decide +kernel) (Nat.le_of_ble_eq_true rfl) [some (vL a0), none, some (vL a1), none] rfl (bJ9_max_f86c9_0  h)
set_option maxRecDepth 20000 in
theorem bJ9_floorMod_7cf53_0 {E : mm_Env} {d : Nat} {τ : mm_Mem} {Q : mm_Q0} {a0 : Int} {a1 : Int} (h : inR a0 ∧ inR a1 ∧ a1 ≠ 0 ∧ inR (mm_xor a0 a1) ∧ ((0 ≤ (mm_xor a0 a1) → Q (some (vI (Int.tmod a0 a1))) τ) ∧ (¬ 0 ≤ (mm_xor a0 a1) → inR (Int.tmod a0 a1) ∧ (((Int.tmod a0 a1) = 0 → Q (some (vI (Int.tmod a0 a1))) τ) ∧ (¬ (Int.tmod a0 a1) = 0 → Q (some (vI ((Int.tmod a0 a1) + a1))) τ))))) : V0 E d qJ9_floorMod_7cf53 0 [some (vI a0), some (vI a1), none] [] τ Q := by
  refine u_iload_n (i := 0) (pc' := 1) dJ9_floorMod_7cf53_0 rfl rfl rfl ?_
  refine u_iload_n (i := 1) (pc' := 2) dJ9_floorMod_7cf53_1 rfl rfl rfl ?_
  obtain ⟨c1, c2, c3, h⟩ := h
  refine u_irem (pc' := 3) dJ9_floorMod_7cf53_2 rfl c1 c2 c3 ?_
  refine s_istore_n (i := 2) (ls' := [some (vI a0), some (vI a1), some (vI (Int.tmod a0 a1))]) (pc' := 4) dJ9_floorMod_7cf53_3 rfl rfl (Nat.le_of_ble_eq_true rfl) rfl rfl ?_
  refine u_iload_n (i := 0) (pc' := 5) dJ9_floorMod_7cf53_4 rfl rfl rfl ?_
  refine u_iload_n (i := 1) (pc' := 6) dJ9_floorMod_7cf53_5 rfl rfl rfl ?_
  refine u_ixor (pc' := 7) dJ9_floorMod_7cf53_6 rfl ?_
  obtain ⟨c4, h⟩ := h
  refine u_if_ge (tgt := 18) (pc' := 10) dJ9_floorMod_7cf53_7 rfl (by decide) c4 (fun hb => ?_) (fun hb => ?_)
  · have h := h.1 hb
    refine u_iload_n (i := 2) (pc' := 19) dJ9_floorMod_7cf53_18 rfl rfl rfl ?_
    exact u_iret dJ9_floorMod_7cf53_19 rfl h
  · have h := h.2 hb
    refine u_iload_n (i := 2) (pc' := 11) dJ9_floorMod_7cf53_10 rfl rfl rfl ?_
    obtain ⟨c5, h⟩ := h
    refine u_if_eq (tgt := 18) (pc' := 14) dJ9_floorMod_7cf53_11 rfl (by decide) c5 (fun hb => ?_) (fun hb => ?_)
    · have h := h.1 hb
      refine u_iload_n (i := 2) (pc' := 19) dJ9_floorMod_7cf53_18 rfl rfl rfl ?_
      exact u_iret dJ9_floorMod_7cf53_19 rfl h
    · have h := h.2 hb
      refine u_iload_n (i := 2) (pc' := 15) dJ9_floorMod_7cf53_14 rfl rfl rfl ?_
      refine u_iload_n (i := 1) (pc' := 16) dJ9_floorMod_7cf53_15 rfl rfl rfl ?_
      refine u_iadd (pc' := 17) dJ9_floorMod_7cf53_16 rfl ?_
      exact u_iret dJ9_floorMod_7cf53_17 rfl h
theorem mJ9_floorMod_7cf53 {E : mm_Env} {d : Nat} {τ : mm_Mem} {Q : mm_Q0} {a0 : Int} {a1 : Int} (h : inR a0 ∧ inR a1 ∧ a1 ≠ 0 ∧ inR (mm_xor a0 a1) ∧ ((0 ≤ (mm_xor a0 a1) → Q (some (vI (Int.tmod a0 a1))) τ) ∧ (¬ 0 ≤ (mm_xor a0 a1) → inR (Int.tmod a0 a1) ∧ (((Int.tmod a0 a1) = 0 → Q (some (vI (Int.tmod a0 a1))) τ) ∧ (¬ (Int.tmod a0 a1) = 0 → Q (some (vI ((Int.tmod a0 a1) + a1))) τ))))) : M0 E d qJ9_floorMod_7cf53 [vI a0, vI a1] τ Q := M0_ofF (by decide +kernel) (Nat.le_of_ble_eq_true rfl) [some (vI a0), some (vI a1), none] rfl (bJ9_floorMod_7cf53_0  h)
set_option maxRecDepth 20000 in
theorem bJ9_max_7cf53_0 {E : mm_Env} {d : Nat} {τ : mm_Mem} {Q : mm_Q0} {a0 : Int} {a1 : Int} (h : inR a0 ∧ inR a1 ∧ ((a0 < a1 → Q (some (vI a1)) τ) ∧ (¬ a0 < a1 → Q (some (vI a0)) τ))) : V0 E d qJ9_max_7cf53 0 [some (vI a0), some (vI a1)] [] τ Q := by
  refine u_iload_n (i := 0) (pc' := 1) dJ9_max_7cf53_0 rfl rfl rfl ?_
  refine u_iload_n (i := 1) (pc' := 2) dJ9_max_7cf53_1 rfl rfl rfl ?_
  obtain ⟨c1, c2, h⟩ := h
  refine u_icmp_lt (tgt := 9) (pc' := 5) dJ9_max_7cf53_2 rfl (by decide) c1 c2 (fun hb => ?_) (fun hb => ?_)
  · have h := h.1 hb
    refine u_iload_n (i := 1) (pc' := 10) dJ9_max_7cf53_9 rfl rfl rfl ?_
    exact u_iret dJ9_max_7cf53_10 rfl h
  · have h := h.2 hb
    refine u_iload_n (i := 0) (pc' := 6) dJ9_max_7cf53_5 rfl rfl rfl ?_
    refine u_goto (tgt := 10) dJ9_max_7cf53_6 (by decide) ?_
    exact u_iret dJ9_max_7cf53_10 rfl h
theorem mJ9_max_7cf53 {E : mm_Env} {d : Nat} {τ : mm_Mem} {Q : mm_Q0} {a0 : Int} {a1 : Int} (h : inR a0 ∧ inR a1 ∧ ((a0 < a1 → Q (some (vI a1)) τ) ∧ (¬ a0 < a1 → Q (some (vI a0)) τ))) : M0 E d qJ9_max_7cf53 [vI a0, vI a1] τ Q := M0_ofF (by decide +kernel) (Nat.le_of_ble_eq_true rfl) [some (vI a0), some (vI a1)] rfl (bJ9_max_7cf53_0  h)
set_option maxRecDepth 20000 in
theorem bJ6_bitCount_0f7a4_0 {E : mm_Env} {d : Nat} {τ : mm_Mem} {Q : mm_Q0} {a0 : Int} (h : Q (some (vI (mm_and (((mm_and (((mm_and (a0 - (mm_and (mm_ushr a0 1) 1431655765)) 858993459) + (mm_and (mm_ushr (a0 - (mm_and (mm_ushr a0 1) 1431655765)) 2) 858993459)) + (mm_ushr ((mm_and (a0 - (mm_and (mm_ushr a0 1) 1431655765)) 858993459) + (mm_and (mm_ushr (a0 - (mm_and (mm_ushr a0 1) 1431655765)) 2) 858993459)) 4)) 252645135) + (mm_ushr (mm_and (((mm_and (a0 - (mm_and (mm_ushr a0 1) 1431655765)) 858993459) + (mm_and (mm_ushr (a0 - (mm_and (mm_ushr a0 1) 1431655765)) 2) 858993459)) + (mm_ushr ((mm_and (a0 - (mm_and (mm_ushr a0 1) 1431655765)) 858993459) + (mm_and (mm_ushr (a0 - (mm_and (mm_ushr a0 1) 1431655765)) 2) 858993459)) 4)) 252645135) 8)) + (mm_ushr ((mm_and (((mm_and (a0 - (mm_and (mm_ushr a0 1) 1431655765)) 858993459) + (mm_and (mm_ushr (a0 - (mm_and (mm_ushr a0 1) 1431655765)) 2) 858993459)) + (mm_ushr ((mm_and (a0 - (mm_and (mm_ushr a0 1) 1431655765)) 858993459) + (mm_and (mm_ushr (a0 - (mm_and (mm_ushr a0 1) 1431655765)) 2) 858993459)) 4)) 252645135) + (mm_ushr (mm_and (((mm_and (a0 - (mm_and (mm_ushr a0 1) 1431655765)) 858993459) + (mm_and (mm_ushr (a0 - (mm_and (mm_ushr a0 1) 1431655765)) 2) 858993459)) + (mm_ushr ((mm_and (a0 - (mm_and (mm_ushr a0 1) 1431655765)) 858993459) + (mm_and (mm_ushr (a0 - (mm_and (mm_ushr a0 1) 1431655765)) 2) 858993459)) 4)) 252645135) 8)) 16)) 63))) τ) : V0 E d qJ6_bitCount_0f7a4 0 [some (vI a0)] [] τ Q := by
  refine u_iload_n (i := 0) (pc' := 1) dJ6_bitCount_0f7a4_0 rfl rfl rfl ?_
  refine u_iload_n (i := 0) (pc' := 2) dJ6_bitCount_0f7a4_1 rfl rfl rfl ?_
  refine u_iconst (pc' := 3) dJ6_bitCount_0f7a4_2 rfl ?_
  refine u_iushr (pc' := 4) dJ6_bitCount_0f7a4_3 rfl ?_
  refine u_ldcw (z := 1431655765) (pc' := 7) dJ6_bitCount_0f7a4_4 rfl wm_932 (by decide) ?_
  refine u_iand (pc' := 8) dJ6_bitCount_0f7a4_7 rfl ?_
  refine u_isub (pc' := 9) dJ6_bitCount_0f7a4_8 rfl ?_
  refine s_istore_n (i := 0) (ls' := [some (vI (a0 - (mm_and (mm_ushr a0 1) 1431655765)))]) (pc' := 10) dJ6_bitCount_0f7a4_9 rfl rfl (Nat.le_of_ble_eq_true rfl) rfl rfl ?_
  refine u_iload_n (i := 0) (pc' := 11) dJ6_bitCount_0f7a4_10 rfl rfl rfl ?_
  refine u_ldcw (z := 858993459) (pc' := 14) dJ6_bitCount_0f7a4_11 rfl wm_933 (by decide) ?_
  refine u_iand (pc' := 15) dJ6_bitCount_0f7a4_14 rfl ?_
  refine u_iload_n (i := 0) (pc' := 16) dJ6_bitCount_0f7a4_15 rfl rfl rfl ?_
  refine u_iconst (pc' := 17) dJ6_bitCount_0f7a4_16 rfl ?_
  refine u_iushr (pc' := 18) dJ6_bitCount_0f7a4_17 rfl ?_
  refine u_ldcw (z := 858993459) (pc' := 21) dJ6_bitCount_0f7a4_18 rfl wm_933 (by decide) ?_
  refine u_iand (pc' := 22) dJ6_bitCount_0f7a4_21 rfl ?_
  refine u_iadd (pc' := 23) dJ6_bitCount_0f7a4_22 rfl ?_
  refine s_istore_n (i := 0) (ls' := [some (vI ((mm_and (a0 - (mm_and (mm_ushr a0 1) 1431655765)) 858993459) + (mm_and (mm_ushr (a0 - (mm_and (mm_ushr a0 1) 1431655765)) 2) 858993459)))]) (pc' := 24) dJ6_bitCount_0f7a4_23 rfl rfl (Nat.le_of_ble_eq_true rfl) rfl rfl ?_
  refine u_iload_n (i := 0) (pc' := 25) dJ6_bitCount_0f7a4_24 rfl rfl rfl ?_
  refine u_iload_n (i := 0) (pc' := 26) dJ6_bitCount_0f7a4_25 rfl rfl rfl ?_
  refine u_iconst (pc' := 27) dJ6_bitCount_0f7a4_26 rfl ?_
  refine u_iushr (pc' := 28) dJ6_bitCount_0f7a4_27 rfl ?_
  refine u_iadd (pc' := 29) dJ6_bitCount_0f7a4_28 rfl ?_
  refine u_ldcw (z := 252645135) (pc' := 32) dJ6_bitCount_0f7a4_29 rfl wm_934 (by decide) ?_
  refine u_iand (pc' := 33) dJ6_bitCount_0f7a4_32 rfl ?_
  refine s_istore_n (i := 0) (ls' := [some (vI (mm_and (((mm_and (a0 - (mm_and (mm_ushr a0 1) 1431655765)) 858993459) + (mm_and (mm_ushr (a0 - (mm_and (mm_ushr a0 1) 1431655765)) 2) 858993459)) + (mm_ushr ((mm_and (a0 - (mm_and (mm_ushr a0 1) 1431655765)) 858993459) + (mm_and (mm_ushr (a0 - (mm_and (mm_ushr a0 1) 1431655765)) 2) 858993459)) 4)) 252645135))]) (pc' := 34) dJ6_bitCount_0f7a4_33 rfl rfl (Nat.le_of_ble_eq_true rfl) rfl rfl ?_
  refine u_iload_n (i := 0) (pc' := 35) dJ6_bitCount_0f7a4_34 rfl rfl rfl ?_
  refine u_iload_n (i := 0) (pc' := 36) dJ6_bitCount_0f7a4_35 rfl rfl rfl ?_
  refine u_bipush (pc' := 38) dJ6_bitCount_0f7a4_36 rfl (by decide) ?_
  refine u_iushr (pc' := 39) dJ6_bitCount_0f7a4_38 rfl ?_
  refine u_iadd (pc' := 40) dJ6_bitCount_0f7a4_39 rfl ?_
  refine s_istore_n (i := 0) (ls' := [some (vI ((mm_and (((mm_and (a0 - (mm_and (mm_ushr a0 1) 1431655765)) 858993459) + (mm_and (mm_ushr (a0 - (mm_and (mm_ushr a0 1) 1431655765)) 2) 858993459)) + (mm_ushr ((mm_and (a0 - (mm_and (mm_ushr a0 1) 1431655765)) 858993459) + (mm_and (mm_ushr (a0 - (mm_and (mm_ushr a0 1) 1431655765)) 2) 858993459)) 4)) 252645135) + (mm_ushr (mm_and (((mm_and (a0 - (mm_and (mm_ushr a0 1) 1431655765)) 858993459) + (mm_and (mm_ushr (a0 - (mm_and (mm_ushr a0 1) 1431655765)) 2) 858993459)) + (mm_ushr ((mm_and (a0 - (mm_and (mm_ushr a0 1) 1431655765)) 858993459) + (mm_and (mm_ushr (a0 - (mm_and (mm_ushr a0 1) 1431655765)) 2) 858993459)) 4)) 252645135) 8)))]) (pc' := 41) dJ6_bitCount_0f7a4_40 rfl rfl (Nat.le_of_ble_eq_true rfl) rfl rfl ?_
  refine u_iload_n (i := 0) (pc' := 42) dJ6_bitCount_0f7a4_41 rfl rfl rfl ?_
  refine u_iload_n (i := 0) (pc' := 43) dJ6_bitCount_0f7a4_42 rfl rfl rfl ?_
  refine u_bipush (pc' := 45) dJ6_bitCount_0f7a4_43 rfl (by decide) ?_
  refine u_iushr (pc' := 46) dJ6_bitCount_0f7a4_45 rfl ?_
  refine u_iadd (pc' := 47) dJ6_bitCount_0f7a4_46 rfl ?_
  refine s_istore_n (i := 0) (ls' := [some (vI (((mm_and (((mm_and (a0 - (mm_and (mm_ushr a0 1) 1431655765)) 858993459) + (mm_and (mm_ushr (a0 - (mm_and (mm_ushr a0 1) 1431655765)) 2) 858993459)) + (mm_ushr ((mm_and (a0 - (mm_and (mm_ushr a0 1) 1431655765)) 858993459) + (mm_and (mm_ushr (a0 - (mm_and (mm_ushr a0 1) 1431655765)) 2) 858993459)) 4)) 252645135) + (mm_ushr (mm_and (((mm_and (a0 - (mm_and (mm_ushr a0 1) 1431655765)) 858993459) + (mm_and (mm_ushr (a0 - (mm_and (mm_ushr a0 1) 1431655765)) 2) 858993459)) + (mm_ushr ((mm_and (a0 - (mm_and (mm_ushr a0 1) 1431655765)) 858993459) + (mm_and (mm_ushr (a0 - (mm_and (mm_ushr a0 1) 1431655765)) 2) 858993459)) 4)) 252645135) 8)) + (mm_ushr ((mm_and (((mm_and (a0 - (mm_and (mm_ushr a0 1) 1431655765)) 858993459) + (mm_and (mm_ushr (a0 - (mm_and (mm_ushr a0 1) 1431655765)) 2) 858993459)) + (mm_ushr ((mm_and (a0 - (mm_and (mm_ushr a0 1) 1431655765)) 858993459) + (mm_and (mm_ushr (a0 - (mm_and (mm_ushr a0 1) 1431655765)) 2) 858993459)) 4)) 252645135) + (mm_ushr (mm_and (((mm_and (a0 - (mm_and (mm_ushr a0 1) 1431655765)) 858993459) + (mm_and (mm_ushr (a0 - (mm_and (mm_ushr a0 1) 1431655765)) 2) 858993459)) + (mm_ushr ((mm_and (a0 - (mm_and (mm_ushr a0 1) 1431655765)) 858993459) + (mm_and (mm_ushr (a0 - (mm_and (mm_ushr a0 1) 1431655765)) 2) 858993459)) 4)) 252645135) 8)) 16)))]) (pc' := 48) dJ6_bitCount_0f7a4_47 rfl rfl (Nat.le_of_ble_eq_true rfl) rfl rfl ?_
  refine u_iload_n (i := 0) (pc' := 49) dJ6_bitCount_0f7a4_48 rfl rfl rfl ?_
  refine u_bipush (pc' := 51) dJ6_bitCount_0f7a4_49 rfl (by decide) ?_
  refine u_iand (pc' := 52) dJ6_bitCount_0f7a4_51 rfl ?_
  exact u_iret dJ6_bitCount_0f7a4_52 rfl h
theorem mJ6_bitCount_0f7a4 {E : mm_Env} {d : Nat} {τ : mm_Mem} {Q : mm_Q0} {a0 : Int} (h : Q (some (vI (mm_and (((mm_and (((mm_and (a0 - (mm_and (mm_ushr a0 1) 1431655765)) 858993459) + (mm_and (mm_ushr (a0 - (mm_and (mm_ushr a0 1) 1431655765)) 2) 858993459)) + (mm_ushr ((mm_and (a0 - (mm_and (mm_ushr a0 1) 1431655765)) 858993459) + (mm_and (mm_ushr (a0 - (mm_and (mm_ushr a0 1) 1431655765)) 2) 858993459)) 4)) 252645135) + (mm_ushr (mm_and (((mm_and (a0 - (mm_and (mm_ushr a0 1) 1431655765)) 858993459) + (mm_and (mm_ushr (a0 - (mm_and (mm_ushr a0 1) 1431655765)) 2) 858993459)) + (mm_ushr ((mm_and (a0 - (mm_and (mm_ushr a0 1) 1431655765)) 858993459) + (mm_and (mm_ushr (a0 - (mm_and (mm_ushr a0 1) 1431655765)) 2) 858993459)) 4)) 252645135) 8)) + (mm_ushr ((mm_and (((mm_and (a0 - (mm_and (mm_ushr a0 1) 1431655765)) 858993459) + (mm_and (mm_ushr (a0 - (mm_and (mm_ushr a0 1) 1431655765)) 2) 858993459)) + (mm_ushr ((mm_and (a0 - (mm_and (mm_ushr a0 1) 1431655765)) 858993459) + (mm_and (mm_ushr (a0 - (mm_and (mm_ushr a0 1) 1431655765)) 2) 858993459)) 4)) 252645135) + (mm_ushr (mm_and (((mm_and (a0 - (mm_and (mm_ushr a0 1) 1431655765)) 858993459) + (mm_and (mm_ushr (a0 - (mm_and (mm_ushr a0 1) 1431655765)) 2) 858993459)) + (mm_ushr ((mm_and (a0 - (mm_and (mm_ushr a0 1) 1431655765)) 858993459) + (mm_and (mm_ushr (a0 - (mm_and (mm_ushr a0 1) 1431655765)) 2) 858993459)) 4)) 252645135) 8)) 16)) 63))) τ) : M0 E d qJ6_bitCount_0f7a4 [vI a0] τ Q := M0_ofF (by decide +kernel) (Nat.le_of_ble_eq_true rfl) [some (vI a0)] rfl (bJ6_bitCount_0f7a4_0  h)
set_option maxRecDepth 20000 in
theorem bJ7_fill_fda19_0 {E : mm_Env} {d : Nat} {τ : mm_Mem} {Q : mm_Q0} {a0 : Nat} {n_a0 : Nat} {a1 : Int} {a2 : Int} {a3 : Int} (k_a0 : KD a0 = some (.inl (.int, n_a0))) (t_a0 : 2 ≤ a0) (l_a0 : n_a0 ≤ 2147483647) (h : M0 E d qJ7_rangeCheck_23922 [vI (n_a0 : Int), vI a1, vI a2] τ (fun v τ1 => v = none ∧ V0 E (d + 1) qJ7_fill_fda19 10 [some (vR a0), none, some (vI a2), some (vI a3), some (vI a1)] [] τ1 Q)) : V0 E (d + 1) qJ7_fill_fda19 0 [some (vR a0), some (vI a1), some (vI a2), some (vI a3), none] [] τ Q := by
  refine u_aload_n (i := 0) (pc' := 1) dJ7_fill_fda19_0 rfl rfl rfl ?_
  refine u_alen (t0 := 0) (pc' := 2) dJ7_fill_fda19_1 rfl t_a0 k_a0 (fun _ => rfl) ?_
  refine u_iload_n (i := 1) (pc' := 3) dJ7_fill_fda19_2 rfl rfl rfl ?_
  refine u_iload_n (i := 2) (pc' := 4) dJ7_fill_fda19_3 rfl rfl rfl ?_
  refine u_invS (q' := qJ7_rangeCheck_23922) (As := [vI (n_a0 : Int), vI a1, vI a2]) (st := []) (pc' := 7) dJ7_fill_fda19_4 rfl gJ7_rangeCheck_23922 wm_1032 wm_1033 rfl (Nat.le_of_ble_eq_true rfl) (M0.mono h (fun v τ1 h => ?_))
  obtain ⟨rfl, h⟩ := h
  show V0 E (d + 1) qJ7_fill_fda19 7 [some (vR a0), some (vI a1), some (vI a2), some (vI a3), none] [] τ1 Q
  refine u_iload_n (i := 1) (pc' := 8) dJ7_fill_fda19_7 rfl rfl rfl ?_
  refine s_istore (i := 4) (ls' := [some (vR a0), some (vI a1), some (vI a2), some (vI a3), some (vI a1)]) (pc' := 10) dJ7_fill_fda19_8 rfl (Nat.le_of_ble_eq_true rfl) rfl rfl ?_
  exact u_less (ls' := [some (vR a0), none, some (vI a2), some (vI a3), some (vI a1)]) ⟨rfl, ⟨rfl, ⟨rfl, ⟨rfl, trivial⟩⟩⟩⟩ h
theorem mJ7_fill_fda19 {E : mm_Env} {d : Nat} {τ : mm_Mem} {Q : mm_Q0} {a0 : Nat} {n_a0 : Nat} {a1 : Int} {a2 : Int} {a3 : Int} (k_a0 : KD a0 = some (.inl (.int, n_a0))) (t_a0 : 2 ≤ a0) (l_a0 : n_a0 ≤ 2147483647) (h : M0 E d qJ7_rangeCheck_23922 [vI (n_a0 : Int), vI a1, vI a2] τ (fun v τ1 => v = none ∧ V0 E (d + 1) qJ7_fill_fda19 10 [some (vR a0), none, some (vI a2), some (vI a3), some (vI a1)] [] τ1 Q)) : M0 E (d + 1) qJ7_fill_fda19 [vR a0, vI a1, vI a2, vI a3] τ Q := M0_ofF (by decide +kernel) (Nat.le_of_ble_eq_true rfl) [some (vR a0), some (vI a1), some (vI a2), some (vI a3), none] rfl (bJ7_fill_fda19_0 k_a0 t_a0 l_a0 h)
set_option maxRecDepth 20000 in
theorem bJ7_fill_fda19_10 {E : mm_Env} {d : Nat} {τ : mm_Mem} {Q : mm_Q0} {x0 : Nat} {n_x0 : Nat} {x2 : Int} {x3 : Int} {x4 : Int} (k_x0 : KD x0 = some (.inl (.int, n_x0))) (t_x0 : 2 ≤ x0) (l_x0 : n_x0 ≤ 2147483647) (h : inR x4 ∧ inR x2 ∧ ((x2 ≤ x4 → Q none τ) ∧ (¬ x2 ≤ x4 → 0 ≤ x4 ∧ x4 < n_x0 ∧ inR x3 ∧ V0 E (d + 1) qJ7_fill_fda19 10 [some (vR x0), none, some (vI x2), some (vI x3), some (vI (x4 + 1))] [] (wr τ x0 x4.toNat x3) Q))) : V0 E (d + 1) qJ7_fill_fda19 10 [some (vR x0), none, some (vI x2), some (vI x3), some (vI x4)] [] τ Q := by
  refine u_iload (i := 4) (pc' := 12) dJ7_fill_fda19_10 rfl rfl ?_
  refine u_iload_n (i := 2) (pc' := 13) dJ7_fill_fda19_12 rfl rfl rfl ?_
  obtain ⟨c1, c2, h⟩ := h
  refine u_icmp_ge (tgt := 27) (pc' := 16) dJ7_fill_fda19_13 rfl (by decide) c1 c2 (fun hb => ?_) (fun hb => ?_)
  · have h := h.1 hb
    exact u_ret dJ7_fill_fda19_27 rfl h
  · have h := h.2 hb
    refine u_aload_n (i := 0) (pc' := 17) dJ7_fill_fda19_16 rfl rfl rfl ?_
    refine u_iload (i := 4) (pc' := 19) dJ7_fill_fda19_17 rfl rfl ?_
    refine u_iload_n (i := 3) (pc' := 20) dJ7_fill_fda19_19 rfl rfl rfl ?_
    obtain ⟨c3, c4, c5, h⟩ := h
    refine u_iastore (k := x4.toNat) (pc' := 21) dJ7_fill_fda19_20 rfl t_x0 k_x0 c3 c4 l_x0 rfl c5 ?_
    refine s_iinc (i := 4) (ls' := [some (vR x0), none, some (vI x2), some (vI x3), some (vI (x4 + 1))]) (pc' := 24) dJ7_fill_fda19_21 rfl rfl (Nat.le_of_ble_eq_true rfl) rfl rfl ?_
    refine u_goto (tgt := 10) dJ7_fill_fda19_24 (by decide) ?_
    exact u_less (ls' := [some (vR x0), none, some (vI x2), some (vI x3), some (vI (x4 + 1))]) ⟨rfl, ⟨rfl, ⟨rfl, ⟨rfl, trivial⟩⟩⟩⟩ h
set_option maxRecDepth 20000 in
theorem bJ7_rangeCheck_23922_0 {E : mm_Env} {d : Nat} {τ : mm_Mem} {Q : mm_Q0} {a0 : Int} {a1 : Int} {a2 : Int} (h : inR a1 ∧ inR a2 ∧ ((a1 ≤ a2 → V0 E (d + 1) qJ7_rangeCheck_23922 46 [some (vI a0), some (vI a1), some (vI a2)] [] τ Q) ∧ (¬ a1 ≤ a2 → False))) : V0 E (d + 1) qJ7_rangeCheck_23922 0 [some (vI a0), some (vI a1), some (vI a2)] [] τ Q := by
  refine u_iload_n (i := 1) (pc' := 1) dJ7_rangeCheck_23922_0 rfl rfl rfl ?_
  refine u_iload_n (i := 2) (pc' := 2) dJ7_rangeCheck_23922_1 rfl rfl rfl ?_
  obtain ⟨c1, c2, h⟩ := h
  refine u_icmp_le (tgt := 46) (pc' := 5) dJ7_rangeCheck_23922_2 rfl (by decide) c1 c2 (fun hb => ?_) (fun hb => ?_)
  · have h := h.1 hb
    exact u_less (ls' := [some (vI a0), some (vI a1), some (vI a2)]) ⟨rfl, ⟨rfl, ⟨rfl, trivial⟩⟩⟩ h
  · have h := h.2 hb
    exact h.elim
theorem mJ7_rangeCheck_23922 {E : mm_Env} {d : Nat} {τ : mm_Mem} {Q : mm_Q0} {a0 : Int} {a1 : Int} {a2 : Int} (h : inR a1 ∧ inR a2 ∧ ((a1 ≤ a2 → V0 E (d + 1) qJ7_rangeCheck_23922 46 [some (vI a0), some (vI a1), some (vI a2)] [] τ Q) ∧ (¬ a1 ≤ a2 → False))) : M0 E (d + 1) qJ7_rangeCheck_23922 [vI a0, vI a1, vI a2] τ Q := M0_ofF (by decide +kernel) (Nat.le_of_ble_eq_true rfl) [some (vI a0), some (vI a1), some (vI a2)] rfl (bJ7_rangeCheck_23922_0  h)
set_option maxRecDepth 20000 in
theorem bJ7_rangeCheck_23922_46 {E : mm_Env} {d : Nat} {τ : mm_Mem} {Q : mm_Q0} {x0 : Int} {x1 : Int} {x2 : Int} (h : inR x1 ∧ ((0 ≤ x1 → inR x2 ∧ inR x0 ∧ ((x2 ≤ x0 → Q none τ) ∧ (¬ x2 ≤ x0 → False))) ∧ (¬ 0 ≤ x1 → False))) : V0 E (d + 1) qJ7_rangeCheck_23922 46 [some (vI x0), some (vI x1), some (vI x2)] [] τ Q := by
  refine u_iload_n (i := 1) (pc' := 47) dJ7_rangeCheck_23922_46 rfl rfl rfl ?_
  obtain ⟨c1, h⟩ := h
  refine u_if_ge (tgt := 59) (pc' := 50) dJ7_rangeCheck_23922_47 rfl (by decide) c1 (fun hb => ?_) (fun hb => ?_)
  · have h := h.1 hb
    refine u_iload_n (i := 2) (pc' := 60) dJ7_rangeCheck_23922_59 rfl rfl rfl ?_
    refine u_iload_n (i := 0) (pc' := 61) dJ7_rangeCheck_23922_60 rfl rfl rfl ?_
    obtain ⟨c2, c3, h⟩ := h
    refine u_icmp_le (tgt := 73) (pc' := 64) dJ7_rangeCheck_23922_61 rfl (by decide) c2 c3 (fun hb => ?_) (fun hb => ?_)
    · have h := h.1 hb
      exact u_ret dJ7_rangeCheck_23922_73 rfl h
    · have h := h.2 hb
      exact h.elim
  · have h := h.2 hb
    exact h.elim
