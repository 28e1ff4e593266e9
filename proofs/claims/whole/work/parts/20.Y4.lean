set_option maxRecDepth 20000 in
theorem bX11_likely_0 {E : mm_Env} {d : Nat} {τ : mm_Mem} {Q : mm_Q0} {a0 : Int} {a1 : Int} (h : M0 E d qX11_isPerson [vR 140, vI a0] τ (fun v τ1 => ∃ b2 : Bool, v = some (vB b2) ∧ ((b2 = false → Q (some (vL (-1))) τ1) ∧ (b2 = true → M0 E d qX11_is [vI a1, vI 1, vI 8] τ1 (fun v τ3 => ∃ b4 : Bool, v = some (vB b4) ∧ ((b4 = false → Q (some (vL (-1))) τ3) ∧ (b4 = true → M0 E d qX11_waysOf [vR 140, vI a0, vI a1, vB false] τ3 (fun v τ5 => ∃ r6 : Int, v = some (vL r6) ∧ Q (some (vL r6)) τ5)))))))) : V0 E (d + 1) qX11_likely 0 [some (vR 140), some (vI a0), some (vI a1)] [] τ Q := by
  refine u_aload_n (i := 0) (pc' := 1) dX11_likely_0 rfl rfl rfl ?_
  refine u_iload_n (i := 1) (pc' := 2) dX11_likely_1 rfl rfl rfl ?_
  refine u_invV (q' := qX11_isPerson) (As := [vI a0]) (st := []) (pc' := 5) dX11_likely_2 rfl gX11_isPerson wm_1704 rfl rfl (by decide) kd_140 wm_1706 wp_113 rfl (Nat.le_of_ble_eq_true rfl) (M0.mono h (fun v τ1 h => ?_))
  obtain ⟨b2, rfl, h⟩ := h
  show V0 E (d + 1) qX11_likely 5 [some (vR 140), some (vI a0), some (vI a1)] [vB b2] τ1 Q
  refine u_if_eq (tgt := 28) (pc' := 8) dX11_likely_5 rfl (by decide) (bI_R _) (fun hb => ?_) (fun hb => ?_)
  · have h := h.1 (bI_0.mp hb)
    refine u_ldc2 (z := (-1)) (pc' := 31) dX11_likely_28 rfl wm_1833 (by decide) ?_
    exact u_lret dX11_likely_31 rfl h
  · have h := h.2 (bI_n0.mp hb)
    refine u_iload_n (i := 2) (pc' := 9) dX11_likely_8 rfl rfl rfl ?_
    refine u_iconst (pc' := 10) dX11_likely_9 rfl ?_
    refine u_bipush (pc' := 12) dX11_likely_10 rfl (by decide) ?_
    refine u_invS (q' := qX11_is) (As := [vI a1, vI 1, vI 8]) (st := []) (pc' := 15) dX11_likely_12 rfl gX11_is wm_1495 wm_1496 rfl (Nat.le_of_ble_eq_true rfl) (M0.mono h (fun v τ3 h => ?_))
    obtain ⟨b4, rfl, h⟩ := h
    show V0 E (d + 1) qX11_likely 15 [some (vR 140), some (vI a0), some (vI a1)] [vB b4] τ3 Q
    refine u_if_eq (tgt := 28) (pc' := 18) dX11_likely_15 rfl (by decide) (bI_R _) (fun hb => ?_) (fun hb => ?_)
    · have h := h.1 (bI_0.mp hb)
      refine u_ldc2 (z := (-1)) (pc' := 31) dX11_likely_28 rfl wm_1833 (by decide) ?_
      exact u_lret dX11_likely_31 rfl h
    · have h := h.2 (bI_n0.mp hb)
      refine u_aload_n (i := 0) (pc' := 19) dX11_likely_18 rfl rfl rfl ?_
      refine u_iload_n (i := 1) (pc' := 20) dX11_likely_19 rfl rfl rfl ?_
      refine u_iload_n (i := 2) (pc' := 21) dX11_likely_20 rfl rfl rfl ?_
      refine u_iconst (pc' := 22) dX11_likely_21 rfl ?_
      refine u_invV (q' := qX11_waysOf) (As := [vI a0, vI a1, vB false]) (st := []) (pc' := 25) dX11_likely_22 rfl gX11_waysOf wm_1827 rfl rfl (by decide) kd_140 wm_1829 wp_129 rfl (Nat.le_of_ble_eq_true rfl) (M0.mono h (fun v τ5 h => ?_))
      obtain ⟨r6, rfl, h⟩ := h
      show V0 E (d + 1) qX11_likely 25 [some (vR 140), some (vI a0), some (vI a1)] [vL r6] τ5 Q
      refine u_goto (tgt := 31) dX11_likely_25 (by decide) ?_
      exact u_lret dX11_likely_31 rfl h
theorem mX11_likely {E : mm_Env} {d : Nat} {τ : mm_Mem} {Q : mm_Q0} {a0 : Int} {a1 : Int} (h : M0 E d qX11_isPerson [vR 140, vI a0] τ (fun v τ1 => ∃ b2 : Bool, v = some (vB b2) ∧ ((b2 = false → Q (some (vL (-1))) τ1) ∧ (b2 = true → M0 E d qX11_is [vI a1, vI 1, vI 8] τ1 (fun v τ3 => ∃ b4 : Bool, v = some (vB b4) ∧ ((b4 = false → Q (some (vL (-1))) τ3) ∧ (b4 = true → M0 E d qX11_waysOf [vR 140, vI a0, vI a1, vB false] τ3 (fun v τ5 => ∃ r6 : Int, v = some (vL r6) ∧ Q (some (vL r6)) τ5)))))))) : M0 E (d + 1) qX11_likely [vR 140, vI a0, vI a1] τ Q := M0_of rfl (Nat.le_of_ble_eq_true rfl) [some (vR 140), some (vI a0), some (vI a1)] rfl (bX11_likely_0  h)
set_option maxRecDepth 20000 in
theorem bX11_waysOf_0 {E : mm_Env} {d : Nat} {τ : mm_Mem} {Q : mm_Q0} {a0 : Int} {a1 : Int} {a2 : Bool} (h : M0 E d qX11_person4 [vR 140, vI a0] τ (fun v τ1 => ∃ r2 : Int, v = some (vI r2) ∧ 0 ≤ r2 ∧ r2 < 8 ∧ M0 E d qX11_keeps [vR 140] τ1 (fun v τ6 => v = none ∧ V0 E (d + 1) qX11_waysOf 22 [some (vR 140), some (vI a0), some (vI a1), some (vB a2), some (vL 0), none, some (vI (τ1 161 r2.toNat)), some (vI 0), none, none, none, none, none, none] [] τ6 Q))) : V0 E (d + 1) qX11_waysOf 0 [some (vR 140), some (vI a0), some (vI a1), some (vB a2), none, none, none, none, none, none, none, none, none, none] [] τ Q := by
  refine u_lconst (z := 0) (pc' := 1) dX11_waysOf_0 rfl (by decide) ?_
  refine s_lstore (i := 4) (ls' := [some (vR 140), some (vI a0), some (vI a1), some (vB a2), some (vL 0), none, none, none, none, none, none, none, none, none]) (pc' := 3) dX11_waysOf_1 rfl (Nat.le_of_ble_eq_true rfl) rfl rfl ?_
  refine u_aload_n (i := 0) (pc' := 4) dX11_waysOf_3 rfl rfl rfl ?_
  refine u_getR (a := 161) (pc' := 7) dX11_waysOf_4 rfl fl_TuneDoorModel_109 rfl (by decide) kd_140 rfl ?_
  refine u_aload_n (i := 0) (pc' := 8) dX11_waysOf_7 rfl rfl rfl ?_
  refine u_iload_n (i := 1) (pc' := 9) dX11_waysOf_8 rfl rfl rfl ?_
  refine u_invV (q' := qX11_person4) (As := [vI a0]) (st := [vR 161]) (pc' := 12) dX11_waysOf_9 rfl gX11_person4 wm_1692 rfl rfl (by decide) kd_140 wm_1694 wp_111 rfl (Nat.le_of_ble_eq_true rfl) (M0.mono h (fun v τ1 h => ?_))
  obtain ⟨r2, rfl, h⟩ := h
  show V0 E (d + 1) qX11_waysOf 12 [some (vR 140), some (vI a0), some (vI a1), some (vB a2), some (vL 0), none, none, none, none, none, none, none, none, none] [vI r2, vR 161] τ1 Q
  obtain ⟨c3, c4, h⟩ := h
  refine u_iaload (k := r2.toNat) (z := (τ1 161 r2.toNat)) (pc' := 13) dX11_waysOf_12 rfl (by decide) kd_161 c3 c4 (by decide) rfl rfl (fun r5 => ?_)
  refine s_istore (i := 6) (ls' := [some (vR 140), some (vI a0), some (vI a1), some (vB a2), some (vL 0), none, some (vI (τ1 161 r2.toNat)), none, none, none, none, none, none, none]) (pc' := 15) dX11_waysOf_13 rfl (Nat.le_of_ble_eq_true rfl) rfl rfl ?_
  refine u_aload_n (i := 0) (pc' := 16) dX11_waysOf_15 rfl rfl rfl ?_
  refine u_invV (q' := qX11_keeps) (As := []) (st := []) (pc' := 19) dX11_waysOf_16 rfl gX11_keeps wm_1803 rfl rfl (by decide) kd_140 wm_1805 wp_126 rfl (Nat.le_of_ble_eq_true rfl) (M0.mono h (fun v τ6 h => ?_))
  obtain ⟨rfl, h⟩ := h
  show V0 E (d + 1) qX11_waysOf 19 [some (vR 140), some (vI a0), some (vI a1), some (vB a2), some (vL 0), none, some (vI (τ1 161 r2.toNat)), none, none, none, none, none, none, none] [] τ6 Q
  refine u_iconst (pc' := 20) dX11_waysOf_19 rfl ?_
  refine s_istore (i := 7) (ls' := [some (vR 140), some (vI a0), some (vI a1), some (vB a2), some (vL 0), none, some (vI (τ1 161 r2.toNat)), some (vI 0), none, none, none, none, none, none]) (pc' := 22) dX11_waysOf_20 rfl (Nat.le_of_ble_eq_true rfl) rfl rfl ?_
  exact u_less (ls' := [some (vR 140), some (vI a0), some (vI a1), some (vB a2), some (vL 0), none, some (vI (τ1 161 r2.toNat)), some (vI 0), none, none, none, none, none, none]) ⟨rfl, ⟨rfl, ⟨rfl, ⟨rfl, ⟨rfl, ⟨rfl, ⟨rfl, trivial⟩⟩⟩⟩⟩⟩⟩ h
theorem mX11_waysOf {E : mm_Env} {d : Nat} {τ : mm_Mem} {Q : mm_Q0} {a0 : Int} {a1 : Int} {a2 : Bool} (h : M0 E d qX11_person4 [vR 140, vI a0] τ (fun v τ1 => ∃ r2 : Int, v = some (vI r2) ∧ 0 ≤ r2 ∧ r2 < 8 ∧ M0 E d qX11_keeps [vR 140] τ1 (fun v τ6 => v = none ∧ V0 E (d + 1) qX11_waysOf 22 [some (vR 140), some (vI a0), some (vI a1), some (vB a2), some (vL 0), none, some (vI (τ1 161 r2.toNat)), some (vI 0), none, none, none, none, none, none] [] τ6 Q))) : M0 E (d + 1) qX11_waysOf [vR 140, vI a0, vI a1, vB a2] τ Q := M0_of rfl (Nat.le_of_ble_eq_true rfl) [some (vR 140), some (vI a0), some (vI a1), some (vB a2), none, none, none, none, none, none, none, none, none, none] rfl (bX11_waysOf_0  h)
set_option maxRecDepth 20000 in
theorem bX11_waysOf_22 {E : mm_Env} {d : Nat} {τ : mm_Mem} {Q : mm_Q0} {x1 : Int} {x2 : Int} {x3 : Bool} {x4 : Int} {x6 : Int} {x7 : Int} (h : inR x7 ∧ inR (mm_shl 1 x2) ∧ (((mm_shl 1 x2) ≤ x7 → Q (some (vL x4)) τ) ∧ (¬ (mm_shl 1 x2) ≤ x7 → V0 E (d + 1) qX11_waysOf 44 [some (vR 140), some (vI x1), some (vI x2), some (vB x3), some (vL x4), none, some (vI x6), some (vI x7), some (vL 1000000000), none, some (vI 0), some (vI 0), some (vI 0), none] [] τ Q))) : V0 E (d + 1) qX11_waysOf 22 [some (vR 140), some (vI x1), some (vI x2), some (vB x3), some (vL x4), none, some (vI x6), some (vI x7), none, none, none, none, none, none] [] τ Q := by
  refine u_iload (i := 7) (pc' := 24) dX11_waysOf_22 rfl rfl ?_
  refine u_iconst (pc' := 25) dX11_waysOf_24 rfl ?_
  refine u_iload_n (i := 2) (pc' := 26) dX11_waysOf_25 rfl rfl rfl ?_
  refine u_ishl (pc' := 27) dX11_waysOf_26 rfl ?_
  obtain ⟨c1, c2, h⟩ := h
  refine u_icmp_ge (tgt := 192) (pc' := 30) dX11_waysOf_27 rfl (by decide) c1 c2 (fun hb => ?_) (fun hb => ?_)
  · have h := h.1 hb
    refine u_lload (i := 4) (pc' := 194) dX11_waysOf_192 rfl rfl ?_
    exact u_lret dX11_waysOf_194 rfl h
  · have h := h.2 hb
    refine u_ldc2 (z := 1000000000) (pc' := 33) dX11_waysOf_30 rfl wm_1831 (by decide) ?_
    refine s_lstore (i := 8) (ls' := [some (vR 140), some (vI x1), some (vI x2), some (vB x3), some (vL x4), none, some (vI x6), some (vI x7), some (vL 1000000000), none, none, none, none, none]) (pc' := 35) dX11_waysOf_33 rfl (Nat.le_of_ble_eq_true rfl) rfl rfl ?_
    refine u_iconst (pc' := 36) dX11_waysOf_35 rfl ?_
    refine s_istore (i := 10) (ls' := [some (vR 140), some (vI x1), some (vI x2), some (vB x3), some (vL x4), none, some (vI x6), some (vI x7), some (vL 1000000000), none, some (vI 0), none, none, none]) (pc' := 38) dX11_waysOf_36 rfl (Nat.le_of_ble_eq_true rfl) rfl rfl ?_
    refine u_iconst (pc' := 39) dX11_waysOf_38 rfl ?_
    refine s_istore (i := 11) (ls' := [some (vR 140), some (vI x1), some (vI x2), some (vB x3), some (vL x4), none, some (vI x6), some (vI x7), some (vL 1000000000), none, some (vI 0), some (vI 0), none, none]) (pc' := 41) dX11_waysOf_39 rfl (Nat.le_of_ble_eq_true rfl) rfl rfl ?_
    refine u_iconst (pc' := 42) dX11_waysOf_41 rfl ?_
    refine s_istore (i := 12) (ls' := [some (vR 140), some (vI x1), some (vI x2), some (vB x3), some (vL x4), none, some (vI x6), some (vI x7), some (vL 1000000000), none, some (vI 0), some (vI 0), some (vI 0), none]) (pc' := 44) dX11_waysOf_42 rfl (Nat.le_of_ble_eq_true rfl) rfl rfl ?_
    exact u_less (ls' := [some (vR 140), some (vI x1), some (vI x2), some (vB x3), some (vL x4), none, some (vI x6), some (vI x7), some (vL 1000000000), none, some (vI 0), some (vI 0), some (vI 0), none]) ⟨rfl, ⟨rfl, ⟨rfl, ⟨rfl, ⟨rfl, ⟨rfl, ⟨rfl, ⟨rfl, ⟨rfl, ⟨rfl, ⟨rfl, trivial⟩⟩⟩⟩⟩⟩⟩⟩⟩⟩⟩ h
set_option maxRecDepth 20000 in
theorem bX11_waysOf_44 {E : mm_Env} {d : Nat} {τ : mm_Mem} {Q : mm_Q0} {x1 : Int} {x2 : Int} {x3 : Bool} {x4 : Int} {x6 : Int} {x7 : Int} {x8 : Int} {x10 : Int} {x11 : Int} {x12 : Int} (h : inR x12 ∧ inR x2 ∧ ((x2 ≤ x12 → ((x3 = false → inR x10 ∧ ((x10 = 0 → M0 E d qX11_back [vR 140] τ (fun v τ4 => v = none ∧ V0 E (d + 1) qX11_waysOf 22 [some (vR 140), some (vI x1), some (vI x2), some (vB x3), some (vL (x4 + 0)), none, some (vI x6), some (vI (x7 + 1)), none, none, none, none, none, none] [] τ4 Q)) ∧ (¬ x10 = 0 → M0 E d qX11_back [vR 140] τ (fun v τ5 => v = none ∧ V0 E (d + 1) qX11_waysOf 22 [some (vR 140), some (vI x1), some (vI x2), some (vB x3), some (vL (x4 + x8)), none, some (vI x6), some (vI (x7 + 1)), none, none, none, none, none, none] [] τ5 Q)))) ∧ (x3 = true → inR x11 ∧ ((x11 = 0 → M0 E d qX11_back [vR 140] τ (fun v τ7 => v = none ∧ V0 E (d + 1) qX11_waysOf 22 [some (vR 140), some (vI x1), some (vI x2), some (vB x3), some (vL (x4 + 0)), none, some (vI x6), some (vI (x7 + 1)), none, none, none, none, none, none] [] τ7 Q)) ∧ (¬ x11 = 0 → M0 E d qX11_back [vR 140] τ (fun v τ8 => v = none ∧ V0 E (d + 1) qX11_waysOf 22 [some (vR 140), some (vI x1), some (vI x2), some (vB x3), some (vL (x4 + x8)), none, some (vI x6), some (vI (x7 + 1)), none, none, none, none, none, none] [] τ8 Q)))))) ∧ (¬ x2 ≤ x12 → inR (mm_and (mm_shr x7 x12) 1) ∧ (((mm_and (mm_shr x7 x12) 1) ≠ 1 → V0 E (d + 1) qX11_waysOf 66 [some (vR 140), some (vI x1), some (vI x2), some (vB x3), some (vL x4), none, some (vI x6), some (vI x7), some (vL x8), none, none, some (vI x11), some (vI x12), none] [vI 0] τ Q) ∧ ((mm_and (mm_shr x7 x12) 1) = 1 → V0 E (d + 1) qX11_waysOf 66 [some (vR 140), some (vI x1), some (vI x2), some (vB x3), some (vL x4), none, some (vI x6), some (vI x7), some (vL x8), none, none, some (vI x11), some (vI x12), none] [vI 1] τ Q))))) : V0 E (d + 1) qX11_waysOf 44 [some (vR 140), some (vI x1), some (vI x2), some (vB x3), some (vL x4), none, some (vI x6), some (vI x7), some (vL x8), none, some (vI x10), some (vI x11), some (vI x12), none] [] τ Q := by
  refine u_iload (i := 12) (pc' := 46) dX11_waysOf_44 rfl rfl ?_
  refine u_iload_n (i := 2) (pc' := 47) dX11_waysOf_46 rfl rfl rfl ?_
  obtain ⟨c1, c2, h⟩ := h
  refine u_icmp_ge (tgt := 154) (pc' := 50) dX11_waysOf_47 rfl (by decide) c1 c2 (fun hb => ?_) (fun hb => ?_)
  · have h := h.1 hb
    refine u_lload (i := 4) (pc' := 156) dX11_waysOf_154 rfl rfl ?_
    refine u_iload_n (i := 3) (pc' := 157) dX11_waysOf_156 rfl rfl rfl ?_
    refine u_if_eq (tgt := 168) (pc' := 160) dX11_waysOf_157 rfl (by decide) (bI_R _) (fun hb => ?_) (fun hb => ?_)
    · have h := h.1 (bI_0.mp hb)
      refine u_iload (i := 10) (pc' := 170) dX11_waysOf_168 rfl rfl ?_
      obtain ⟨c3, h⟩ := h
      refine u_if_eq (tgt := 178) (pc' := 173) dX11_waysOf_170 rfl (by decide) c3 (fun hb => ?_) (fun hb => ?_)
      · have h := h.1 hb
        refine u_lconst (z := 0) (pc' := 179) dX11_waysOf_178 rfl (by decide) ?_
        refine u_ladd (pc' := 180) dX11_waysOf_179 rfl ?_
        refine s_lstore (i := 4) (ls' := [some (vR 140), some (vI x1), some (vI x2), some (vB x3), some (vL (x4 + 0)), none, some (vI x6), some (vI x7), some (vL x8), none, some (vI x10), some (vI x11), some (vI x12), none]) (pc' := 182) dX11_waysOf_180 rfl (Nat.le_of_ble_eq_true rfl) rfl rfl ?_
        refine u_aload_n (i := 0) (pc' := 183) dX11_waysOf_182 rfl rfl rfl ?_
        refine u_invV (q' := qX11_back) (As := []) (st := []) (pc' := 186) dX11_waysOf_183 rfl gX11_back wm_1811 rfl rfl (by decide) kd_140 wm_1813 wp_128 rfl (Nat.le_of_ble_eq_true rfl) (M0.mono h (fun v τ4 h => ?_))
        obtain ⟨rfl, h⟩ := h
        show V0 E (d + 1) qX11_waysOf 186 [some (vR 140), some (vI x1), some (vI x2), some (vB x3), some (vL (x4 + 0)), none, some (vI x6), some (vI x7), some (vL x8), none, some (vI x10), some (vI x11), some (vI x12), none] [] τ4 Q
        refine s_iinc (i := 7) (ls' := [some (vR 140), some (vI x1), some (vI x2), some (vB x3), some (vL (x4 + 0)), none, some (vI x6), some (vI (x7 + 1)), some (vL x8), none, some (vI x10), some (vI x11), some (vI x12), none]) (pc' := 189) dX11_waysOf_186 rfl rfl (Nat.le_of_ble_eq_true rfl) rfl rfl ?_
        refine u_goto (tgt := 22) dX11_waysOf_189 (by decide) ?_
        exact u_less (ls' := [some (vR 140), some (vI x1), some (vI x2), some (vB x3), some (vL (x4 + 0)), none, some (vI x6), some (vI (x7 + 1)), none, none, none, none, none, none]) ⟨rfl, ⟨rfl, ⟨rfl, ⟨rfl, ⟨rfl, ⟨rfl, ⟨rfl, trivial⟩⟩⟩⟩⟩⟩⟩ h
      · have h := h.2 hb
        refine u_lload (i := 8) (pc' := 175) dX11_waysOf_173 rfl rfl ?_
        refine u_goto (tgt := 179) dX11_waysOf_175 (by decide) ?_
        refine u_ladd (pc' := 180) dX11_waysOf_179 rfl ?_
        refine s_lstore (i := 4) (ls' := [some (vR 140), some (vI x1), some (vI x2), some (vB x3), some (vL (x4 + x8)), none, some (vI x6), some (vI x7), some (vL x8), none, some (vI x10), some (vI x11), some (vI x12), none]) (pc' := 182) dX11_waysOf_180 rfl (Nat.le_of_ble_eq_true rfl) rfl rfl ?_
        refine u_aload_n (i := 0) (pc' := 183) dX11_waysOf_182 rfl rfl rfl ?_
        refine u_invV (q' := qX11_back) (As := []) (st := []) (pc' := 186) dX11_waysOf_183 rfl gX11_back wm_1811 rfl rfl (by decide) kd_140 wm_1813 wp_128 rfl (Nat.le_of_ble_eq_true rfl) (M0.mono h (fun v τ5 h => ?_))
        obtain ⟨rfl, h⟩ := h
        show V0 E (d + 1) qX11_waysOf 186 [some (vR 140), some (vI x1), some (vI x2), some (vB x3), some (vL (x4 + x8)), none, some (vI x6), some (vI x7), some (vL x8), none, some (vI x10), some (vI x11), some (vI x12), none] [] τ5 Q
        refine s_iinc (i := 7) (ls' := [some (vR 140), some (vI x1), some (vI x2), some (vB x3), some (vL (x4 + x8)), none, some (vI x6), some (vI (x7 + 1)), some (vL x8), none, some (vI x10), some (vI x11), some (vI x12), none]) (pc' := 189) dX11_waysOf_186 rfl rfl (Nat.le_of_ble_eq_true rfl) rfl rfl ?_
        refine u_goto (tgt := 22) dX11_waysOf_189 (by decide) ?_
        exact u_less (ls' := [some (vR 140), some (vI x1), some (vI x2), some (vB x3), some (vL (x4 + x8)), none, some (vI x6), some (vI (x7 + 1)), none, none, none, none, none, none]) ⟨rfl, ⟨rfl, ⟨rfl, ⟨rfl, ⟨rfl, ⟨rfl, ⟨rfl, trivial⟩⟩⟩⟩⟩⟩⟩ h
    · have h := h.2 (bI_n0.mp hb)
      refine u_iload (i := 11) (pc' := 162) dX11_waysOf_160 rfl rfl ?_
      obtain ⟨c6, h⟩ := h
      refine u_if_eq (tgt := 178) (pc' := 165) dX11_waysOf_162 rfl (by decide) c6 (fun hb => ?_) (fun hb => ?_)
      · have h := h.1 hb
        refine u_lconst (z := 0) (pc' := 179) dX11_waysOf_178 rfl (by decide) ?_
        refine u_ladd (pc' := 180) dX11_waysOf_179 rfl ?_
        refine s_lstore (i := 4) (ls' := [some (vR 140), some (vI x1), some (vI x2), some (vB x3), some (vL (x4 + 0)), none, some (vI x6), some (vI x7), some (vL x8), none, some (vI x10), some (vI x11), some (vI x12), none]) (pc' := 182) dX11_waysOf_180 rfl (Nat.le_of_ble_eq_true rfl) rfl rfl ?_
        refine u_aload_n (i := 0) (pc' := 183) dX11_waysOf_182 rfl rfl rfl ?_
        refine u_invV (q' := qX11_back) (As := []) (st := []) (pc' := 186) dX11_waysOf_183 rfl gX11_back wm_1811 rfl rfl (by decide) kd_140 wm_1813 wp_128 rfl (Nat.le_of_ble_eq_true rfl) (M0.mono h (fun v τ7 h => ?_))
        obtain ⟨rfl, h⟩ := h
        show V0 E (d + 1) qX11_waysOf 186 [some (vR 140), some (vI x1), some (vI x2), some (vB x3), some (vL (x4 + 0)), none, some (vI x6), some (vI x7), some (vL x8), none, some (vI x10), some (vI x11), some (vI x12), none] [] τ7 Q
        refine s_iinc (i := 7) (ls' := [some (vR 140), some (vI x1), some (vI x2), some (vB x3), some (vL (x4 + 0)), none, some (vI x6), some (vI (x7 + 1)), some (vL x8), none, some (vI x10), some (vI x11), some (vI x12), none]) (pc' := 189) dX11_waysOf_186 rfl rfl (Nat.le_of_ble_eq_true rfl) rfl rfl ?_
        refine u_goto (tgt := 22) dX11_waysOf_189 (by decide) ?_
        exact u_less (ls' := [some (vR 140), some (vI x1), some (vI x2), some (vB x3), some (vL (x4 + 0)), none, some (vI x6), some (vI (x7 + 1)), none, none, none, none, none, none]) ⟨rfl, ⟨rfl, ⟨rfl, ⟨rfl, ⟨rfl, ⟨rfl, ⟨rfl, trivial⟩⟩⟩⟩⟩⟩⟩ h
      · have h := h.2 hb
        refine u_goto (tgt := 173) dX11_waysOf_165 (by decide) ?_
        refine u_lload (i := 8) (pc' := 175) dX11_waysOf_173 rfl rfl ?_
        refine u_goto (tgt := 179) dX11_waysOf_175 (by decide) ?_
        refine u_ladd (pc' := 180) dX11_waysOf_179 rfl ?_
        refine s_lstore (i := 4) (ls' := [some (vR 140), some (vI x1), some (vI x2), some (vB x3), some (vL (x4 + x8)), none, some (vI x6), some (vI x7), some (vL x8), none, some (vI x10), some (vI x11), some (vI x12), none]) (pc' := 182) dX11_waysOf_180 rfl (Nat.le_of_ble_eq_true rfl) rfl rfl ?_
        refine u_aload_n (i := 0) (pc' := 183) dX11_waysOf_182 rfl rfl rfl ?_
        refine u_invV (q' := qX11_back) (As := []) (st := []) (pc' := 186) dX11_waysOf_183 rfl gX11_back wm_1811 rfl rfl (by decide) kd_140 wm_1813 wp_128 rfl (Nat.le_of_ble_eq_true rfl) (M0.mono h (fun v τ8 h => ?_))
        obtain ⟨rfl, h⟩ := h
        show V0 E (d + 1) qX11_waysOf 186 [some (vR 140), some (vI x1), some (vI x2), some (vB x3), some (vL (x4 + x8)), none, some (vI x6), some (vI x7), some (vL x8), none, some (vI x10), some (vI x11), some (vI x12), none] [] τ8 Q
        refine s_iinc (i := 7) (ls' := [some (vR 140), some (vI x1), some (vI x2), some (vB x3), some (vL (x4 + x8)), none, some (vI x6), some (vI (x7 + 1)), some (vL x8), none, some (vI x10), some (vI x11), some (vI x12), none]) (pc' := 189) dX11_waysOf_186 rfl rfl (Nat.le_of_ble_eq_true rfl) rfl rfl ?_
        refine u_goto (tgt := 22) dX11_waysOf_189 (by decide) ?_
        exact u_less (ls' := [some (vR 140), some (vI x1), some (vI x2), some (vB x3), some (vL (x4 + x8)), none, some (vI x6), some (vI (x7 + 1)), none, none, none, none, none, none]) ⟨rfl, ⟨rfl, ⟨rfl, ⟨rfl, ⟨rfl, ⟨rfl, ⟨rfl, trivial⟩⟩⟩⟩⟩⟩⟩ h
  · have h := h.2 hb
    refine u_iload (i := 7) (pc' := 52) dX11_waysOf_50 rfl rfl ?_
    refine u_iload (i := 12) (pc' := 54) dX11_waysOf_52 rfl rfl ?_
    refine u_ishr (pc' := 55) dX11_waysOf_54 rfl ?_
    refine u_iconst (pc' := 56) dX11_waysOf_55 rfl ?_
    refine u_iand (pc' := 57) dX11_waysOf_56 rfl ?_
    refine u_iconst (pc' := 58) dX11_waysOf_57 rfl ?_
    obtain ⟨c9, h⟩ := h
    refine u_icmp_ne (tgt := 65) (pc' := 61) dX11_waysOf_58 rfl (by decide) c9 ⟨by decide, by decide⟩ (fun hb => ?_) (fun hb => ?_)
    · have h := h.1 hb
      refine u_iconst (pc' := 66) dX11_waysOf_65 rfl ?_
      exact u_less (ls' := [some (vR 140), some (vI x1), some (vI x2), some (vB x3), some (vL x4), none, some (vI x6), some (vI x7), some (vL x8), none, none, some (vI x11), some (vI x12), none]) ⟨rfl, ⟨rfl, ⟨rfl, ⟨rfl, ⟨rfl, ⟨rfl, ⟨rfl, ⟨rfl, ⟨rfl, ⟨rfl, trivial⟩⟩⟩⟩⟩⟩⟩⟩⟩⟩ h
    · have h := h.2 hb
      refine u_iconst (pc' := 62) dX11_waysOf_61 rfl ?_
      refine u_goto (tgt := 66) dX11_waysOf_62 (by decide) ?_
      exact u_less (ls' := [some (vR 140), some (vI x1), some (vI x2), some (vB x3), some (vL x4), none, some (vI x6), some (vI x7), some (vL x8), none, none, some (vI x11), some (vI x12), none]) ⟨rfl, ⟨rfl, ⟨rfl, ⟨rfl, ⟨rfl, ⟨rfl, ⟨rfl, ⟨rfl, ⟨rfl, ⟨rfl, trivial⟩⟩⟩⟩⟩⟩⟩⟩⟩⟩ h
set_option maxRecDepth 20000 in
theorem bX11_waysOf_66 {E : mm_Env} {d : Nat} {τ : mm_Mem} {Q : mm_Q0} {x1 : Int} {x2 : Int} {x3 : Bool} {x4 : Int} {x6 : Int} {x7 : Int} {x8 : Int} {x11 : Int} {x12 : Int} {y0 : Int} (h : inR y0 ∧ ((y0 = 0 → inR (100 - x6) ∧ inL (x8 * (100 - x6)) ∧ 0 ≤ x1 ∧ x1 < 4 ∧ ((y0 = 0 → V0 E (d + 1) qX11_waysOf 122 [some (vR 140), some (vI x1), some (vI x2), some (vB x3), some (vL x4), none, some (vI x6), some (vI x7), some (vL (Int.tdiv (x8 * (100 - x6)) 100)), none, none, some (vI x11), some (vI x12), none] [vI 0, vI (τ 179 x1.toNat), vI x1, vR 179] τ Q) ∧ (¬ y0 = 0 → 0 ≤ x1 ∧ x1 < 4 ∧ ((1000 ≤ (τ 179 x1.toNat) → V0 E (d + 1) qX11_waysOf 122 [some (vR 140), some (vI x1), some (vI x2), some (vB x3), some (vL x4), none, some (vI x6), some (vI x7), some (vL (Int.tdiv (x8 * (100 - x6)) 100)), none, none, some (vI x11), some (vI x12), none] [vI 0, vI (τ 179 x1.toNat), vI x1, vR 179] τ Q) ∧ (¬ 1000 ≤ (τ 179 x1.toNat) → V0 E (d + 1) qX11_waysOf 122 [some (vR 140), some (vI x1), some (vI x2), some (vB x3), some (vL x4), none, some (vI x6), some (vI x7), some (vL (Int.tdiv (x8 * (100 - x6)) 100)), none, none, some (vI x11), some (vI x12), none] [vI 1, vI (τ 179 x1.toNat), vI x1, vR 179] τ Q))))) ∧ (¬ y0 = 0 → inR x6 ∧ inL (x8 * x6) ∧ 0 ≤ x1 ∧ x1 < 4 ∧ ((y0 = 0 → V0 E (d + 1) qX11_waysOf 122 [some (vR 140), some (vI x1), some (vI x2), some (vB x3), some (vL x4), none, some (vI x6), some (vI x7), some (vL (Int.tdiv (x8 * x6) 100)), none, none, some (vI x11), some (vI x12), none] [vI 0, vI (τ 179 x1.toNat), vI x1, vR 179] τ Q) ∧ (¬ y0 = 0 → 0 ≤ x1 ∧ x1 < 4 ∧ ((1000 ≤ (τ 179 x1.toNat) → V0 E (d + 1) qX11_waysOf 122 [some (vR 140), some (vI x1), some (vI x2), some (vB x3), some (vL x4), none, some (vI x6), some (vI x7), some (vL (Int.tdiv (x8 * x6) 100)), none, none, some (vI x11), some (vI x12), none] [vI 0, vI (τ 179 x1.toNat), vI x1, vR 179] τ Q) ∧ (¬ 1000 ≤ (τ 179 x1.toNat) → V0 E (d + 1) qX11_waysOf 122 [some (vR 140), some (vI x1), some (vI x2), some (vB x3), some (vL x4), none, some (vI x6), some (vI x7), some (vL (Int.tdiv (x8 * x6) 100)), none, none, some (vI x11), some (vI x12), none] [vI 1, vI (τ 179 x1.toNat), vI x1, vR 179] τ Q))))))) : V0 E (d + 1) qX11_waysOf 66 [some (vR 140), some (vI x1), some (vI x2), some (vB x3), some (vL x4), none, some (vI x6), some (vI x7), some (vL x8), none, none, some (vI x11), some (vI x12), none] [vI y0] τ Q := by
  refine s_istore (i := 13) (ls' := [some (vR 140), some (vI x1), some (vI x2), some (vB x3), some (vL x4), none, some (vI x6), some (vI x7), some (vL x8), none, none, some (vI x11), some (vI x12), some (vI y0)]) (pc' := 68) dX11_waysOf_66 rfl (Nat.le_of_ble_eq_true rfl) rfl rfl ?_
  refine u_lload (i := 8) (pc' := 70) dX11_waysOf_68 rfl rfl ?_
  refine u_iload (i := 13) (pc' := 72) dX11_waysOf_70 rfl rfl ?_
  obtain ⟨c1, h⟩ := h
  refine u_if_eq (tgt := 80) (pc' := 75) dX11_waysOf_72 rfl (by decide) c1 (fun hb => ?_) (fun hb => ?_)
  · have h := h.1 hb
    refine u_bipush (pc' := 82) dX11_waysOf_80 rfl (by decide) ?_
    refine u_iload (i := 6) (pc' := 84) dX11_waysOf_82 rfl rfl ?_
    refine u_isub (pc' := 85) dX11_waysOf_84 rfl ?_
    obtain ⟨c2, h⟩ := h
    refine u_i2l (pc' := 86) dX11_waysOf_85 rfl c2 ?_
    refine u_lmul (pc' := 87) dX11_waysOf_86 rfl ?_
    refine u_ldc2 (z := 100) (pc' := 90) dX11_waysOf_87 rfl wm_1832 (by decide) ?_
    obtain ⟨c3, h⟩ := h
    refine u_ldiv (pc' := 91) dX11_waysOf_90 rfl c3 ⟨by decide, by decide⟩ (by decide) ?_
    refine s_lstore (i := 8) (ls' := [some (vR 140), some (vI x1), some (vI x2), some (vB x3), some (vL x4), none, some (vI x6), some (vI x7), some (vL (Int.tdiv (x8 * (100 - x6)) 100)), none, none, some (vI x11), some (vI x12), some (vI y0)]) (pc' := 93) dX11_waysOf_91 rfl (Nat.le_of_ble_eq_true rfl) rfl rfl ?_
    refine u_aload_n (i := 0) (pc' := 94) dX11_waysOf_93 rfl rfl rfl ?_
    refine u_getR (a := 179) (pc' := 97) dX11_waysOf_94 rfl fl_TuneDoorModel_183 rfl (by decide) kd_140 rfl ?_
    refine u_iload_n (i := 1) (pc' := 98) dX11_waysOf_97 rfl rfl rfl ?_
    refine u_dup2 (pc' := 99) dX11_waysOf_98 rfl (fun _ hh => by cases hh) (fun _ hh => by cases hh) ?_
    obtain ⟨c4, c5, h⟩ := h
    refine u_iaload (k := x1.toNat) (z := (τ 179 x1.toNat)) (pc' := 100) dX11_waysOf_99 rfl (by decide) kd_179 c4 c5 (by decide) rfl rfl (fun r6 => ?_)
    refine u_iload (i := 13) (pc' := 102) dX11_waysOf_100 rfl rfl ?_
    refine u_if_eq (tgt := 121) (pc' := 105) dX11_waysOf_102 rfl (by decide) c1 (fun hb => ?_) (fun hb => ?_)
    · have h := h.1 hb
      refine u_iconst (pc' := 122) dX11_waysOf_121 rfl ?_
      exact u_less (ls' := [some (vR 140), some (vI x1), some (vI x2), some (vB x3), some (vL x4), none, some (vI x6), some (vI x7), some (vL (Int.tdiv (x8 * (100 - x6)) 100)), none, none, some (vI x11), some (vI x12), none]) ⟨rfl, ⟨rfl, ⟨rfl, ⟨rfl, ⟨rfl, ⟨rfl, ⟨rfl, ⟨rfl, ⟨rfl, ⟨rfl, trivial⟩⟩⟩⟩⟩⟩⟩⟩⟩⟩ h
    · have h := h.2 hb
      refine u_aload_n (i := 0) (pc' := 106) dX11_waysOf_105 rfl rfl rfl ?_
      refine u_getR (a := 179) (pc' := 109) dX11_waysOf_106 rfl fl_TuneDoorModel_183 rfl (by decide) kd_140 rfl ?_
      refine u_iload_n (i := 1) (pc' := 110) dX11_waysOf_109 rfl rfl rfl ?_
      obtain ⟨c7, c8, h⟩ := h
      refine u_iaload (k := x1.toNat) (z := (τ 179 x1.toNat)) (pc' := 111) dX11_waysOf_110 rfl (by decide) kd_179 c7 c8 (by decide) rfl rfl (fun r9 => ?_)
      refine u_sipush (pc' := 114) dX11_waysOf_111 rfl (by decide) ?_
      refine u_icmp_ge (tgt := 121) (pc' := 117) dX11_waysOf_114 rfl (by decide) r9 ⟨by decide, by decide⟩ (fun hb => ?_) (fun hb => ?_)
      · have h := h.1 hb
        refine u_iconst (pc' := 122) dX11_waysOf_121 rfl ?_
        exact u_less (ls' := [some (vR 140), some (vI x1), some (vI x2), some (vB x3), some (vL x4), none, some (vI x6), some (vI x7), some (vL (Int.tdiv (x8 * (100 - x6)) 100)), none, none, some (vI x11), some (vI x12), none]) ⟨rfl, ⟨rfl, ⟨rfl, ⟨rfl, ⟨rfl, ⟨rfl, ⟨rfl, ⟨rfl, ⟨rfl, ⟨rfl, trivial⟩⟩⟩⟩⟩⟩⟩⟩⟩⟩ h
      · have h := h.2 hb
        refine u_iconst (pc' := 118) dX11_waysOf_117 rfl ?_
        refine u_goto (tgt := 122) dX11_waysOf_118 (by decide) ?_
        exact u_less (ls' := [some (vR 140), some (vI x1), some (vI x2), some (vB x3), some (vL x4), none, some (vI x6), some (vI x7), some (vL (Int.tdiv (x8 * (100 - x6)) 100)), none, none, some (vI x11), some (vI x12), none]) ⟨rfl, ⟨rfl, ⟨rfl, ⟨rfl, ⟨rfl, ⟨rfl, ⟨rfl, ⟨rfl, ⟨rfl, ⟨rfl, trivial⟩⟩⟩⟩⟩⟩⟩⟩⟩⟩ h
  · have h := h.2 hb
    refine u_iload (i := 6) (pc' := 77) dX11_waysOf_75 rfl rfl ?_
    refine u_goto (tgt := 85) dX11_waysOf_77 (by decide) ?_
    obtain ⟨c10, h⟩ := h
    refine u_i2l (pc' := 86) dX11_waysOf_85 rfl c10 ?_
    refine u_lmul (pc' := 87) dX11_waysOf_86 rfl ?_
    refine u_ldc2 (z := 100) (pc' := 90) dX11_waysOf_87 rfl wm_1832 (by decide) ?_
    obtain ⟨c11, h⟩ := h
    refine u_ldiv (pc' := 91) dX11_waysOf_90 rfl c11 ⟨by decide, by decide⟩ (by decide) ?_
    refine s_lstore (i := 8) (ls' := [some (vR 140), some (vI x1), some (vI x2), some (vB x3), some (vL x4), none, some (vI x6), some (vI x7), some (vL (Int.tdiv (x8 * x6) 100)), none, none, some (vI x11), some (vI x12), some (vI y0)]) (pc' := 93) dX11_waysOf_91 rfl (Nat.le_of_ble_eq_true rfl) rfl rfl ?_
    refine u_aload_n (i := 0) (pc' := 94) dX11_waysOf_93 rfl rfl rfl ?_
    refine u_getR (a := 179) (pc' := 97) dX11_waysOf_94 rfl fl_TuneDoorModel_183 rfl (by decide) kd_140 rfl ?_
    refine u_iload_n (i := 1) (pc' := 98) dX11_waysOf_97 rfl rfl rfl ?_
    refine u_dup2 (pc' := 99) dX11_waysOf_98 rfl (fun _ hh => by cases hh) (fun _ hh => by cases hh) ?_
    obtain ⟨c12, c13, h⟩ := h
    refine u_iaload (k := x1.toNat) (z := (τ 179 x1.toNat)) (pc' := 100) dX11_waysOf_99 rfl (by decide) kd_179 c12 c13 (by decide) rfl rfl (fun r14 => ?_)
    refine u_iload (i := 13) (pc' := 102) dX11_waysOf_100 rfl rfl ?_
    refine u_if_eq (tgt := 121) (pc' := 105) dX11_waysOf_102 rfl (by decide) c1 (fun hb => ?_) (fun hb => ?_)
    · have h := h.1 hb
      refine u_iconst (pc' := 122) dX11_waysOf_121 rfl ?_
      exact u_less (ls' := [some (vR 140), some (vI x1), some (vI x2), some (vB x3), some (vL x4), none, some (vI x6), some (vI x7), some (vL (Int.tdiv (x8 * x6) 100)), none, none, some (vI x11), some (vI x12), none]) ⟨rfl, ⟨rfl, ⟨rfl, ⟨rfl, ⟨rfl, ⟨rfl, ⟨rfl, ⟨rfl, ⟨rfl, ⟨rfl, trivial⟩⟩⟩⟩⟩⟩⟩⟩⟩⟩ h
    · have h := h.2 hb
      refine u_aload_n (i := 0) (pc' := 106) dX11_waysOf_105 rfl rfl rfl ?_
      refine u_getR (a := 179) (pc' := 109) dX11_waysOf_106 rfl fl_TuneDoorModel_183 rfl (by decide) kd_140 rfl ?_
      refine u_iload_n (i := 1) (pc' := 110) dX11_waysOf_109 rfl rfl rfl ?_
      obtain ⟨c15, c16, h⟩ := h
      refine u_iaload (k := x1.toNat) (z := (τ 179 x1.toNat)) (pc' := 111) dX11_waysOf_110 rfl (by decide) kd_179 c15 c16 (by decide) rfl rfl (fun r17 => ?_)
      refine u_sipush (pc' := 114) dX11_waysOf_111 rfl (by decide) ?_
      refine u_icmp_ge (tgt := 121) (pc' := 117) dX11_waysOf_114 rfl (by decide) r17 ⟨by decide, by decide⟩ (fun hb => ?_) (fun hb => ?_)
      · have h := h.1 hb
        refine u_iconst (pc' := 122) dX11_waysOf_121 rfl ?_
        exact u_less (ls' := [some (vR 140), some (vI x1), some (vI x2), some (vB x3), some (vL x4), none, some (vI x6), some (vI x7), some (vL (Int.tdiv (x8 * x6) 100)), none, none, some (vI x11), some (vI x12), none]) ⟨rfl, ⟨rfl, ⟨rfl, ⟨rfl, ⟨rfl, ⟨rfl, ⟨rfl, ⟨rfl, ⟨rfl, ⟨rfl, trivial⟩⟩⟩⟩⟩⟩⟩⟩⟩⟩ h
      · have h := h.2 hb
        refine u_iconst (pc' := 118) dX11_waysOf_117 rfl ?_
        refine u_goto (tgt := 122) dX11_waysOf_118 (by decide) ?_
        exact u_less (ls' := [some (vR 140), some (vI x1), some (vI x2), some (vB x3), some (vL x4), none, some (vI x6), some (vI x7), some (vL (Int.tdiv (x8 * x6) 100)), none, none, some (vI x11), some (vI x12), none]) ⟨rfl, ⟨rfl, ⟨rfl, ⟨rfl, ⟨rfl, ⟨rfl, ⟨rfl, ⟨rfl, ⟨rfl, ⟨rfl, trivial⟩⟩⟩⟩⟩⟩⟩⟩⟩⟩ h
set_option maxRecDepth 20000 in
theorem bX11_waysOf_122 {E : mm_Env} {d : Nat} {τ : mm_Mem} {Q : mm_Q0} {x1 : Int} {x2 : Int} {x3 : Bool} {x4 : Int} {x6 : Int} {x7 : Int} {x8 : Int} {x11 : Int} {x12 : Int} {y0 : Int} {y1 : Int} {y2 : Int} (h : 0 ≤ y2 ∧ y2 < 4 ∧ inR (y1 + y0) ∧ M0 E d qX11_isLetIn [vR 140, vI x1] (wr τ 179 y2.toNat (y1 + y0)) (fun v τ4 => ∃ b5 : Bool, v = some (vB b5) ∧ inR x11 ∧ ((x11 ≠ 0 → V0 E (d + 1) qX11_waysOf 44 [some (vR 140), some (vI x1), some (vI x2), some (vB x3), some (vL x4), none, some (vI x6), some (vI x7), some (vL x8), none, some (vI (bI b5)), some (vI 1), some (vI (x12 + 1)), none] [] τ4 Q) ∧ (x11 = 0 → ((b5 = true → V0 E (d + 1) qX11_waysOf 44 [some (vR 140), some (vI x1), some (vI x2), some (vB x3), some (vL x4), none, some (vI x6), some (vI x7), some (vL x8), none, some (vI (bI b5)), some (vI 0), some (vI (x12 + 1)), none] [] τ4 Q) ∧ (b5 = false → V0 E (d + 1) qX11_waysOf 44 [some (vR 140), some (vI x1), some (vI x2), some (vB x3), some (vL x4), none, some (vI x6), some (vI x7), some (vL x8), none, some (vI (bI b5)), some (vI 1), some (vI (x12 + 1)), none] [] τ4 Q)))))) : V0 E (d + 1) qX11_waysOf 122 [some (vR 140), some (vI x1), some (vI x2), some (vB x3), some (vL x4), none, some (vI x6), some (vI x7), some (vL x8), none, none, some (vI x11), some (vI x12), none] [vI y0, vI y1, vI y2, vR 179] τ Q := by
  refine u_iadd (pc' := 123) dX11_waysOf_122 rfl ?_
  obtain ⟨c1, c2, c3, h⟩ := h
  refine u_iastore (k := y2.toNat) (pc' := 124) dX11_waysOf_123 rfl (by decide) kd_179 c1 c2 (by decide) rfl c3 ?_
  refine u_aload_n (i := 0) (pc' := 125) dX11_waysOf_124 rfl rfl rfl ?_
  refine u_iload_n (i := 1) (pc' := 126) dX11_waysOf_125 rfl rfl rfl ?_
  refine u_invV (q' := qX11_isLetIn) (As := [vI x1]) (st := []) (pc' := 129) dX11_waysOf_126 rfl gX11_isLetIn wm_1807 rfl rfl (by decide) kd_140 wm_1809 wp_127 rfl (Nat.le_of_ble_eq_true rfl) (M0.mono h (fun v τ4 h => ?_))
  obtain ⟨b5, rfl, h⟩ := h
  show V0 E (d + 1) qX11_waysOf 129 [some (vR 140), some (vI x1), some (vI x2), some (vB x3), some (vL x4), none, some (vI x6), some (vI x7), some (vL x8), none, none, some (vI x11), some (vI x12), none] [vB b5] τ4 Q
  refine s_istore (i := 10) (ls' := [some (vR 140), some (vI x1), some (vI x2), some (vB x3), some (vL x4), none, some (vI x6), some (vI x7), some (vL x8), none, some (vB b5), some (vI x11), some (vI x12), none]) (pc' := 131) dX11_waysOf_129 rfl (Nat.le_of_ble_eq_true rfl) rfl rfl ?_
  refine u_iload (i := 11) (pc' := 133) dX11_waysOf_131 rfl rfl ?_
  obtain ⟨c6, h⟩ := h
  refine u_if_ne (tgt := 141) (pc' := 136) dX11_waysOf_133 rfl (by decide) c6 (fun hb => ?_) (fun hb => ?_)
  · have h := h.1 hb
    refine u_iconst (pc' := 142) dX11_waysOf_141 rfl ?_
    refine u_goto (tgt := 146) dX11_waysOf_142 (by decide) ?_
    refine s_istore (i := 11) (ls' := [some (vR 140), some (vI x1), some (vI x2), some (vB x3), some (vL x4), none, some (vI x6), some (vI x7), some (vL x8), none, some (vB b5), some (vI 1), some (vI x12), none]) (pc' := 148) dX11_waysOf_146 rfl (Nat.le_of_ble_eq_true rfl) rfl rfl ?_
    refine s_iinc (i := 12) (ls' := [some (vR 140), some (vI x1), some (vI x2), some (vB x3), some (vL x4), none, some (vI x6), some (vI x7), some (vL x8), none, some (vB b5), some (vI 1), some (vI (x12 + 1)), none]) (pc' := 151) dX11_waysOf_148 rfl rfl (Nat.le_of_ble_eq_true rfl) rfl rfl ?_
    refine u_goto (tgt := 44) dX11_waysOf_151 (by decide) ?_
    exact u_less (ls' := [some (vR 140), some (vI x1), some (vI x2), some (vB x3), some (vL x4), none, some (vI x6), some (vI x7), some (vL x8), none, some (vI (bI b5)), some (vI 1), some (vI (x12 + 1)), none]) ⟨rfl, ⟨rfl, ⟨rfl, ⟨rfl, ⟨rfl, ⟨rfl, ⟨rfl, ⟨rfl, ⟨rfl, ⟨rfl, ⟨rfl, trivial⟩⟩⟩⟩⟩⟩⟩⟩⟩⟩⟩ h
  · have h := h.2 hb
    refine u_iload (i := 10) (pc' := 138) dX11_waysOf_136 rfl rfl ?_
    refine u_if_ne (tgt := 145) (pc' := 141) dX11_waysOf_138 rfl (by decide) (bI_R _) (fun hb => ?_) (fun hb => ?_)
    · have h := h.1 (bI_n0.mp hb)
      refine u_iconst (pc' := 146) dX11_waysOf_145 rfl ?_
      refine s_istore (i := 11) (ls' := [some (vR 140), some (vI x1), some (vI x2), some (vB x3), some (vL x4), none, some (vI x6), some (vI x7), some (vL x8), none, some (vB b5), some (vI 0), some (vI x12), none]) (pc' := 148) dX11_waysOf_146 rfl (Nat.le_of_ble_eq_true rfl) rfl rfl ?_
      refine s_iinc (i := 12) (ls' := [some (vR 140), some (vI x1), some (vI x2), some (vB x3), some (vL x4), none, some (vI x6), some (vI x7), some (vL x8), none, some (vB b5), some (vI 0), some (vI (x12 + 1)), none]) (pc' := 151) dX11_waysOf_148 rfl rfl (Nat.le_of_ble_eq_true rfl) rfl rfl ?_
      refine u_goto (tgt := 44) dX11_waysOf_151 (by decide) ?_
      exact u_less (ls' := [some (vR 140), some (vI x1), some (vI x2), some (vB x3), some (vL x4), none, some (vI x6), some (vI x7), some (vL x8), none, some (vI (bI b5)), some (vI 0), some (vI (x12 + 1)), none]) ⟨rfl, ⟨rfl, ⟨rfl, ⟨rfl, ⟨rfl, ⟨rfl, ⟨rfl, ⟨rfl, ⟨rfl, ⟨rfl, ⟨rfl, trivial⟩⟩⟩⟩⟩⟩⟩⟩⟩⟩⟩ h
    · have h := h.2 (bI_0.mp hb)
      refine u_iconst (pc' := 142) dX11_waysOf_141 rfl ?_
      refine u_goto (tgt := 146) dX11_waysOf_142 (by decide) ?_
      refine s_istore (i := 11) (ls' := [some (vR 140), some (vI x1), some (vI x2), some (vB x3), some (vL x4), none, some (vI x6), some (vI x7), some (vL x8), none, some (vB b5), some (vI 1), some (vI x12), none]) (pc' := 148) dX11_waysOf_146 rfl (Nat.le_of_ble_eq_true rfl) rfl rfl ?_
      refine s_iinc (i := 12) (ls' := [some (vR 140), some (vI x1), some (vI x2), some (vB x3), some (vL x4), none, some (vI x6), some (vI x7), some (vL x8), none, some (vB b5), some (vI 1), some (vI (x12 + 1)), none]) (pc' := 151) dX11_waysOf_148 rfl rfl (Nat.le_of_ble_eq_true rfl) rfl rfl ?_
      refine u_goto (tgt := 44) dX11_waysOf_151 (by decide) ?_
      exact u_less (ls' := [some (vR 140), some (vI x1), some (vI x2), some (vB x3), some (vL x4), none, some (vI x6), some (vI x7), some (vL x8), none, some (vI (bI b5)), some (vI 1), some (vI (x12 + 1)), none]) ⟨rfl, ⟨rfl, ⟨rfl, ⟨rfl, ⟨rfl, ⟨rfl, ⟨rfl, ⟨rfl, ⟨rfl, ⟨rfl, ⟨rfl, trivial⟩⟩⟩⟩⟩⟩⟩⟩⟩⟩⟩ h
set_option maxRecDepth 20000 in
theorem bX11_lost_0 {E : mm_Env} {d : Nat} {τ : mm_Mem} {Q : mm_Q0} {a0 : Int} {a1 : Int} (h : M0 E d qX11_isPerson [vR 140, vI a0] τ (fun v τ1 => ∃ b2 : Bool, v = some (vB b2) ∧ ((b2 = false → Q (some (vL (-1))) τ1) ∧ (b2 = true → M0 E d qX11_is [vI a1, vI 1, vI 8] τ1 (fun v τ3 => ∃ b4 : Bool, v = some (vB b4) ∧ ((b4 = false → Q (some (vL (-1))) τ3) ∧ (b4 = true → M0 E d qX11_waysOf [vR 140, vI a0, vI a1, vB true] τ3 (fun v τ5 => ∃ r6 : Int, v = some (vL r6) ∧ Q (some (vL r6)) τ5)))))))) : V0 E (d + 1) qX11_lost 0 [some (vR 140), some (vI a0), some (vI a1)] [] τ Q := by
  refine u_aload_n (i := 0) (pc' := 1) dX11_lost_0 rfl rfl rfl ?_
  refine u_iload_n (i := 1) (pc' := 2) dX11_lost_1 rfl rfl rfl ?_
  refine u_invV (q' := qX11_isPerson) (As := [vI a0]) (st := []) (pc' := 5) dX11_lost_2 rfl gX11_isPerson wm_1704 rfl rfl (by decide) kd_140 wm_1706 wp_113 rfl (Nat.le_of_ble_eq_true rfl) (M0.mono h (fun v τ1 h => ?_))
  obtain ⟨b2, rfl, h⟩ := h
  show V0 E (d + 1) qX11_lost 5 [some (vR 140), some (vI a0), some (vI a1)] [vB b2] τ1 Q
  refine u_if_eq (tgt := 28) (pc' := 8) dX11_lost_5 rfl (by decide) (bI_R _) (fun hb => ?_) (fun hb => ?_)
  · have h := h.1 (bI_0.mp hb)
    refine u_ldc2 (z := (-1)) (pc' := 31) dX11_lost_28 rfl wm_1833 (by decide) ?_
    exact u_lret dX11_lost_31 rfl h
  · have h := h.2 (bI_n0.mp hb)
    refine u_iload_n (i := 2) (pc' := 9) dX11_lost_8 rfl rfl rfl ?_
    refine u_iconst (pc' := 10) dX11_lost_9 rfl ?_
    refine u_bipush (pc' := 12) dX11_lost_10 rfl (by decide) ?_
    refine u_invS (q' := qX11_is) (As := [vI a1, vI 1, vI 8]) (st := []) (pc' := 15) dX11_lost_12 rfl gX11_is wm_1495 wm_1496 rfl (Nat.le_of_ble_eq_true rfl) (M0.mono h (fun v τ3 h => ?_))
    obtain ⟨b4, rfl, h⟩ := h
    show V0 E (d + 1) qX11_lost 15 [some (vR 140), some (vI a0), some (vI a1)] [vB b4] τ3 Q
    refine u_if_eq (tgt := 28) (pc' := 18) dX11_lost_15 rfl (by decide) (bI_R _) (fun hb => ?_) (fun hb => ?_)
    · have h := h.1 (bI_0.mp hb)
      refine u_ldc2 (z := (-1)) (pc' := 31) dX11_lost_28 rfl wm_1833 (by decide) ?_
      exact u_lret dX11_lost_31 rfl h
    · have h := h.2 (bI_n0.mp hb)
      refine u_aload_n (i := 0) (pc' := 19) dX11_lost_18 rfl rfl rfl ?_
      refine u_iload_n (i := 1) (pc' := 20) dX11_lost_19 rfl rfl rfl ?_
      refine u_iload_n (i := 2) (pc' := 21) dX11_lost_20 rfl rfl rfl ?_
      refine u_iconst (pc' := 22) dX11_lost_21 rfl ?_
      refine u_invV (q' := qX11_waysOf) (As := [vI a0, vI a1, vB true]) (st := []) (pc' := 25) dX11_lost_22 rfl gX11_waysOf wm_1827 rfl rfl (by decide) kd_140 wm_1829 wp_129 rfl (Nat.le_of_ble_eq_true rfl) (M0.mono h (fun v τ5 h => ?_))
      obtain ⟨r6, rfl, h⟩ := h
      show V0 E (d + 1) qX11_lost 25 [some (vR 140), some (vI a0), some (vI a1)] [vL r6] τ5 Q
      refine u_goto (tgt := 31) dX11_lost_25 (by decide) ?_
      exact u_lret dX11_lost_31 rfl h
theorem mX11_lost {E : mm_Env} {d : Nat} {τ : mm_Mem} {Q : mm_Q0} {a0 : Int} {a1 : Int} (h : M0 E d qX11_isPerson [vR 140, vI a0] τ (fun v τ1 => ∃ b2 : Bool, v = some (vB b2) ∧ ((b2 = false → Q (some (vL (-1))) τ1) ∧ (b2 = true → M0 E d qX11_is [vI a1, vI 1, vI 8] τ1 (fun v τ3 => ∃ b4 : Bool, v = some (vB b4) ∧ ((b4 = false → Q (some (vL (-1))) τ3) ∧ (b4 = true → M0 E d qX11_waysOf [vR 140, vI a0, vI a1, vB true] τ3 (fun v τ5 => ∃ r6 : Int, v = some (vL r6) ∧ Q (some (vL r6)) τ5)))))))) : M0 E (d + 1) qX11_lost [vR 140, vI a0, vI a1] τ Q := M0_of rfl (Nat.le_of_ble_eq_true rfl) [some (vR 140), some (vI a0), some (vI a1)] rfl (bX11_lost_0  h)
set_option maxRecDepth 20000 in
theorem bX11_stranger_0 {E : mm_Env} {d : Nat} {τ : mm_Mem} {Q : mm_Q0} {a0 : Int} {a1 : Int} (h : M0 E d qX11_isDoor [vR 140, vI a0] τ (fun v τ1 => ∃ b2 : Bool, v = some (vB b2) ∧ ((b2 = false → Q (some (vL (-1))) τ1) ∧ (b2 = true → inR a1 ∧ ((a1 = (-1) → ((a1 ≠ (-1) → M0 E d qX11_strangerOf [vR 140, vI a0, vI a1] τ1 (fun v τ4 => ∃ r5 : Int, v = some (vL r5) ∧ Q (some (vL r5)) τ4)) ∧ (a1 = (-1) → M0 E d qX11_openers [vR 140, vI a0] τ1 (fun v τ6 => ∃ r7 : Int, v = some (vI r7) ∧ inR r7 ∧ Q (some (vL r7)) τ6)))) ∧ (¬ a1 = (-1) → M0 E d qX11_is [vI a1, vI 0, vI 500] τ1 (fun v τ9 => ∃ b10 : Bool, v = some (vB b10) ∧ ((b10 = true → ((a1 ≠ (-1) → M0 E d qX11_strangerOf [vR 140, vI a0, vI a1] τ9 (fun v τ11 => ∃ r12 : Int, v = some (vL r12) ∧ Q (some (vL r12)) τ11)) ∧ (a1 = (-1) → M0 E d qX11_openers [vR 140, vI a0] τ9 (fun v τ13 => ∃ r14 : Int, v = some (vI r14) ∧ inR r14 ∧ Q (some (vL r14)) τ13)))) ∧ (b10 = false → Q (some (vL (-1))) τ9))))))))) : V0 E (d + 1) qX11_stranger 0 [some (vR 140), some (vI a0), some (vI a1)] [] τ Q := by
  refine u_aload_n (i := 0) (pc' := 1) dX11_stranger_0 rfl rfl rfl ?_
  refine u_iload_n (i := 1) (pc' := 2) dX11_stranger_1 rfl rfl rfl ?_
  refine u_invV (q' := qX11_isDoor) (As := [vI a0]) (st := []) (pc' := 5) dX11_stranger_2 rfl gX11_isDoor wm_1684 rfl rfl (by decide) kd_140 wm_1686 wp_109 rfl (Nat.le_of_ble_eq_true rfl) (M0.mono h (fun v τ1 h => ?_))
  obtain ⟨b2, rfl, h⟩ := h
  show V0 E (d + 1) qX11_stranger 5 [some (vR 140), some (vI a0), some (vI a1)] [vB b2] τ1 Q
  refine u_if_eq (tgt := 24) (pc' := 8) dX11_stranger_5 rfl (by decide) (bI_R _) (fun hb => ?_) (fun hb => ?_)
  · have h := h.1 (bI_0.mp hb)
    refine u_ldc2 (z := (-1)) (pc' := 27) dX11_stranger_24 rfl wm_1833 (by decide) ?_
    exact u_lret dX11_stranger_27 rfl h
  · have h := h.2 (bI_n0.mp hb)
    refine u_iload_n (i := 2) (pc' := 9) dX11_stranger_8 rfl rfl rfl ?_
    refine u_iconst (pc' := 10) dX11_stranger_9 rfl ?_
    obtain ⟨c3, h⟩ := h
    refine u_icmp_eq (tgt := 28) (pc' := 13) dX11_stranger_10 rfl (by decide) c3 ⟨by decide, by decide⟩ (fun hb => ?_) (fun hb => ?_)
    · have h := h.1 hb
      refine u_iload_n (i := 2) (pc' := 29) dX11_stranger_28 rfl rfl rfl ?_
      refine u_iconst (pc' := 30) dX11_stranger_29 rfl ?_
      refine u_icmp_ne (tgt := 42) (pc' := 33) dX11_stranger_30 rfl (by decide) c3 ⟨by decide, by decide⟩ (fun hb => ?_) (fun hb => ?_)
      · have h := h.1 hb
        refine u_aload_n (i := 0) (pc' := 43) dX11_stranger_42 rfl rfl rfl ?_
        refine u_iload_n (i := 1) (pc' := 44) dX11_stranger_43 rfl rfl rfl ?_
        refine u_iload_n (i := 2) (pc' := 45) dX11_stranger_44 rfl rfl rfl ?_
        refine u_invV (q' := qX11_strangerOf) (As := [vI a0, vI a1]) (st := []) (pc' := 48) dX11_stranger_45 rfl gX11_strangerOf wm_1854 rfl rfl (by decide) kd_140 wm_1856 wp_133 rfl (Nat.le_of_ble_eq_true rfl) (M0.mono h (fun v τ4 h => ?_))
        obtain ⟨r5, rfl, h⟩ := h
        show V0 E (d + 1) qX11_stranger 48 [some (vR 140), some (vI a0), some (vI a1)] [vL r5] τ4 Q
        exact u_lret dX11_stranger_48 rfl h
      · have h := h.2 hb
        refine u_aload_n (i := 0) (pc' := 34) dX11_stranger_33 rfl rfl rfl ?_
        refine u_iload_n (i := 1) (pc' := 35) dX11_stranger_34 rfl rfl rfl ?_
        refine u_invV (q' := qX11_openers) (As := [vI a0]) (st := []) (pc' := 38) dX11_stranger_35 rfl gX11_openers wm_1842 rfl rfl (by decide) kd_140 wm_1844 wp_130 rfl (Nat.le_of_ble_eq_true rfl) (M0.mono h (fun v τ6 h => ?_))
        obtain ⟨r7, rfl, h⟩ := h
        show V0 E (d + 1) qX11_stranger 38 [some (vR 140), some (vI a0), some (vI a1)] [vI r7] τ6 Q
        obtain ⟨c8, h⟩ := h
        refine u_i2l (pc' := 39) dX11_stranger_38 rfl c8 ?_
        refine u_goto (tgt := 48) dX11_stranger_39 (by decide) ?_
        exact u_lret dX11_stranger_48 rfl h
    · have h := h.2 hb
      refine u_iload_n (i := 2) (pc' := 14) dX11_stranger_13 rfl rfl rfl ?_
      refine u_iconst (pc' := 15) dX11_stranger_14 rfl ?_
      refine u_sipush (pc' := 18) dX11_stranger_15 rfl (by decide) ?_
      refine u_invS (q' := qX11_is) (As := [vI a1, vI 0, vI 500]) (st := []) (pc' := 21) dX11_stranger_18 rfl gX11_is wm_1495 wm_1496 rfl (Nat.le_of_ble_eq_true rfl) (M0.mono h (fun v τ9 h => ?_))
      obtain ⟨b10, rfl, h⟩ := h
      show V0 E (d + 1) qX11_stranger 21 [some (vR 140), some (vI a0), some (vI a1)] [vB b10] τ9 Q
      refine u_if_ne (tgt := 28) (pc' := 24) dX11_stranger_21 rfl (by decide) (bI_R _) (fun hb => ?_) (fun hb => ?_)
      · have h := h.1 (bI_n0.mp hb)
        refine u_iload_n (i := 2) (pc' := 29) dX11_stranger_28 rfl rfl rfl ?_
        refine u_iconst (pc' := 30) dX11_stranger_29 rfl ?_
        refine u_icmp_ne (tgt := 42) (pc' := 33) dX11_stranger_30 rfl (by decide) c3 ⟨by decide, by decide⟩ (fun hb => ?_) (fun hb => ?_)
        · have h := h.1 hb
          refine u_aload_n (i := 0) (pc' := 43) dX11_stranger_42 rfl rfl rfl ?_
          refine u_iload_n (i := 1) (pc' := 44) dX11_stranger_43 rfl rfl rfl ?_
          refine u_iload_n (i := 2) (pc' := 45) dX11_stranger_44 rfl rfl rfl ?_
          refine u_invV (q' := qX11_strangerOf) (As := [vI a0, vI a1]) (st := []) (pc' := 48) dX11_stranger_45 rfl gX11_strangerOf wm_1854 rfl rfl (by decide) kd_140 wm_1856 wp_133 rfl (Nat.le_of_ble_eq_true rfl) (M0.mono h (fun v τ11 h => ?_))
          obtain ⟨r12, rfl, h⟩ := h
          show V0 E (d + 1) qX11_stranger 48 [some (vR 140), some (vI a0), some (vI a1)] [vL r12] τ11 Q
          exact u_lret dX11_stranger_48 rfl h
        · have h := h.2 hb
          refine u_aload_n (i := 0) (pc' := 34) dX11_stranger_33 rfl rfl rfl ?_
          refine u_iload_n (i := 1) (pc' := 35) dX11_stranger_34 rfl rfl rfl ?_
          refine u_invV (q' := qX11_openers) (As := [vI a0]) (st := []) (pc' := 38) dX11_stranger_35 rfl gX11_openers wm_1842 rfl rfl (by decide) kd_140 wm_1844 wp_130 rfl (Nat.le_of_ble_eq_true rfl) (M0.mono h (fun v τ13 h => ?_))
          obtain ⟨r14, rfl, h⟩ := h
          show V0 E (d + 1) qX11_stranger 38 [some (vR 140), some (vI a0), some (vI a1)] [vI r14] τ13 Q
          obtain ⟨c15, h⟩ := h
          refine u_i2l (pc' := 39) dX11_stranger_38 rfl c15 ?_
          refine u_goto (tgt := 48) dX11_stranger_39 (by decide) ?_
          exact u_lret dX11_stranger_48 rfl h
      · have h := h.2 (bI_0.mp hb)
        refine u_ldc2 (z := (-1)) (pc' := 27) dX11_stranger_24 rfl wm_1833 (by decide) ?_
        exact u_lret dX11_stranger_27 rfl h
theorem mX11_stranger {E : mm_Env} {d : Nat} {τ : mm_Mem} {Q : mm_Q0} {a0 : Int} {a1 : Int} (h : M0 E d qX11_isDoor [vR 140, vI a0] τ (fun v τ1 => ∃ b2 : Bool, v = some (vB b2) ∧ ((b2 = false → Q (some (vL (-1))) τ1) ∧ (b2 = true → inR a1 ∧ ((a1 = (-1) → ((a1 ≠ (-1) → M0 E d qX11_strangerOf [vR 140, vI a0, vI a1] τ1 (fun v τ4 => ∃ r5 : Int, v = some (vL r5) ∧ Q (some (vL r5)) τ4)) ∧ (a1 = (-1) → M0 E d qX11_openers [vR 140, vI a0] τ1 (fun v τ6 => ∃ r7 : Int, v = some (vI r7) ∧ inR r7 ∧ Q (some (vL r7)) τ6)))) ∧ (¬ a1 = (-1) → M0 E d qX11_is [vI a1, vI 0, vI 500] τ1 (fun v τ9 => ∃ b10 : Bool, v = some (vB b10) ∧ ((b10 = true → ((a1 ≠ (-1) → M0 E d qX11_strangerOf [vR 140, vI a0, vI a1] τ9 (fun v τ11 => ∃ r12 : Int, v = some (vL r12) ∧ Q (some (vL r12)) τ11)) ∧ (a1 = (-1) → M0 E d qX11_openers [vR 140, vI a0] τ9 (fun v τ13 => ∃ r14 : Int, v = some (vI r14) ∧ inR r14 ∧ Q (some (vL r14)) τ13)))) ∧ (b10 = false → Q (some (vL (-1))) τ9))))))))) : M0 E (d + 1) qX11_stranger [vR 140, vI a0, vI a1] τ Q := M0_of rfl (Nat.le_of_ble_eq_true rfl) [some (vR 140), some (vI a0), some (vI a1)] rfl (bX11_stranger_0  h)
set_option maxRecDepth 20000 in
theorem bX11_openers_0 {E : mm_Env} {d : Nat} {τ : mm_Mem} {Q : mm_Q0} {a0 : Int} (h : V0 E (d + 1) qX11_openers 4 [some (vR 140), some (vI a0), some (vI 0), some (vI 0), none, none] [] τ Q) : V0 E (d + 1) qX11_openers 0 [some (vR 140), some (vI a0), none, none, none, none] [] τ Q := by
  refine u_iconst (pc' := 1) dX11_openers_0 rfl ?_
  refine s_istore_n (i := 2) (ls' := [some (vR 140), some (vI a0), some (vI 0), none, none, none]) (pc' := 2) dX11_openers_1 rfl rfl (Nat.le_of_ble_eq_true rfl) rfl rfl ?_
  refine u_iconst (pc' := 3) dX11_openers_2 rfl ?_
  refine s_istore_n (i := 3) (ls' := [some (vR 140), some (vI a0), some (vI 0), some (vI 0), none, none]) (pc' := 4) dX11_openers_3 rfl rfl (Nat.le_of_ble_eq_true rfl) rfl rfl ?_
  exact u_less (ls' := [some (vR 140), some (vI a0), some (vI 0), some (vI 0), none, none]) ⟨rfl, ⟨rfl, ⟨rfl, ⟨rfl, trivial⟩⟩⟩⟩ h
theorem mX11_openers {E : mm_Env} {d : Nat} {τ : mm_Mem} {Q : mm_Q0} {a0 : Int} (h : V0 E (d + 1) qX11_openers 4 [some (vR 140), some (vI a0), some (vI 0), some (vI 0), none, none] [] τ Q) : M0 E (d + 1) qX11_openers [vR 140, vI a0] τ Q := M0_of rfl (Nat.le_of_ble_eq_true rfl) [some (vR 140), some (vI a0), none, none, none, none] rfl (bX11_openers_0  h)
set_option maxRecDepth 20000 in
theorem bX11_openers_4 {E : mm_Env} {d : Nat} {τ : mm_Mem} {Q : mm_Q0} {x1 : Int} {x2 : Int} {x3 : Int} (h : M0 E d qX11_tunesAll [vR 140] τ (fun v τ1 => ∃ r2 : Int, v = some (vI r2) ∧ inR x3 ∧ inR r2 ∧ ((r2 ≤ x3 → Q (some (vI x2)) τ1) ∧ (¬ r2 ≤ x3 → 0 ≤ (τ1 140 12) ∧ (τ1 140 12) < 2 ∧ V0 E (d + 1) qX11_openers 28 [some (vR 140), some (vI x1), some (vI x2), some (vI x3), some (vI x3), some (vI ((τ1 143 (τ1 140 12).toNat) - 1))] [] τ1 Q)))) : V0 E (d + 1) qX11_openers 4 [some (vR 140), some (vI x1), some (vI x2), some (vI x3), none, none] [] τ Q := by
  refine u_iload_n (i := 3) (pc' := 5) dX11_openers_4 rfl rfl rfl ?_
  refine u_aload_n (i := 0) (pc' := 6) dX11_openers_5 rfl rfl rfl ?_
  refine u_invV (q' := qX11_tunesAll) (As := []) (st := [vI x3]) (pc' := 9) dX11_openers_6 rfl gX11_tunesAll wm_1846 rfl rfl (by decide) kd_140 wm_1848 wp_131 rfl (Nat.le_of_ble_eq_true rfl) (M0.mono h (fun v τ1 h => ?_))
  obtain ⟨r2, rfl, h⟩ := h
  show V0 E (d + 1) qX11_openers 9 [some (vR 140), some (vI x1), some (vI x2), some (vI x3), none, none] [vI r2, vI x3] τ1 Q
  obtain ⟨c3, c4, h⟩ := h
  refine u_icmp_ge (tgt := 99) (pc' := 12) dX11_openers_9 rfl (by decide) c3 c4 (fun hb => ?_) (fun hb => ?_)
  · have h := h.1 hb
    refine u_iload_n (i := 2) (pc' := 100) dX11_openers_99 rfl rfl rfl ?_
    exact u_iret dX11_openers_100 rfl h
  · have h := h.2 hb
    refine u_iload_n (i := 3) (pc' := 13) dX11_openers_12 rfl rfl rfl ?_
    refine s_istore (i := 4) (ls' := [some (vR 140), some (vI x1), some (vI x2), some (vI x3), some (vI x3), none]) (pc' := 15) dX11_openers_13 rfl (Nat.le_of_ble_eq_true rfl) rfl rfl ?_
    refine u_aload_n (i := 0) (pc' := 16) dX11_openers_15 rfl rfl rfl ?_
    refine u_getR (a := 143) (pc' := 19) dX11_openers_16 rfl fl_TuneDoorModel_54 rfl (by decide) kd_140 rfl ?_
    refine u_aload_n (i := 0) (pc' := 20) dX11_openers_19 rfl rfl rfl ?_
    refine u_getI (z := (τ1 140 12)) (pc' := 23) dX11_openers_20 rfl fl_TuneDoorModel_48 rfl (by decide) (by decide) kd_140 rfl (fun r5 => ?_)
    obtain ⟨c6, c7, h⟩ := h
    refine u_iaload (k := (τ1 140 12).toNat) (z := (τ1 143 (τ1 140 12).toNat)) (pc' := 24) dX11_openers_23 rfl (by decide) kd_143 c6 c7 (by decide) rfl rfl (fun r8 => ?_)
    refine u_iconst (pc' := 25) dX11_openers_24 rfl ?_
    refine u_isub (pc' := 26) dX11_openers_25 rfl ?_
    refine s_istore (i := 5) (ls' := [some (vR 140), some (vI x1), some (vI x2), some (vI x3), some (vI x3), some (vI ((τ1 143 (τ1 140 12).toNat) - 1))]) (pc' := 28) dX11_openers_26 rfl (Nat.le_of_ble_eq_true rfl) rfl rfl ?_
    exact u_less (ls' := [some (vR 140), some (vI x1), some (vI x2), some (vI x3), some (vI x3), some (vI ((τ1 143 (τ1 140 12).toNat) - 1))]) ⟨rfl, ⟨rfl, ⟨rfl, ⟨rfl, ⟨rfl, ⟨rfl, trivial⟩⟩⟩⟩⟩⟩ h
set_option maxRecDepth 20000 in
theorem bX11_openers_28 {E : mm_Env} {d : Nat} {τ : mm_Mem} {Q : mm_Q0} {x1 : Int} {x2 : Int} {x3 : Int} {x4 : Int} {x5 : Int} (h : inR x5 ∧ ((x5 < 0 → inR x3 ∧ M0 E d qX11_isOpenTo [vR 140, vI x1] (wr τ 140 66 x3) (fun v τ3 => ∃ b4 : Bool, v = some (vB b4) ∧ ((b4 = false → V0 E (d + 1) qX11_openers 4 [some (vR 140), some (vI x1), some (vI (x2 + 0)), some (vI (x3 + 1)), none, none] [] τ3 Q) ∧ (b4 = true → V0 E (d + 1) qX11_openers 4 [some (vR 140), some (vI x1), some (vI (x2 + 1)), some (vI (x3 + 1)), none, none] [] τ3 Q)))) ∧ (¬ x5 < 0 → 0 ≤ (τ 140 12) ∧ (τ 140 12) < 2 ∧ inR x4 ∧ (τ 142 (τ 140 12).toNat) ≠ 0 ∧ 0 ≤ x5 ∧ x5 < 5 ∧ inR (Int.tmod x4 (τ 142 (τ 140 12).toNat)) ∧ 0 ≤ (τ 140 12) ∧ (τ 140 12) < 2 ∧ (τ 142 (τ 140 12).toNat) ≠ 0 ∧ V0 E (d + 1) qX11_openers 28 [some (vR 140), some (vI x1), some (vI x2), some (vI x3), some (vI (Int.tdiv x4 (τ 142 (τ 140 12).toNat))), some (vI (x5 + (-1)))] [] (wr τ 188 x5.toNat (Int.tmod x4 (τ 142 (τ 140 12).toNat))) Q))) : V0 E (d + 1) qX11_openers 28 [some (vR 140), some (vI x1), some (vI x2), some (vI x3), some (vI x4), some (vI x5)] [] τ Q := by
  refine u_iload (i := 5) (pc' := 30) dX11_openers_28 rfl rfl ?_
  obtain ⟨c1, h⟩ := h
  refine u_if_lt (tgt := 72) (pc' := 33) dX11_openers_30 rfl (by decide) c1 (fun hb => ?_) (fun hb => ?_)
  · have h := h.1 hb
    refine u_aload_n (i := 0) (pc' := 73) dX11_openers_72 rfl rfl rfl ?_
    refine u_iload_n (i := 3) (pc' := 74) dX11_openers_73 rfl rfl rfl ?_
    obtain ⟨c2, h⟩ := h
    refine u_putI (pc' := 77) dX11_openers_74 rfl fl_TuneDoorModel_213 rfl rfl (by decide) (by decide) kd_140 c2 ?_
    refine u_iload_n (i := 2) (pc' := 78) dX11_openers_77 rfl rfl rfl ?_
    refine u_aload_n (i := 0) (pc' := 79) dX11_openers_78 rfl rfl rfl ?_
    refine u_iload_n (i := 1) (pc' := 80) dX11_openers_79 rfl rfl rfl ?_
    refine u_invV (q' := qX11_isOpenTo) (As := [vI x1]) (st := [vI x2]) (pc' := 83) dX11_openers_80 rfl gX11_isOpenTo wm_1850 rfl rfl (by decide) kd_140 wm_1852 wp_132 rfl (Nat.le_of_ble_eq_true rfl) (M0.mono h (fun v τ3 h => ?_))
    obtain ⟨b4, rfl, h⟩ := h
    show V0 E (d + 1) qX11_openers 83 [some (vR 140), some (vI x1), some (vI x2), some (vI x3), some (vI x4), some (vI x5)] [vB b4, vI x2] τ3 Q
    refine u_if_eq (tgt := 90) (pc' := 86) dX11_openers_83 rfl (by decide) (bI_R _) (fun hb => ?_) (fun hb => ?_)
    · have h := h.1 (bI_0.mp hb)
      refine u_iconst (pc' := 91) dX11_openers_90 rfl ?_
      refine u_iadd (pc' := 92) dX11_openers_91 rfl ?_
      refine s_istore_n (i := 2) (ls' := [some (vR 140), some (vI x1), some (vI (x2 + 0)), some (vI x3), some (vI x4), some (vI x5)]) (pc' := 93) dX11_openers_92 rfl rfl (Nat.le_of_ble_eq_true rfl) rfl rfl ?_
      refine s_iinc (i := 3) (ls' := [some (vR 140), some (vI x1), some (vI (x2 + 0)), some (vI (x3 + 1)), some (vI x4), some (vI x5)]) (pc' := 96) dX11_openers_93 rfl rfl (Nat.le_of_ble_eq_true rfl) rfl rfl ?_
      refine u_goto (tgt := 4) dX11_openers_96 (by decide) ?_
      exact u_less (ls' := [some (vR 140), some (vI x1), some (vI (x2 + 0)), some (vI (x3 + 1)), none, none]) ⟨rfl, ⟨rfl, ⟨rfl, ⟨rfl, trivial⟩⟩⟩⟩ h
    · have h := h.2 (bI_n0.mp hb)
      refine u_iconst (pc' := 87) dX11_openers_86 rfl ?_
      refine u_goto (tgt := 91) dX11_openers_87 (by decide) ?_
      refine u_iadd (pc' := 92) dX11_openers_91 rfl ?_
      refine s_istore_n (i := 2) (ls' := [some (vR 140), some (vI x1), some (vI (x2 + 1)), some (vI x3), some (vI x4), some (vI x5)]) (pc' := 93) dX11_openers_92 rfl rfl (Nat.le_of_ble_eq_true rfl) rfl rfl ?_
      refine s_iinc (i := 3) (ls' := [some (vR 140), some (vI x1), some (vI (x2 + 1)), some (vI (x3 + 1)), some (vI x4), some (vI x5)]) (pc' := 96) dX11_openers_93 rfl rfl (Nat.le_of_ble_eq_true rfl) rfl rfl ?_
      refine u_goto (tgt := 4) dX11_openers_96 (by decide) ?_
      exact u_less (ls' := [some (vR 140), some (vI x1), some (vI (x2 + 1)), some (vI (x3 + 1)), none, none]) ⟨rfl, ⟨rfl, ⟨rfl, ⟨rfl, trivial⟩⟩⟩⟩ h
  · have h := h.2 hb
    refine u_aload_n (i := 0) (pc' := 34) dX11_openers_33 rfl rfl rfl ?_
    refine u_getR (a := 188) (pc' := 37) dX11_openers_34 rfl fl_TuneDoorModel_210 rfl (by decide) kd_140 rfl ?_
    refine u_iload (i := 5) (pc' := 39) dX11_openers_37 rfl rfl ?_
    refine u_iload (i := 4) (pc' := 41) dX11_openers_39 rfl rfl ?_
    refine u_aload_n (i := 0) (pc' := 42) dX11_openers_41 rfl rfl rfl ?_
    refine u_getR (a := 142) (pc' := 45) dX11_openers_42 rfl fl_TuneDoorModel_51 rfl (by decide) kd_140 rfl ?_
    refine u_aload_n (i := 0) (pc' := 46) dX11_openers_45 rfl rfl rfl ?_
    refine u_getI (z := (τ 140 12)) (pc' := 49) dX11_openers_46 rfl fl_TuneDoorModel_48 rfl (by decide) (by decide) kd_140 rfl (fun r5 => ?_)
    obtain ⟨c6, c7, h⟩ := h
    refine u_iaload (k := (τ 140 12).toNat) (z := (τ 142 (τ 140 12).toNat)) (pc' := 50) dX11_openers_49 rfl (by decide) kd_142 c6 c7 (by decide) rfl rfl (fun r8 => ?_)
    obtain ⟨c9, c10, h⟩ := h
    refine u_irem (pc' := 51) dX11_openers_50 rfl c9 r8 c10 ?_
    obtain ⟨c11, c12, c13, h⟩ := h
    refine u_iastore (k := x5.toNat) (pc' := 52) dX11_openers_51 rfl (by decide) kd_188 c11 c12 (by decide) rfl c13 ?_
    refine u_iload (i := 4) (pc' := 54) dX11_openers_52 rfl rfl ?_
    refine u_aload_n (i := 0) (pc' := 55) dX11_openers_54 rfl rfl rfl ?_
    refine u_getR (a := 142) (pc' := 58) dX11_openers_55 rfl fl_TuneDoorModel_51 rfl (by decide) kd_140 rfl ?_
    refine u_aload_n (i := 0) (pc' := 59) dX11_openers_58 rfl rfl rfl ?_
    refine u_getI (z := (τ 140 12)) (pc' := 62) dX11_openers_59 rfl fl_TuneDoorModel_48 rfl (by decide) (by decide) kd_140 rfl (fun r14 => ?_)
    obtain ⟨c15, c16, h⟩ := h
    refine u_iaload (k := (τ 140 12).toNat) (z := (τ 142 (τ 140 12).toNat)) (pc' := 63) dX11_openers_62 rfl (by decide) kd_142 c15 c16 (by decide) rfl rfl (fun r17 => ?_)
    obtain ⟨c18, h⟩ := h
    refine u_idiv (pc' := 64) dX11_openers_63 rfl c9 r17 c18 ?_
    refine s_istore (i := 4) (ls' := [some (vR 140), some (vI x1), some (vI x2), some (vI x3), some (vI (Int.tdiv x4 (τ 142 (τ 140 12).toNat))), some (vI x5)]) (pc' := 66) dX11_openers_64 rfl (Nat.le_of_ble_eq_true rfl) rfl rfl ?_
    refine s_iinc (i := 5) (ls' := [some (vR 140), some (vI x1), some (vI x2), some (vI x3), some (vI (Int.tdiv x4 (τ 142 (τ 140 12).toNat))), some (vI (x5 + (-1)))]) (pc' := 69) dX11_openers_66 rfl rfl (Nat.le_of_ble_eq_true rfl) rfl rfl ?_
    refine u_goto (tgt := 28) dX11_openers_69 (by decide) ?_
    exact u_less (ls' := [some (vR 140), some (vI x1), some (vI x2), some (vI x3), some (vI (Int.tdiv x4 (τ 142 (τ 140 12).toNat))), some (vI (x5 + (-1)))]) ⟨rfl, ⟨rfl, ⟨rfl, ⟨rfl, ⟨rfl, ⟨rfl, trivial⟩⟩⟩⟩⟩⟩ h
set_option maxRecDepth 20000 in
theorem bX11_tunesAll_0 {E : mm_Env} {d : Nat} {τ : mm_Mem} {Q : mm_Q0}  (h : V0 E d qX11_tunesAll 4 [some (vR 140), some (vI 1), some (vI 0)] [] τ Q) : V0 E d qX11_tunesAll 0 [some (vR 140), none, none] [] τ Q := by
  refine u_iconst (pc' := 1) dX11_tunesAll_0 rfl ?_
  refine s_istore_n (i := 1) (ls' := [some (vR 140), some (vI 1), none]) (pc' := 2) dX11_tunesAll_1 rfl rfl (Nat.le_of_ble_eq_true rfl) rfl rfl ?_
  refine u_iconst (pc' := 3) dX11_tunesAll_2 rfl ?_
  refine s_istore_n (i := 2) (ls' := [some (vR 140), some (vI 1), some (vI 0)]) (pc' := 4) dX11_tunesAll_3 rfl rfl (Nat.le_of_ble_eq_true rfl) rfl rfl ?_
  exact u_less (ls' := [some (vR 140), some (vI 1), some (vI 0)]) ⟨rfl, ⟨rfl, ⟨rfl, trivial⟩⟩⟩ h
theorem mX11_tunesAll {E : mm_Env} {d : Nat} {τ : mm_Mem} {Q : mm_Q0}  (h : V0 E d qX11_tunesAll 4 [some (vR 140), some (vI 1), some (vI 0)] [] τ Q) : M0 E d qX11_tunesAll [vR 140] τ Q := M0_of rfl (Nat.le_of_ble_eq_true rfl) [some (vR 140), none, none] rfl (bX11_tunesAll_0  h)
set_option maxRecDepth 20000 in
theorem bX11_tunesAll_4 {E : mm_Env} {d : Nat} {τ : mm_Mem} {Q : mm_Q0} {x1 : Int} {x2 : Int} (h : 0 ≤ (τ 140 12) ∧ (τ 140 12) < 2 ∧ inR x2 ∧ (((τ 143 (τ 140 12).toNat) ≤ x2 → Q (some (vI x1)) τ) ∧ (¬ (τ 143 (τ 140 12).toNat) ≤ x2 → 0 ≤ (τ 140 12) ∧ (τ 140 12) < 2 ∧ V0 E d qX11_tunesAll 4 [some (vR 140), some (vI (x1 * (τ 142 (τ 140 12).toNat))), some (vI (x2 + 1))] [] τ Q))) : V0 E d qX11_tunesAll 4 [some (vR 140), some (vI x1), some (vI x2)] [] τ Q := by
  refine u_iload_n (i := 2) (pc' := 5) dX11_tunesAll_4 rfl rfl rfl ?_
  refine u_aload_n (i := 0) (pc' := 6) dX11_tunesAll_5 rfl rfl rfl ?_
  refine u_getR (a := 143) (pc' := 9) dX11_tunesAll_6 rfl fl_TuneDoorModel_54 rfl (by decide) kd_140 rfl ?_
  refine u_aload_n (i := 0) (pc' := 10) dX11_tunesAll_9 rfl rfl rfl ?_
  refine u_getI (z := (τ 140 12)) (pc' := 13) dX11_tunesAll_10 rfl fl_TuneDoorModel_48 rfl (by decide) (by decide) kd_140 rfl (fun r1 => ?_)
  obtain ⟨c2, c3, h⟩ := h
  refine u_iaload (k := (τ 140 12).toNat) (z := (τ 143 (τ 140 12).toNat)) (pc' := 14) dX11_tunesAll_13 rfl (by decide) kd_143 c2 c3 (by decide) rfl rfl (fun r4 => ?_)
  obtain ⟨c5, h⟩ := h
  refine u_icmp_ge (tgt := 35) (pc' := 17) dX11_tunesAll_14 rfl (by decide) c5 r4 (fun hb => ?_) (fun hb => ?_)
  · have h := h.1 hb
    refine u_iload_n (i := 1) (pc' := 36) dX11_tunesAll_35 rfl rfl rfl ?_
    exact u_iret dX11_tunesAll_36 rfl h
  · have h := h.2 hb
    refine u_iload_n (i := 1) (pc' := 18) dX11_tunesAll_17 rfl rfl rfl ?_
    refine u_aload_n (i := 0) (pc' := 19) dX11_tunesAll_18 rfl rfl rfl ?_
    refine u_getR (a := 142) (pc' := 22) dX11_tunesAll_19 rfl fl_TuneDoorModel_51 rfl (by decide) kd_140 rfl ?_
    refine u_aload_n (i := 0) (pc' := 23) dX11_tunesAll_22 rfl rfl rfl ?_
    refine u_getI (z := (τ 140 12)) (pc' := 26) dX11_tunesAll_23 rfl fl_TuneDoorModel_48 rfl (by decide) (by decide) kd_140 rfl (fun r6 => ?_)
    obtain ⟨c7, c8, h⟩ := h
    refine u_iaload (k := (τ 140 12).toNat) (z := (τ 142 (τ 140 12).toNat)) (pc' := 27) dX11_tunesAll_26 rfl (by decide) kd_142 c7 c8 (by decide) rfl rfl (fun r9 => ?_)
    refine u_imul (pc' := 28) dX11_tunesAll_27 rfl ?_
    refine s_istore_n (i := 1) (ls' := [some (vR 140), some (vI (x1 * (τ 142 (τ 140 12).toNat))), some (vI x2)]) (pc' := 29) dX11_tunesAll_28 rfl rfl (Nat.le_of_ble_eq_true rfl) rfl rfl ?_
    refine s_iinc (i := 2) (ls' := [some (vR 140), some (vI (x1 * (τ 142 (τ 140 12).toNat))), some (vI (x2 + 1))]) (pc' := 32) dX11_tunesAll_29 rfl rfl (Nat.le_of_ble_eq_true rfl) rfl rfl ?_
    refine u_goto (tgt := 4) dX11_tunesAll_32 (by decide) ?_
    exact u_less (ls' := [some (vR 140), some (vI (x1 * (τ 142 (τ 140 12).toNat))), some (vI (x2 + 1))]) ⟨rfl, ⟨rfl, ⟨rfl, trivial⟩⟩⟩ h
set_option maxRecDepth 20000 in
theorem bX11_isOpenTo_0 {E : mm_Env} {d : Nat} {τ : mm_Mem} {Q : mm_Q0} {a0 : Int} (h : V0 E (d + 1) qX11_isOpenTo 2 [some (vR 140), some (vI a0), some (vI 0)] [] τ Q) : V0 E (d + 1) qX11_isOpenTo 0 [some (vR 140), some (vI a0), none] [] τ Q := by
  refine u_iconst (pc' := 1) dX11_isOpenTo_0 rfl ?_
  refine s_istore_n (i := 2) (ls' := [some (vR 140), some (vI a0), some (vI 0)]) (pc' := 2) dX11_isOpenTo_1 rfl rfl (Nat.le_of_ble_eq_true rfl) rfl rfl ?_
  exact u_less (ls' := [some (vR 140), some (vI a0), some (vI 0)]) ⟨rfl, ⟨rfl, ⟨rfl, trivial⟩⟩⟩ h
theorem mX11_isOpenTo {E : mm_Env} {d : Nat} {τ : mm_Mem} {Q : mm_Q0} {a0 : Int} (h : V0 E (d + 1) qX11_isOpenTo 2 [some (vR 140), some (vI a0), some (vI 0)] [] τ Q) : M0 E (d + 1) qX11_isOpenTo [vR 140, vI a0] τ Q := M0_of rfl (Nat.le_of_ble_eq_true rfl) [some (vR 140), some (vI a0), none] rfl (bX11_isOpenTo_0  h)
set_option maxRecDepth 20000 in
theorem bX11_isOpenTo_2 {E : mm_Env} {d : Nat} {τ : mm_Mem} {Q : mm_Q0} {x1 : Int} {x2 : Int} (h : 0 ≤ (τ 140 12) ∧ (τ 140 12) < 2 ∧ inR x2 ∧ (((τ 144 (τ 140 12).toNat) ≤ x2 → Q (some (vB false)) τ) ∧ (¬ (τ 144 (τ 140 12).toNat) ≤ x2 → M0 E d qX11_isEar [vR 140, vI x1, vI x2] τ (fun v τ6 => ∃ b7 : Bool, v = some (vB b7) ∧ ((b7 = false → V0 E (d + 1) qX11_isOpenTo 2 [some (vR 140), some (vI x1), some (vI (x2 + 1))] [] τ6 Q) ∧ (b7 = true → M0 E d qX11_opensTo [vR 140, vI x1, vI x2] τ6 (fun v τ8 => ∃ r9 : Int, v = some (vI r9) ∧ inR r9 ∧ ((r9 = (-1) → V0 E (d + 1) qX11_isOpenTo 2 [some (vR 140), some (vI x1), some (vI (x2 + 1))] [] τ8 Q) ∧ (¬ r9 = (-1) → Q (some (vB true)) τ8))))))))) : V0 E (d + 1) qX11_isOpenTo 2 [some (vR 140), some (vI x1), some (vI x2)] [] τ Q := by
  refine u_iload_n (i := 2) (pc' := 3) dX11_isOpenTo_2 rfl rfl rfl ?_
  refine u_aload_n (i := 0) (pc' := 4) dX11_isOpenTo_3 rfl rfl rfl ?_
  refine u_getR (a := 144) (pc' := 7) dX11_isOpenTo_4 rfl fl_TuneDoorModel_57 rfl (by decide) kd_140 rfl ?_
  refine u_aload_n (i := 0) (pc' := 8) dX11_isOpenTo_7 rfl rfl rfl ?_
  refine u_getI (z := (τ 140 12)) (pc' := 11) dX11_isOpenTo_8 rfl fl_TuneDoorModel_48 rfl (by decide) (by decide) kd_140 rfl (fun r1 => ?_)
  obtain ⟨c2, c3, h⟩ := h
  refine u_iaload (k := (τ 140 12).toNat) (z := (τ 144 (τ 140 12).toNat)) (pc' := 12) dX11_isOpenTo_11 rfl (by decide) kd_144 c2 c3 (by decide) rfl rfl (fun r4 => ?_)
  obtain ⟨c5, h⟩ := h
  refine u_icmp_ge (tgt := 42) (pc' := 15) dX11_isOpenTo_12 rfl (by decide) c5 r4 (fun hb => ?_) (fun hb => ?_)
  · have h := h.1 hb
    refine u_iconst (pc' := 43) dX11_isOpenTo_42 rfl ?_
    exact u_zret (b := false) dX11_isOpenTo_43 rfl rfl h
  · have h := h.2 hb
    refine u_aload_n (i := 0) (pc' := 16) dX11_isOpenTo_15 rfl rfl rfl ?_
    refine u_iload_n (i := 1) (pc' := 17) dX11_isOpenTo_16 rfl rfl rfl ?_
    refine u_iload_n (i := 2) (pc' := 18) dX11_isOpenTo_17 rfl rfl rfl ?_
    refine u_invV (q' := qX11_isEar) (As := [vI x1, vI x2]) (st := []) (pc' := 21) dX11_isOpenTo_18 rfl gX11_isEar wm_1688 rfl rfl (by decide) kd_140 wm_1690 wp_110 rfl (Nat.le_of_ble_eq_true rfl) (M0.mono h (fun v τ6 h => ?_))
    obtain ⟨b7, rfl, h⟩ := h
    show V0 E (d + 1) qX11_isOpenTo 21 [some (vR 140), some (vI x1), some (vI x2)] [vB b7] τ6 Q
    refine u_if_eq (tgt := 36) (pc' := 24) dX11_isOpenTo_21 rfl (by decide) (bI_R _) (fun hb => ?_) (fun hb => ?_)
    · have h := h.1 (bI_0.mp hb)
      refine s_iinc (i := 2) (ls' := [some (vR 140), some (vI x1), some (vI (x2 + 1))]) (pc' := 39) dX11_isOpenTo_36 rfl rfl (Nat.le_of_ble_eq_true rfl) rfl rfl ?_
      refine u_goto (tgt := 2) dX11_isOpenTo_39 (by decide) ?_
      exact u_less (ls' := [some (vR 140), some (vI x1), some (vI (x2 + 1))]) ⟨rfl, ⟨rfl, ⟨rfl, trivial⟩⟩⟩ h
    · have h := h.2 (bI_n0.mp hb)
      refine u_aload_n (i := 0) (pc' := 25) dX11_isOpenTo_24 rfl rfl rfl ?_
      refine u_iload_n (i := 1) (pc' := 26) dX11_isOpenTo_25 rfl rfl rfl ?_
      refine u_iload_n (i := 2) (pc' := 27) dX11_isOpenTo_26 rfl rfl rfl ?_
      refine u_invV (q' := qX11_opensTo) (As := [vI x1, vI x2]) (st := []) (pc' := 30) dX11_isOpenTo_27 rfl gX11_opensTo wm_1763 rfl rfl (by decide) kd_140 wm_1765 wp_121 rfl (Nat.le_of_ble_eq_true rfl) (M0.mono h (fun v τ8 h => ?_))
      obtain ⟨r9, rfl, h⟩ := h
      show V0 E (d + 1) qX11_isOpenTo 30 [some (vR 140), some (vI x1), some (vI x2)] [vI r9] τ8 Q
      refine u_iconst (pc' := 31) dX11_isOpenTo_30 rfl ?_
      obtain ⟨c10, h⟩ := h
      refine u_icmp_eq (tgt := 36) (pc' := 34) dX11_isOpenTo_31 rfl (by decide) c10 ⟨by decide, by decide⟩ (fun hb => ?_) (fun hb => ?_)
      · have h := h.1 hb
        refine s_iinc (i := 2) (ls' := [some (vR 140), some (vI x1), some (vI (x2 + 1))]) (pc' := 39) dX11_isOpenTo_36 rfl rfl (Nat.le_of_ble_eq_true rfl) rfl rfl ?_
        refine u_goto (tgt := 2) dX11_isOpenTo_39 (by decide) ?_
        exact u_less (ls' := [some (vR 140), some (vI x1), some (vI (x2 + 1))]) ⟨rfl, ⟨rfl, ⟨rfl, trivial⟩⟩⟩ h
      · have h := h.2 hb
        refine u_iconst (pc' := 35) dX11_isOpenTo_34 rfl ?_
        exact u_zret (b := true) dX11_isOpenTo_35 rfl rfl h
set_option maxRecDepth 20000 in
theorem bX11_strangerOf_0 {E : mm_Env} {d : Nat} {τ : mm_Mem} {Q : mm_Q0} {a0 : Int} {a1 : Int} (h : M0 E d qX11_openers [vR 140, vI a0] τ (fun v τ1 => ∃ r2 : Int, v = some (vI r2) ∧ M0 E d qX11_tunesAll [vR 140] τ1 (fun v τ3 => ∃ r4 : Int, v = some (vI r4) ∧ V0 E (d + 1) qX11_strangerOf 20 [none, none, some (vI a1), some (vI r2), some (vI r4), some (vL 1000000000), none, some (vI 0)] [] τ3 Q))) : V0 E (d + 1) qX11_strangerOf 0 [some (vR 140), some (vI a0), some (vI a1), none, none, none, none, none] [] τ Q := by
  refine u_aload_n (i := 0) (pc' := 1) dX11_strangerOf_0 rfl rfl rfl ?_
  refine u_iload_n (i := 1) (pc' := 2) dX11_strangerOf_1 rfl rfl rfl ?_
  refine u_invV (q' := qX11_openers) (As := [vI a0]) (st := []) (pc' := 5) dX11_strangerOf_2 rfl gX11_openers wm_1842 rfl rfl (by decide) kd_140 wm_1844 wp_130 rfl (Nat.le_of_ble_eq_true rfl) (M0.mono h (fun v τ1 h => ?_))
  obtain ⟨r2, rfl, h⟩ := h
  show V0 E (d + 1) qX11_strangerOf 5 [some (vR 140), some (vI a0), some (vI a1), none, none, none, none, none] [vI r2] τ1 Q
  refine s_istore_n (i := 3) (ls' := [some (vR 140), some (vI a0), some (vI a1), some (vI r2), none, none, none, none]) (pc' := 6) dX11_strangerOf_5 rfl rfl (Nat.le_of_ble_eq_true rfl) rfl rfl ?_
  refine u_aload_n (i := 0) (pc' := 7) dX11_strangerOf_6 rfl rfl rfl ?_
  refine u_invV (q' := qX11_tunesAll) (As := []) (st := []) (pc' := 10) dX11_strangerOf_7 rfl gX11_tunesAll wm_1846 rfl rfl (by decide) kd_140 wm_1848 wp_131 rfl (Nat.le_of_ble_eq_true rfl) (M0.mono h (fun v τ3 h => ?_))
  obtain ⟨r4, rfl, h⟩ := h
  show V0 E (d + 1) qX11_strangerOf 10 [some (vR 140), some (vI a0), some (vI a1), some (vI r2), none, none, none, none] [vI r4] τ3 Q
  refine s_istore (i := 4) (ls' := [some (vR 140), some (vI a0), some (vI a1), some (vI r2), some (vI r4), none, none, none]) (pc' := 12) dX11_strangerOf_10 rfl (Nat.le_of_ble_eq_true rfl) rfl rfl ?_
  refine u_ldc2 (z := 1000000000) (pc' := 15) dX11_strangerOf_12 rfl wm_1831 (by decide) ?_
  refine s_lstore (i := 5) (ls' := [some (vR 140), some (vI a0), some (vI a1), some (vI r2), some (vI r4), some (vL 1000000000), none, none]) (pc' := 17) dX11_strangerOf_15 rfl (Nat.le_of_ble_eq_true rfl) rfl rfl ?_
  refine u_iconst (pc' := 18) dX11_strangerOf_17 rfl ?_
  refine s_istore (i := 7) (ls' := [some (vR 140), some (vI a0), some (vI a1), some (vI r2), some (vI r4), some (vL 1000000000), none, some (vI 0)]) (pc' := 20) dX11_strangerOf_18 rfl (Nat.le_of_ble_eq_true rfl) rfl rfl ?_
  exact u_less (ls' := [none, none, some (vI a1), some (vI r2), some (vI r4), some (vL 1000000000), none, some (vI 0)]) ⟨rfl, ⟨rfl, ⟨rfl, ⟨rfl, ⟨rfl, trivial⟩⟩⟩⟩⟩ h
theorem mX11_strangerOf {E : mm_Env} {d : Nat} {τ : mm_Mem} {Q : mm_Q0} {a0 : Int} {a1 : Int} (h : M0 E d qX11_openers [vR 140, vI a0] τ (fun v τ1 => ∃ r2 : Int, v = some (vI r2) ∧ M0 E d qX11_tunesAll [vR 140] τ1 (fun v τ3 => ∃ r4 : Int, v = some (vI r4) ∧ V0 E (d + 1) qX11_strangerOf 20 [none, none, some (vI a1), some (vI r2), some (vI r4), some (vL 1000000000), none, some (vI 0)] [] τ3 Q))) : M0 E (d + 1) qX11_strangerOf [vR 140, vI a0, vI a1] τ Q := M0_of rfl (Nat.le_of_ble_eq_true rfl) [some (vR 140), some (vI a0), some (vI a1), none, none, none, none, none] rfl (bX11_strangerOf_0  h)
set_option maxRecDepth 20000 in
theorem bX11_strangerOf_20 {E : mm_Env} {d : Nat} {τ : mm_Mem} {Q : mm_Q0} {x2 : Int} {x3 : Int} {x4 : Int} {x5 : Int} {x7 : Int} (h : inR x7 ∧ inR x2 ∧ ((x2 ≤ x7 → Q (some (vL (1000000000 - x5))) τ) ∧ (¬ x2 ≤ x7 → inR (x4 - x3) ∧ inR x4 ∧ inL (x5 * (x4 - x3)) ∧ x4 ≠ 0 ∧ V0 E (d + 1) qX11_strangerOf 20 [none, none, some (vI x2), some (vI x3), some (vI x4), some (vL (Int.tdiv (x5 * (x4 - x3)) x4)), none, some (vI (x7 + 1))] [] τ Q))) : V0 E (d + 1) qX11_strangerOf 20 [none, none, some (vI x2), some (vI x3), some (vI x4), some (vL x5), none, some (vI x7)] [] τ Q := by
  refine u_iload (i := 7) (pc' := 22) dX11_strangerOf_20 rfl rfl ?_
  refine u_iload_n (i := 2) (pc' := 23) dX11_strangerOf_22 rfl rfl rfl ?_
  obtain ⟨c1, c2, h⟩ := h
  refine u_icmp_ge (tgt := 46) (pc' := 26) dX11_strangerOf_23 rfl (by decide) c1 c2 (fun hb => ?_) (fun hb => ?_)
  · have h := h.1 hb
    refine u_ldc2 (z := 1000000000) (pc' := 49) dX11_strangerOf_46 rfl wm_1831 (by decide) ?_
    refine u_lload (i := 5) (pc' := 51) dX11_strangerOf_49 rfl rfl ?_
    refine u_lsub (pc' := 52) dX11_strangerOf_51 rfl ?_
    exact u_lret dX11_strangerOf_52 rfl h
  · have h := h.2 hb
    refine u_lload (i := 5) (pc' := 28) dX11_strangerOf_26 rfl rfl ?_
    refine u_iload (i := 4) (pc' := 30) dX11_strangerOf_28 rfl rfl ?_
    refine u_iload_n (i := 3) (pc' := 31) dX11_strangerOf_30 rfl rfl rfl ?_
    refine u_isub (pc' := 32) dX11_strangerOf_31 rfl ?_
    obtain ⟨c3, h⟩ := h
    refine u_i2l (pc' := 33) dX11_strangerOf_32 rfl c3 ?_
    refine u_lmul (pc' := 34) dX11_strangerOf_33 rfl ?_
    refine u_iload (i := 4) (pc' := 36) dX11_strangerOf_34 rfl rfl ?_
    obtain ⟨c4, h⟩ := h
    refine u_i2l (pc' := 37) dX11_strangerOf_36 rfl c4 ?_
    obtain ⟨c5, c6, h⟩ := h
    refine u_ldiv (pc' := 38) dX11_strangerOf_37 rfl c5 (inL_R c4) c6 ?_
    refine s_lstore (i := 5) (ls' := [none, none, some (vI x2), some (vI x3), some (vI x4), some (vL (Int.tdiv (x5 * (x4 - x3)) x4)), none, some (vI x7)]) (pc' := 40) dX11_strangerOf_38 rfl (Nat.le_of_ble_eq_true rfl) rfl rfl ?_
    refine s_iinc (i := 7) (ls' := [none, none, some (vI x2), some (vI x3), some (vI x4), some (vL (Int.tdiv (x5 * (x4 - x3)) x4)), none, some (vI (x7 + 1))]) (pc' := 43) dX11_strangerOf_40 rfl rfl (Nat.le_of_ble_eq_true rfl) rfl rfl ?_
    refine u_goto (tgt := 20) dX11_strangerOf_43 (by decide) ?_
    exact u_less (ls' := [none, none, some (vI x2), some (vI x3), some (vI x4), some (vL (Int.tdiv (x5 * (x4 - x3)) x4)), none, some (vI (x7 + 1))]) ⟨rfl, ⟨rfl, ⟨rfl, ⟨rfl, ⟨rfl, trivial⟩⟩⟩⟩⟩ h
set_option maxRecDepth 20000 in
theorem bX11_near_0 {E : mm_Env} {d : Nat} {τ : mm_Mem} {Q : mm_Q0} {a0 : Int} (h : M0 E d qX11_isDoor [vR 140, vI a0] τ (fun v τ1 => ∃ b2 : Bool, v = some (vB b2) ∧ ((b2 = true → M0 E d qX11_door4 [vR 140, vI a0] τ1 (fun v τ3 => ∃ r4 : Int, v = some (vI r4) ∧ 0 ≤ r4 ∧ r4 < 8 ∧ V0 E (d + 1) qX11_near 26 [some (vR 140), some (vI a0), some (vI (τ3 155 r4.toNat)), some (vI (-1)), some (vI 0), none, none] [] τ3 Q)) ∧ (b2 = false → Q (some (vI (-1))) τ1)))) : V0 E (d + 1) qX11_near 0 [some (vR 140), some (vI a0), none, none, none, none, none] [] τ Q := by
  refine u_aload_n (i := 0) (pc' := 1) dX11_near_0 rfl rfl rfl ?_
  refine u_iload_n (i := 1) (pc' := 2) dX11_near_1 rfl rfl rfl ?_
  refine u_invV (q' := qX11_isDoor) (As := [vI a0]) (st := []) (pc' := 5) dX11_near_2 rfl gX11_isDoor wm_1684 rfl rfl (by decide) kd_140 wm_1686 wp_109 rfl (Nat.le_of_ble_eq_true rfl) (M0.mono h (fun v τ1 h => ?_))
  obtain ⟨b2, rfl, h⟩ := h
  show V0 E (d + 1) qX11_near 5 [some (vR 140), some (vI a0), none, none, none, none, none] [vB b2] τ1 Q
  refine u_if_ne (tgt := 10) (pc' := 8) dX11_near_5 rfl (by decide) (bI_R _) (fun hb => ?_) (fun hb => ?_)
  · have h := h.1 (bI_n0.mp hb)
    refine u_aload_n (i := 0) (pc' := 11) dX11_near_10 rfl rfl rfl ?_
    refine u_getR (a := 155) (pc' := 14) dX11_near_11 rfl fl_TuneDoorModel_91 rfl (by decide) kd_140 rfl ?_
    refine u_aload_n (i := 0) (pc' := 15) dX11_near_14 rfl rfl rfl ?_
    refine u_iload_n (i := 1) (pc' := 16) dX11_near_15 rfl rfl rfl ?_
    refine u_invV (q' := qX11_door4) (As := [vI a0]) (st := [vR 155]) (pc' := 19) dX11_near_16 rfl gX11_door4 wm_1696 rfl rfl (by decide) kd_140 wm_1698 wp_112 rfl (Nat.le_of_ble_eq_true rfl) (M0.mono h (fun v τ3 h => ?_))
    obtain ⟨r4, rfl, h⟩ := h
    show V0 E (d + 1) qX11_near 19 [some (vR 140), some (vI a0), none, none, none, none, none] [vI r4, vR 155] τ3 Q
    obtain ⟨c5, c6, h⟩ := h
    refine u_iaload (k := r4.toNat) (z := (τ3 155 r4.toNat)) (pc' := 20) dX11_near_19 rfl (by decide) kd_155 c5 c6 (by decide) rfl rfl (fun r7 => ?_)
    refine s_istore_n (i := 2) (ls' := [some (vR 140), some (vI a0), some (vI (τ3 155 r4.toNat)), none, none, none, none]) (pc' := 21) dX11_near_20 rfl rfl (Nat.le_of_ble_eq_true rfl) rfl rfl ?_
    refine u_iconst (pc' := 22) dX11_near_21 rfl ?_
    refine s_istore_n (i := 3) (ls' := [some (vR 140), some (vI a0), some (vI (τ3 155 r4.toNat)), some (vI (-1)), none, none, none]) (pc' := 23) dX11_near_22 rfl rfl (Nat.le_of_ble_eq_true rfl) rfl rfl ?_
    refine u_iconst (pc' := 24) dX11_near_23 rfl ?_
    refine s_istore (i := 4) (ls' := [some (vR 140), some (vI a0), some (vI (τ3 155 r4.toNat)), some (vI (-1)), some (vI 0), none, none]) (pc' := 26) dX11_near_24 rfl (Nat.le_of_ble_eq_true rfl) rfl rfl ?_
    exact u_less (ls' := [some (vR 140), some (vI a0), some (vI (τ3 155 r4.toNat)), some (vI (-1)), some (vI 0), none, none]) ⟨rfl, ⟨rfl, ⟨rfl, ⟨rfl, ⟨rfl, trivial⟩⟩⟩⟩⟩ h
  · have h := h.2 (bI_0.mp hb)
    refine u_iconst (pc' := 9) dX11_near_8 rfl ?_
    exact u_iret dX11_near_9 rfl h
theorem mX11_near {E : mm_Env} {d : Nat} {τ : mm_Mem} {Q : mm_Q0} {a0 : Int} (h : M0 E d qX11_isDoor [vR 140, vI a0] τ (fun v τ1 => ∃ b2 : Bool, v = some (vB b2) ∧ ((b2 = true → M0 E d qX11_door4 [vR 140, vI a0] τ1 (fun v τ3 => ∃ r4 : Int, v = some (vI r4) ∧ 0 ≤ r4 ∧ r4 < 8 ∧ V0 E (d + 1) qX11_near 26 [some (vR 140), some (vI a0), some (vI (τ3 155 r4.toNat)), some (vI (-1)), some (vI 0), none, none] [] τ3 Q)) ∧ (b2 = false → Q (some (vI (-1))) τ1)))) : M0 E (d + 1) qX11_near [vR 140, vI a0] τ Q := M0_of rfl (Nat.le_of_ble_eq_true rfl) [some (vR 140), some (vI a0), none, none, none, none, none] rfl (bX11_near_0  h)
set_option maxRecDepth 20000 in
theorem bX11_near_26 {E : mm_Env} {d : Nat} {τ : mm_Mem} {Q : mm_Q0} {x1 : Int} {x2 : Int} {x3 : Int} {x4 : Int} (h : 0 ≤ (τ 140 12) ∧ (τ 140 12) < 2 ∧ inR x4 ∧ (((τ 144 (τ 140 12).toNat) ≤ x4 → Q (some (vI x3)) τ) ∧ (¬ (τ 144 (τ 140 12).toNat) ≤ x4 → 0 ≤ ((3 * x1) + x4) ∧ ((3 * x1) + x4) < 12 ∧ V0 E (d + 1) qX11_near 53 [some (vR 140), some (vI x1), some (vI x2), some (vI x3), some (vI x4), some (vI (τ 182 ((3 * x1) + x4).toNat)), none] [] τ Q))) : V0 E (d + 1) qX11_near 26 [some (vR 140), some (vI x1), some (vI x2), some (vI x3), some (vI x4), none, none] [] τ Q := by
  refine u_iload (i := 4) (pc' := 28) dX11_near_26 rfl rfl ?_
  refine u_aload_n (i := 0) (pc' := 29) dX11_near_28 rfl rfl rfl ?_
  refine u_getR (a := 144) (pc' := 32) dX11_near_29 rfl fl_TuneDoorModel_57 rfl (by decide) kd_140 rfl ?_
  refine u_aload_n (i := 0) (pc' := 33) dX11_near_32 rfl rfl rfl ?_
  refine u_getI (z := (τ 140 12)) (pc' := 36) dX11_near_33 rfl fl_TuneDoorModel_48 rfl (by decide) (by decide) kd_140 rfl (fun r1 => ?_)
  obtain ⟨c2, c3, h⟩ := h
  refine u_iaload (k := (τ 140 12).toNat) (z := (τ 144 (τ 140 12).toNat)) (pc' := 37) dX11_near_36 rfl (by decide) kd_144 c2 c3 (by decide) rfl rfl (fun r4 => ?_)
  obtain ⟨c5, h⟩ := h
  refine u_icmp_ge (tgt := 141) (pc' := 40) dX11_near_37 rfl (by decide) c5 r4 (fun hb => ?_) (fun hb => ?_)
  · have h := h.1 hb
    refine u_iload_n (i := 3) (pc' := 142) dX11_near_141 rfl rfl rfl ?_
    exact u_iret dX11_near_142 rfl h
  · have h := h.2 hb
    refine u_aload_n (i := 0) (pc' := 41) dX11_near_40 rfl rfl rfl ?_
    refine u_getR (a := 182) (pc' := 44) dX11_near_41 rfl fl_TuneDoorModel_192 rfl (by decide) kd_140 rfl ?_
    refine u_iconst (pc' := 45) dX11_near_44 rfl ?_
    refine u_iload_n (i := 1) (pc' := 46) dX11_near_45 rfl rfl rfl ?_
    refine u_imul (pc' := 47) dX11_near_46 rfl ?_
    refine u_iload (i := 4) (pc' := 49) dX11_near_47 rfl rfl ?_
    refine u_iadd (pc' := 50) dX11_near_49 rfl ?_
    obtain ⟨c6, c7, h⟩ := h
    refine u_iaload (k := ((3 * x1) + x4).toNat) (z := (τ 182 ((3 * x1) + x4).toNat)) (pc' := 51) dX11_near_50 rfl (by decide) kd_182 c6 c7 (by decide) rfl rfl (fun r8 => ?_)
    refine s_istore (i := 5) (ls' := [some (vR 140), some (vI x1), some (vI x2), some (vI x3), some (vI x4), some (vI (τ 182 ((3 * x1) + x4).toNat)), none]) (pc' := 53) dX11_near_51 rfl (Nat.le_of_ble_eq_true rfl) rfl rfl ?_
    exact u_less (ls' := [some (vR 140), some (vI x1), some (vI x2), some (vI x3), some (vI x4), some (vI (τ 182 ((3 * x1) + x4).toNat)), none]) ⟨rfl, ⟨rfl, ⟨rfl, ⟨rfl, ⟨rfl, ⟨rfl, trivial⟩⟩⟩⟩⟩⟩ h
set_option maxRecDepth 20000 in
theorem bX11_near_53 {E : mm_Env} {d : Nat} {τ : mm_Mem} {Q : mm_Q0} {x1 : Int} {x2 : Int} {x3 : Int} {x4 : Int} {x5 : Int} (h : M0 E d qX11_isEar [vR 140, vI x1, vI x4] τ (fun v τ1 => ∃ b2 : Bool, v = some (vB b2) ∧ ((b2 = false → V0 E (d + 1) qX11_near 26 [some (vR 140), some (vI x1), some (vI x2), some (vI x3), some (vI (x4 + 1)), none, none] [] τ1 Q) ∧ (b2 = true → 0 ≤ ((3 * x1) + x4) ∧ ((3 * x1) + x4) < 12 ∧ inR x5 ∧ inR ((τ1 182 ((3 * x1) + x4).toNat) + x2) ∧ ((((τ1 182 ((3 * x1) + x4).toNat) + x2) < x5 → V0 E (d + 1) qX11_near 26 [some (vR 140), some (vI x1), some (vI x2), some (vI x3), some (vI (x4 + 1)), none, none] [] τ1 Q) ∧ (¬ ((τ1 182 ((3 * x1) + x4).toNat) + x2) < x5 → ((1000 ≤ x5 → V0 E (d + 1) qX11_near 26 [some (vR 140), some (vI x1), some (vI x2), some (vI x3), some (vI (x4 + 1)), none, none] [] τ1 Q) ∧ (¬ 1000 ≤ x5 → M0 E d qX11_whistles [vR 140, vI x4, vI x5] τ1 (fun v τ8 => v = none ∧ M0 E d qX11_nearest [vR 140, vI x1, vI x2] τ8 (fun v τ9 => ∃ r10 : Int, v = some (vI r10) ∧ inR r10 ∧ ((r10 = (-1) → V0 E (d + 1) qX11_near 53 [some (vR 140), some (vI x1), some (vI x2), some (vI x3), some (vI x4), some (vI (x5 + 1)), none] [] τ9 Q) ∧ (¬ r10 = (-1) → inR x3 ∧ ((x3 = (-1) → V0 E (d + 1) qX11_near 53 [some (vR 140), some (vI x1), some (vI x2), some (vI r10), some (vI x4), some (vI (x5 + 1)), none] [] τ9 Q) ∧ (¬ x3 = (-1) → ((x3 ≤ r10 → V0 E (d + 1) qX11_near 53 [some (vR 140), some (vI x1), some (vI x2), some (vI x3), some (vI x4), some (vI (x5 + 1)), none] [] τ9 Q) ∧ (¬ x3 ≤ r10 → V0 E (d + 1) qX11_near 53 [some (vR 140), some (vI x1), some (vI x2), some (vI r10), some (vI x4), some (vI (x5 + 1)), none] [] τ9 Q)))))))))))))))) : V0 E (d + 1) qX11_near 53 [some (vR 140), some (vI x1), some (vI x2), some (vI x3), some (vI x4), some (vI x5), none] [] τ Q := by
  refine u_aload_n (i := 0) (pc' := 54) dX11_near_53 rfl rfl rfl ?_
  refine u_iload_n (i := 1) (pc' := 55) dX11_near_54 rfl rfl rfl ?_
  refine u_iload (i := 4) (pc' := 57) dX11_near_55 rfl rfl ?_
  refine u_invV (q' := qX11_isEar) (As := [vI x1, vI x4]) (st := []) (pc' := 60) dX11_near_57 rfl gX11_isEar wm_1688 rfl rfl (by decide) kd_140 wm_1690 wp_110 rfl (Nat.le_of_ble_eq_true rfl) (M0.mono h (fun v τ1 h => ?_))
  obtain ⟨b2, rfl, h⟩ := h
  show V0 E (d + 1) qX11_near 60 [some (vR 140), some (vI x1), some (vI x2), some (vI x3), some (vI x4), some (vI x5), none] [vB b2] τ1 Q
  refine u_if_eq (tgt := 135) (pc' := 63) dX11_near_60 rfl (by decide) (bI_R _) (fun hb => ?_) (fun hb => ?_)
  · have h := h.1 (bI_0.mp hb)
    refine s_iinc (i := 4) (ls' := [some (vR 140), some (vI x1), some (vI x2), some (vI x3), some (vI (x4 + 1)), some (vI x5), none]) (pc' := 138) dX11_near_135 rfl rfl (Nat.le_of_ble_eq_true rfl) rfl rfl ?_
    refine u_goto (tgt := 26) dX11_near_138 (by decide) ?_
    exact u_less (ls' := [some (vR 140), some (vI x1), some (vI x2), some (vI x3), some (vI (x4 + 1)), none, none]) ⟨rfl, ⟨rfl, ⟨rfl, ⟨rfl, ⟨rfl, trivial⟩⟩⟩⟩⟩ h
  · have h := h.2 (bI_n0.mp hb)
    refine u_iload (i := 5) (pc' := 65) dX11_near_63 rfl rfl ?_
    refine u_aload_n (i := 0) (pc' := 66) dX11_near_65 rfl rfl rfl ?_
    refine u_getR (a := 182) (pc' := 69) dX11_near_66 rfl fl_TuneDoorModel_192 rfl (by decide) kd_140 rfl ?_
    refine u_iconst (pc' := 70) dX11_near_69 rfl ?_
    refine u_iload_n (i := 1) (pc' := 71) dX11_near_70 rfl rfl rfl ?_
    refine u_imul (pc' := 72) dX11_near_71 rfl ?_
    refine u_iload (i := 4) (pc' := 74) dX11_near_72 rfl rfl ?_
    refine u_iadd (pc' := 75) dX11_near_74 rfl ?_
    obtain ⟨c3, c4, h⟩ := h
    refine u_iaload (k := ((3 * x1) + x4).toNat) (z := (τ1 182 ((3 * x1) + x4).toNat)) (pc' := 76) dX11_near_75 rfl (by decide) kd_182 c3 c4 (by decide) rfl rfl (fun r5 => ?_)
    refine u_iload_n (i := 2) (pc' := 77) dX11_near_76 rfl rfl rfl ?_
    refine u_iadd (pc' := 78) dX11_near_77 rfl ?_
    obtain ⟨c6, c7, h⟩ := h
    refine u_icmp_gt (tgt := 135) (pc' := 81) dX11_near_78 rfl (by decide) c6 c7 (fun hb => ?_) (fun hb => ?_)
    · have h := h.1 hb
      refine s_iinc (i := 4) (ls' := [some (vR 140), some (vI x1), some (vI x2), some (vI x3), some (vI (x4 + 1)), some (vI x5), none]) (pc' := 138) dX11_near_135 rfl rfl (Nat.le_of_ble_eq_true rfl) rfl rfl ?_
      refine u_goto (tgt := 26) dX11_near_138 (by decide) ?_
      exact u_less (ls' := [some (vR 140), some (vI x1), some (vI x2), some (vI x3), some (vI (x4 + 1)), none, none]) ⟨rfl, ⟨rfl, ⟨rfl, ⟨rfl, ⟨rfl, trivial⟩⟩⟩⟩⟩ h
    · have h := h.2 hb
      refine u_iload (i := 5) (pc' := 83) dX11_near_81 rfl rfl ?_
      refine u_sipush (pc' := 86) dX11_near_83 rfl (by decide) ?_
      refine u_icmp_ge (tgt := 135) (pc' := 89) dX11_near_86 rfl (by decide) c6 ⟨by decide, by decide⟩ (fun hb => ?_) (fun hb => ?_)
      · have h := h.1 hb
        refine s_iinc (i := 4) (ls' := [some (vR 140), some (vI x1), some (vI x2), some (vI x3), some (vI (x4 + 1)), some (vI x5), none]) (pc' := 138) dX11_near_135 rfl rfl (Nat.le_of_ble_eq_true rfl) rfl rfl ?_
        refine u_goto (tgt := 26) dX11_near_138 (by decide) ?_
        exact u_less (ls' := [some (vR 140), some (vI x1), some (vI x2), some (vI x3), some (vI (x4 + 1)), none, none]) ⟨rfl, ⟨rfl, ⟨rfl, ⟨rfl, ⟨rfl, trivial⟩⟩⟩⟩⟩ h
      · have h := h.2 hb
        refine u_aload_n (i := 0) (pc' := 90) dX11_near_89 rfl rfl rfl ?_
        refine u_iload (i := 4) (pc' := 92) dX11_near_90 rfl rfl ?_
        refine u_iload (i := 5) (pc' := 94) dX11_near_92 rfl rfl ?_
        refine u_invV (q' := qX11_whistles) (As := [vI x4, vI x5]) (st := []) (pc' := 97) dX11_near_94 rfl gX11_whistles wm_1747 rfl rfl (by decide) kd_140 wm_1749 wp_117 rfl (Nat.le_of_ble_eq_true rfl) (M0.mono h (fun v τ8 h => ?_))
        obtain ⟨rfl, h⟩ := h
        show V0 E (d + 1) qX11_near 97 [some (vR 140), some (vI x1), some (vI x2), some (vI x3), some (vI x4), some (vI x5), none] [] τ8 Q
        refine u_aload_n (i := 0) (pc' := 98) dX11_near_97 rfl rfl rfl ?_
        refine u_iload_n (i := 1) (pc' := 99) dX11_near_98 rfl rfl rfl ?_
        refine u_iload_n (i := 2) (pc' := 100) dX11_near_99 rfl rfl rfl ?_
        refine u_invV (q' := qX11_nearest) (As := [vI x1, vI x2]) (st := []) (pc' := 103) dX11_near_100 rfl gX11_nearest wm_1862 rfl rfl (by decide) kd_140 wm_1864 wp_134 rfl (Nat.le_of_ble_eq_true rfl) (M0.mono h (fun v τ9 h => ?_))
        obtain ⟨r10, rfl, h⟩ := h
        show V0 E (d + 1) qX11_near 103 [some (vR 140), some (vI x1), some (vI x2), some (vI x3), some (vI x4), some (vI x5), none] [vI r10] τ9 Q
        refine s_istore (i := 6) (ls' := [some (vR 140), some (vI x1), some (vI x2), some (vI x3), some (vI x4), some (vI x5), some (vI r10)]) (pc' := 105) dX11_near_103 rfl (Nat.le_of_ble_eq_true rfl) rfl rfl ?_
        refine u_iload (i := 6) (pc' := 107) dX11_near_105 rfl rfl ?_
        refine u_iconst (pc' := 108) dX11_near_107 rfl ?_
        obtain ⟨c11, h⟩ := h
        refine u_icmp_eq (tgt := 127) (pc' := 111) dX11_near_108 rfl (by decide) c11 ⟨by decide, by decide⟩ (fun hb => ?_) (fun hb => ?_)
        · have h := h.1 hb
          refine u_iload_n (i := 3) (pc' := 128) dX11_near_127 rfl rfl rfl ?_
          refine s_istore_n (i := 3) (ls' := [some (vR 140), some (vI x1), some (vI x2), some (vI x3), some (vI x4), some (vI x5), some (vI r10)]) (pc' := 129) dX11_near_128 rfl rfl (Nat.le_of_ble_eq_true rfl) rfl rfl ?_
          refine s_iinc (i := 5) (ls' := [some (vR 140), some (vI x1), some (vI x2), some (vI x3), some (vI x4), some (vI (x5 + 1)), some (vI r10)]) (pc' := 132) dX11_near_129 rfl rfl (Nat.le_of_ble_eq_true rfl) rfl rfl ?_
          refine u_goto (tgt := 53) dX11_near_132 (by decide) ?_
          exact u_less (ls' := [some (vR 140), some (vI x1), some (vI x2), some (vI x3), some (vI x4), some (vI (x5 + 1)), none]) ⟨rfl, ⟨rfl, ⟨rfl, ⟨rfl, ⟨rfl, ⟨rfl, trivial⟩⟩⟩⟩⟩⟩ h
        · have h := h.2 hb
          refine u_iload_n (i := 3) (pc' := 112) dX11_near_111 rfl rfl rfl ?_
          refine u_iconst (pc' := 113) dX11_near_112 rfl ?_
          obtain ⟨c12, h⟩ := h
          refine u_icmp_eq (tgt := 122) (pc' := 116) dX11_near_113 rfl (by decide) c12 ⟨by decide, by decide⟩ (fun hb => ?_) (fun hb => ?_)
          · have h := h.1 hb
            refine u_iload (i := 6) (pc' := 124) dX11_near_122 rfl rfl ?_
            refine u_goto (tgt := 128) dX11_near_124 (by decide) ?_
            refine s_istore_n (i := 3) (ls' := [some (vR 140), some (vI x1), some (vI x2), some (vI r10), some (vI x4), some (vI x5), some (vI r10)]) (pc' := 129) dX11_near_128 rfl rfl (Nat.le_of_ble_eq_true rfl) rfl rfl ?_
            refine s_iinc (i := 5) (ls' := [some (vR 140), some (vI x1), some (vI x2), some (vI r10), some (vI x4), some (vI (x5 + 1)), some (vI r10)]) (pc' := 132) dX11_near_129 rfl rfl (Nat.le_of_ble_eq_true rfl) rfl rfl ?_
            refine u_goto (tgt := 53) dX11_near_132 (by decide) ?_
            exact u_less (ls' := [some (vR 140), some (vI x1), some (vI x2), some (vI r10), some (vI x4), some (vI (x5 + 1)), none]) ⟨rfl, ⟨rfl, ⟨rfl, ⟨rfl, ⟨rfl, ⟨rfl, trivial⟩⟩⟩⟩⟩⟩ h
          · have h := h.2 hb
            refine u_iload (i := 6) (pc' := 118) dX11_near_116 rfl rfl ?_
            refine u_iload_n (i := 3) (pc' := 119) dX11_near_118 rfl rfl rfl ?_
            refine u_icmp_ge (tgt := 127) (pc' := 122) dX11_near_119 rfl (by decide) c11 c12 (fun hb => ?_) (fun hb => ?_)
            · have h := h.1 hb
              refine u_iload_n (i := 3) (pc' := 128) dX11_near_127 rfl rfl rfl ?_
              refine s_istore_n (i := 3) (ls' := [some (vR 140), some (vI x1), some (vI x2), some (vI x3), some (vI x4), some (vI x5), some (vI r10)]) (pc' := 129) dX11_near_128 rfl rfl (Nat.le_of_ble_eq_true rfl) rfl rfl ?_
              refine s_iinc (i := 5) (ls' := [some (vR 140), some (vI x1), some (vI x2), some (vI x3), some (vI x4), some (vI (x5 + 1)), some (vI r10)]) (pc' := 132) dX11_near_129 rfl rfl (Nat.le_of_ble_eq_true rfl) rfl rfl ?_
              refine u_goto (tgt := 53) dX11_near_132 (by decide) ?_
              exact u_less (ls' := [some (vR 140), some (vI x1), some (vI x2), some (vI x3), some (vI x4), some (vI (x5 + 1)), none]) ⟨rfl, ⟨rfl, ⟨rfl, ⟨rfl, ⟨rfl, ⟨rfl, trivial⟩⟩⟩⟩⟩⟩ h
            · have h := h.2 hb
              refine u_iload (i := 6) (pc' := 124) dX11_near_122 rfl rfl ?_
              refine u_goto (tgt := 128) dX11_near_124 (by decide) ?_
              refine s_istore_n (i := 3) (ls' := [some (vR 140), some (vI x1), some (vI x2), some (vI r10), some (vI x4), some (vI x5), some (vI r10)]) (pc' := 129) dX11_near_128 rfl rfl (Nat.le_of_ble_eq_true rfl) rfl rfl ?_
              refine s_iinc (i := 5) (ls' := [some (vR 140), some (vI x1), some (vI x2), some (vI r10), some (vI x4), some (vI (x5 + 1)), some (vI r10)]) (pc' := 132) dX11_near_129 rfl rfl (Nat.le_of_ble_eq_true rfl) rfl rfl ?_
              refine u_goto (tgt := 53) dX11_near_132 (by decide) ?_
              exact u_less (ls' := [some (vR 140), some (vI x1), some (vI x2), some (vI r10), some (vI x4), some (vI (x5 + 1)), none]) ⟨rfl, ⟨rfl, ⟨rfl, ⟨rfl, ⟨rfl, ⟨rfl, trivial⟩⟩⟩⟩⟩⟩ h
set_option maxRecDepth 20000 in
theorem bX11_nearest_0 {E : mm_Env} {d : Nat} {τ : mm_Mem} {Q : mm_Q0} {a0 : Int} {a1 : Int} (h : V0 E (d + 1) qX11_nearest 5 [some (vR 140), some (vI a0), some (vI a1), some (vI (-1)), some (vI 0), none, none, none] [] τ Q) : V0 E (d + 1) qX11_nearest 0 [some (vR 140), some (vI a0), some (vI a1), none, none, none, none, none] [] τ Q := by
  refine u_iconst (pc' := 1) dX11_nearest_0 rfl ?_
  refine s_istore_n (i := 3) (ls' := [some (vR 140), some (vI a0), some (vI a1), some (vI (-1)), none, none, none, none]) (pc' := 2) dX11_nearest_1 rfl rfl (Nat.le_of_ble_eq_true rfl) rfl rfl ?_
  refine u_iconst (pc' := 3) dX11_nearest_2 rfl ?_
  refine s_istore (i := 4) (ls' := [some (vR 140), some (vI a0), some (vI a1), some (vI (-1)), some (vI 0), none, none, none]) (pc' := 5) dX11_nearest_3 rfl (Nat.le_of_ble_eq_true rfl) rfl rfl ?_
  exact u_less (ls' := [some (vR 140), some (vI a0), some (vI a1), some (vI (-1)), some (vI 0), none, none, none]) ⟨rfl, ⟨rfl, ⟨rfl, ⟨rfl, ⟨rfl, trivial⟩⟩⟩⟩⟩ h
theorem mX11_nearest {E : mm_Env} {d : Nat} {τ : mm_Mem} {Q : mm_Q0} {a0 : Int} {a1 : Int} (h : V0 E (d + 1) qX11_nearest 5 [some (vR 140), some (vI a0), some (vI a1), some (vI (-1)), some (vI 0), none, none, none] [] τ Q) : M0 E (d + 1) qX11_nearest [vR 140, vI a0, vI a1] τ Q := M0_of rfl (Nat.le_of_ble_eq_true rfl) [some (vR 140), some (vI a0), some (vI a1), none, none, none, none, none] rfl (bX11_nearest_0  h)
set_option maxRecDepth 20000 in
theorem bX11_nearest_5 {E : mm_Env} {d : Nat} {τ : mm_Mem} {Q : mm_Q0} {x1 : Int} {x2 : Int} {x3 : Int} {x4 : Int} (h : 0 ≤ (τ 140 12) ∧ (τ 140 12) < 2 ∧ inR x4 ∧ (((τ 144 (τ 140 12).toNat) ≤ x4 → Q (some (vI x3)) τ) ∧ (¬ (τ 144 (τ 140 12).toNat) ≤ x4 → 0 ≤ ((3 * x1) + x4) ∧ ((3 * x1) + x4) < 12 ∧ V0 E (d + 1) qX11_nearest 36 [some (vR 140), some (vI x1), some (vI x2), some (vI x3), some (vI x4), some (vI (τ 182 ((3 * x1) + x4).toNat)), some (vI (τ 182 ((3 * x1) + x4).toNat)), none] [] τ Q))) : V0 E (d + 1) qX11_nearest 5 [some (vR 140), some (vI x1), some (vI x2), some (vI x3), some (vI x4), none, none, none] [] τ Q := by
  refine u_iload (i := 4) (pc' := 7) dX11_nearest_5 rfl rfl ?_
  refine u_aload_n (i := 0) (pc' := 8) dX11_nearest_7 rfl rfl rfl ?_
  refine u_getR (a := 144) (pc' := 11) dX11_nearest_8 rfl fl_TuneDoorModel_57 rfl (by decide) kd_140 rfl ?_
  refine u_aload_n (i := 0) (pc' := 12) dX11_nearest_11 rfl rfl rfl ?_
  refine u_getI (z := (τ 140 12)) (pc' := 15) dX11_nearest_12 rfl fl_TuneDoorModel_48 rfl (by decide) (by decide) kd_140 rfl (fun r1 => ?_)
  obtain ⟨c2, c3, h⟩ := h
  refine u_iaload (k := (τ 140 12).toNat) (z := (τ 144 (τ 140 12).toNat)) (pc' := 16) dX11_nearest_15 rfl (by decide) kd_144 c2 c3 (by decide) rfl rfl (fun r4 => ?_)
  obtain ⟨c5, h⟩ := h
  refine u_icmp_ge (tgt := 108) (pc' := 19) dX11_nearest_16 rfl (by decide) c5 r4 (fun hb => ?_) (fun hb => ?_)
  · have h := h.1 hb
    refine u_iload_n (i := 3) (pc' := 109) dX11_nearest_108 rfl rfl rfl ?_
    exact u_iret dX11_nearest_109 rfl h
  · have h := h.2 hb
    refine u_aload_n (i := 0) (pc' := 20) dX11_nearest_19 rfl rfl rfl ?_
    refine u_getR (a := 182) (pc' := 23) dX11_nearest_20 rfl fl_TuneDoorModel_192 rfl (by decide) kd_140 rfl ?_
    refine u_iconst (pc' := 24) dX11_nearest_23 rfl ?_
    refine u_iload_n (i := 1) (pc' := 25) dX11_nearest_24 rfl rfl rfl ?_
    refine u_imul (pc' := 26) dX11_nearest_25 rfl ?_
    refine u_iload (i := 4) (pc' := 28) dX11_nearest_26 rfl rfl ?_
    refine u_iadd (pc' := 29) dX11_nearest_28 rfl ?_
    obtain ⟨c6, c7, h⟩ := h
    refine u_iaload (k := ((3 * x1) + x4).toNat) (z := (τ 182 ((3 * x1) + x4).toNat)) (pc' := 30) dX11_nearest_29 rfl (by decide) kd_182 c6 c7 (by decide) rfl rfl (fun r8 => ?_)
    refine s_istore (i := 5) (ls' := [some (vR 140), some (vI x1), some (vI x2), some (vI x3), some (vI x4), some (vI (τ 182 ((3 * x1) + x4).toNat)), none, none]) (pc' := 32) dX11_nearest_30 rfl (Nat.le_of_ble_eq_true rfl) rfl rfl ?_
    refine u_iload (i := 5) (pc' := 34) dX11_nearest_32 rfl rfl ?_
    refine s_istore (i := 6) (ls' := [some (vR 140), some (vI x1), some (vI x2), some (vI x3), some (vI x4), some (vI (τ 182 ((3 * x1) + x4).toNat)), some (vI (τ 182 ((3 * x1) + x4).toNat)), none]) (pc' := 36) dX11_nearest_34 rfl (Nat.le_of_ble_eq_true rfl) rfl rfl ?_
    exact u_less (ls' := [some (vR 140), some (vI x1), some (vI x2), some (vI x3), some (vI x4), some (vI (τ 182 ((3 * x1) + x4).toNat)), some (vI (τ 182 ((3 * x1) + x4).toNat)), none]) ⟨rfl, ⟨rfl, ⟨rfl, ⟨rfl, ⟨rfl, ⟨rfl, ⟨rfl, trivial⟩⟩⟩⟩⟩⟩⟩ h
set_option maxRecDepth 20000 in
theorem bX11_nearest_36 {E : mm_Env} {d : Nat} {τ : mm_Mem} {Q : mm_Q0} {x1 : Int} {x2 : Int} {x3 : Int} {x4 : Int} {x5 : Int} {x6 : Int} (h : M0 E d qX11_isEar [vR 140, vI x1, vI x4] τ (fun v τ1 => ∃ b2 : Bool, v = some (vB b2) ∧ ((b2 = false → V0 E (d + 1) qX11_nearest 5 [some (vR 140), some (vI x1), some (vI x2), some (vI x3), some (vI (x4 + 1)), none, none, none] [] τ1 Q) ∧ (b2 = true → inR x6 ∧ inR (x5 + x2) ∧ (((x5 + x2) < x6 → V0 E (d + 1) qX11_nearest 5 [some (vR 140), some (vI x1), some (vI x2), some (vI x3), some (vI (x4 + 1)), none, none, none] [] τ1 Q) ∧ (¬ (x5 + x2) < x6 → ((1000 ≤ x6 → V0 E (d + 1) qX11_nearest 5 [some (vR 140), some (vI x1), some (vI x2), some (vI x3), some (vI (x4 + 1)), none, none, none] [] τ1 Q) ∧ (¬ 1000 ≤ x6 → M0 E d qX11_unlike [vR 140, vI x4, vI x6] τ1 (fun v τ5 => ∃ r6 : Int, v = some (vI r6) ∧ inR r6 ∧ ((r6 ≤ 0 → V0 E (d + 1) qX11_nearest 36 [some (vR 140), some (vI x1), some (vI x2), some (vI x3), some (vI x4), some (vI x5), some (vI (x6 + 1)), none] [] τ5 Q) ∧ (¬ r6 ≤ 0 → inR x3 ∧ ((x3 = (-1) → V0 E (d + 1) qX11_nearest 36 [some (vR 140), some (vI x1), some (vI x2), some (vI r6), some (vI x4), some (vI x5), some (vI (x6 + 1)), none] [] τ5 Q) ∧ (¬ x3 = (-1) → ((x3 ≤ r6 → V0 E (d + 1) qX11_nearest 36 [some (vR 140), some (vI x1), some (vI x2), some (vI x3), some (vI x4), some (vI x5), some (vI (x6 + 1)), none] [] τ5 Q) ∧ (¬ x3 ≤ r6 → V0 E (d + 1) qX11_nearest 36 [some (vR 140), some (vI x1), some (vI x2), some (vI r6), some (vI x4), some (vI x5), some (vI (x6 + 1)), none] [] τ5 Q))))))))))))))) : V0 E (d + 1) qX11_nearest 36 [some (vR 140), some (vI x1), some (vI x2), some (vI x3), some (vI x4), some (vI x5), some (vI x6), none] [] τ Q := by
  refine u_aload_n (i := 0) (pc' := 37) dX11_nearest_36 rfl rfl rfl ?_
  refine u_iload_n (i := 1) (pc' := 38) dX11_nearest_37 rfl rfl rfl ?_
  refine u_iload (i := 4) (pc' := 40) dX11_nearest_38 rfl rfl ?_
  refine u_invV (q' := qX11_isEar) (As := [vI x1, vI x4]) (st := []) (pc' := 43) dX11_nearest_40 rfl gX11_isEar wm_1688 rfl rfl (by decide) kd_140 wm_1690 wp_110 rfl (Nat.le_of_ble_eq_true rfl) (M0.mono h (fun v τ1 h => ?_))
  obtain ⟨b2, rfl, h⟩ := h
  show V0 E (d + 1) qX11_nearest 43 [some (vR 140), some (vI x1), some (vI x2), some (vI x3), some (vI x4), some (vI x5), some (vI x6), none] [vB b2] τ1 Q
  refine u_if_eq (tgt := 102) (pc' := 46) dX11_nearest_43 rfl (by decide) (bI_R _) (fun hb => ?_) (fun hb => ?_)
  · have h := h.1 (bI_0.mp hb)
    refine s_iinc (i := 4) (ls' := [some (vR 140), some (vI x1), some (vI x2), some (vI x3), some (vI (x4 + 1)), some (vI x5), some (vI x6), none]) (pc' := 105) dX11_nearest_102 rfl rfl (Nat.le_of_ble_eq_true rfl) rfl rfl ?_
    refine u_goto (tgt := 5) dX11_nearest_105 (by decide) ?_
    exact u_less (ls' := [some (vR 140), some (vI x1), some (vI x2), some (vI x3), some (vI (x4 + 1)), none, none, none]) ⟨rfl, ⟨rfl, ⟨rfl, ⟨rfl, ⟨rfl, trivial⟩⟩⟩⟩⟩ h
  · have h := h.2 (bI_n0.mp hb)
    refine u_iload (i := 6) (pc' := 48) dX11_nearest_46 rfl rfl ?_
    refine u_iload (i := 5) (pc' := 50) dX11_nearest_48 rfl rfl ?_
    refine u_iload_n (i := 2) (pc' := 51) dX11_nearest_50 rfl rfl rfl ?_
    refine u_iadd (pc' := 52) dX11_nearest_51 rfl ?_
    obtain ⟨c3, c4, h⟩ := h
    refine u_icmp_gt (tgt := 102) (pc' := 55) dX11_nearest_52 rfl (by decide) c3 c4 (fun hb => ?_) (fun hb => ?_)
    · have h := h.1 hb
      refine s_iinc (i := 4) (ls' := [some (vR 140), some (vI x1), some (vI x2), some (vI x3), some (vI (x4 + 1)), some (vI x5), some (vI x6), none]) (pc' := 105) dX11_nearest_102 rfl rfl (Nat.le_of_ble_eq_true rfl) rfl rfl ?_
      refine u_goto (tgt := 5) dX11_nearest_105 (by decide) ?_
      exact u_less (ls' := [some (vR 140), some (vI x1), some (vI x2), some (vI x3), some (vI (x4 + 1)), none, none, none]) ⟨rfl, ⟨rfl, ⟨rfl, ⟨rfl, ⟨rfl, trivial⟩⟩⟩⟩⟩ h
    · have h := h.2 hb
      refine u_iload (i := 6) (pc' := 57) dX11_nearest_55 rfl rfl ?_
      refine u_sipush (pc' := 60) dX11_nearest_57 rfl (by decide) ?_
      refine u_icmp_ge (tgt := 102) (pc' := 63) dX11_nearest_60 rfl (by decide) c3 ⟨by decide, by decide⟩ (fun hb => ?_) (fun hb => ?_)
      · have h := h.1 hb
        refine s_iinc (i := 4) (ls' := [some (vR 140), some (vI x1), some (vI x2), some (vI x3), some (vI (x4 + 1)), some (vI x5), some (vI x6), none]) (pc' := 105) dX11_nearest_102 rfl rfl (Nat.le_of_ble_eq_true rfl) rfl rfl ?_
        refine u_goto (tgt := 5) dX11_nearest_105 (by decide) ?_
        exact u_less (ls' := [some (vR 140), some (vI x1), some (vI x2), some (vI x3), some (vI (x4 + 1)), none, none, none]) ⟨rfl, ⟨rfl, ⟨rfl, ⟨rfl, ⟨rfl, trivial⟩⟩⟩⟩⟩ h
      · have h := h.2 hb
        refine u_aload_n (i := 0) (pc' := 64) dX11_nearest_63 rfl rfl rfl ?_
        refine u_iload (i := 4) (pc' := 66) dX11_nearest_64 rfl rfl ?_
        refine u_iload (i := 6) (pc' := 68) dX11_nearest_66 rfl rfl ?_
        refine u_invV (q' := qX11_unlike) (As := [vI x4, vI x6]) (st := []) (pc' := 71) dX11_nearest_68 rfl gX11_unlike wm_1767 rfl rfl (by decide) kd_140 wm_1769 wp_122 rfl (Nat.le_of_ble_eq_true rfl) (M0.mono h (fun v τ5 h => ?_))
        obtain ⟨r6, rfl, h⟩ := h
        show V0 E (d + 1) qX11_nearest 71 [some (vR 140), some (vI x1), some (vI x2), some (vI x3), some (vI x4), some (vI x5), some (vI x6), none] [vI r6] τ5 Q
        refine s_istore (i := 7) (ls' := [some (vR 140), some (vI x1), some (vI x2), some (vI x3), some (vI x4), some (vI x5), some (vI x6), some (vI r6)]) (pc' := 73) dX11_nearest_71 rfl (Nat.le_of_ble_eq_true rfl) rfl rfl ?_
        refine u_iload (i := 7) (pc' := 75) dX11_nearest_73 rfl rfl ?_
        obtain ⟨c7, h⟩ := h
        refine u_if_le (tgt := 94) (pc' := 78) dX11_nearest_75 rfl (by decide) c7 (fun hb => ?_) (fun hb => ?_)
        · have h := h.1 hb
          refine u_iload_n (i := 3) (pc' := 95) dX11_nearest_94 rfl rfl rfl ?_
          refine s_istore_n (i := 3) (ls' := [some (vR 140), some (vI x1), some (vI x2), some (vI x3), some (vI x4), some (vI x5), some (vI x6), some (vI r6)]) (pc' := 96) dX11_nearest_95 rfl rfl (Nat.le_of_ble_eq_true rfl) rfl rfl ?_
          refine s_iinc (i := 6) (ls' := [some (vR 140), some (vI x1), some (vI x2), some (vI x3), some (vI x4), some (vI x5), some (vI (x6 + 1)), some (vI r6)]) (pc' := 99) dX11_nearest_96 rfl rfl (Nat.le_of_ble_eq_true rfl) rfl rfl ?_
          refine u_goto (tgt := 36) dX11_nearest_99 (by decide) ?_
          exact u_less (ls' := [some (vR 140), some (vI x1), some (vI x2), some (vI x3), some (vI x4), some (vI x5), some (vI (x6 + 1)), none]) ⟨rfl, ⟨rfl, ⟨rfl, ⟨rfl, ⟨rfl, ⟨rfl, ⟨rfl, trivial⟩⟩⟩⟩⟩⟩⟩ h
        · have h := h.2 hb
          refine u_iload_n (i := 3) (pc' := 79) dX11_nearest_78 rfl rfl rfl ?_
          refine u_iconst (pc' := 80) dX11_nearest_79 rfl ?_
          obtain ⟨c8, h⟩ := h
          refine u_icmp_eq (tgt := 89) (pc' := 83) dX11_nearest_80 rfl (by decide) c8 ⟨by decide, by decide⟩ (fun hb => ?_) (fun hb => ?_)
          · have h := h.1 hb
            refine u_iload (i := 7) (pc' := 91) dX11_nearest_89 rfl rfl ?_
            refine u_goto (tgt := 95) dX11_nearest_91 (by decide) ?_
            refine s_istore_n (i := 3) (ls' := [some (vR 140), some (vI x1), some (vI x2), some (vI r6), some (vI x4), some (vI x5), some (vI x6), some (vI r6)]) (pc' := 96) dX11_nearest_95 rfl rfl (Nat.le_of_ble_eq_true rfl) rfl rfl ?_
            refine s_iinc (i := 6) (ls' := [some (vR 140), some (vI x1), some (vI x2), some (vI r6), some (vI x4), some (vI x5), some (vI (x6 + 1)), some (vI r6)]) (pc' := 99) dX11_nearest_96 rfl rfl (Nat.le_of_ble_eq_true rfl) rfl rfl ?_
            refine u_goto (tgt := 36) dX11_nearest_99 (by decide) ?_
            exact u_less (ls' := [some (vR 140), some (vI x1), some (vI x2), some (vI r6), some (vI x4), some (vI x5), some (vI (x6 + 1)), none]) ⟨rfl, ⟨rfl, ⟨rfl, ⟨rfl, ⟨rfl, ⟨rfl, ⟨rfl, trivial⟩⟩⟩⟩⟩⟩⟩ h
          · have h := h.2 hb
            refine u_iload (i := 7) (pc' := 85) dX11_nearest_83 rfl rfl ?_
            refine u_iload_n (i := 3) (pc' := 86) dX11_nearest_85 rfl rfl rfl ?_
            refine u_icmp_ge (tgt := 94) (pc' := 89) dX11_nearest_86 rfl (by decide) c7 c8 (fun hb => ?_) (fun hb => ?_)
            · have h := h.1 hb
              refine u_iload_n (i := 3) (pc' := 95) dX11_nearest_94 rfl rfl rfl ?_
              refine s_istore_n (i := 3) (ls' := [some (vR 140), some (vI x1), some (vI x2), some (vI x3), some (vI x4), some (vI x5), some (vI x6), some (vI r6)]) (pc' := 96) dX11_nearest_95 rfl rfl (Nat.le_of_ble_eq_true rfl) rfl rfl ?_
              refine s_iinc (i := 6) (ls' := [some (vR 140), some (vI x1), some (vI x2), some (vI x3), some (vI x4), some (vI x5), some (vI (x6 + 1)), some (vI r6)]) (pc' := 99) dX11_nearest_96 rfl rfl (Nat.le_of_ble_eq_true rfl) rfl rfl ?_
              refine u_goto (tgt := 36) dX11_nearest_99 (by decide) ?_
              exact u_less (ls' := [some (vR 140), some (vI x1), some (vI x2), some (vI x3), some (vI x4), some (vI x5), some (vI (x6 + 1)), none]) ⟨rfl, ⟨rfl, ⟨rfl, ⟨rfl, ⟨rfl, ⟨rfl, ⟨rfl, trivial⟩⟩⟩⟩⟩⟩⟩ h
            · have h := h.2 hb
              refine u_iload (i := 7) (pc' := 91) dX11_nearest_89 rfl rfl ?_
              refine u_goto (tgt := 95) dX11_nearest_91 (by decide) ?_
              refine s_istore_n (i := 3) (ls' := [some (vR 140), some (vI x1), some (vI x2), some (vI r6), some (vI x4), some (vI x5), some (vI x6), some (vI r6)]) (pc' := 96) dX11_nearest_95 rfl rfl (Nat.le_of_ble_eq_true rfl) rfl rfl ?_
              refine s_iinc (i := 6) (ls' := [some (vR 140), some (vI x1), some (vI x2), some (vI r6), some (vI x4), some (vI x5), some (vI (x6 + 1)), some (vI r6)]) (pc' := 99) dX11_nearest_96 rfl rfl (Nat.le_of_ble_eq_true rfl) rfl rfl ?_
              refine u_goto (tgt := 36) dX11_nearest_99 (by decide) ?_
              exact u_less (ls' := [some (vR 140), some (vI x1), some (vI x2), some (vI r6), some (vI x4), some (vI x5), some (vI (x6 + 1)), none]) ⟨rfl, ⟨rfl, ⟨rfl, ⟨rfl, ⟨rfl, ⟨rfl, ⟨rfl, trivial⟩⟩⟩⟩⟩⟩⟩ h
set_option maxRecDepth 20000 in
theorem bX11_cost_0 {E : mm_Env} {d : Nat} {τ : mm_Mem} {Q : mm_Q0} {a0 : Int} {a1 : Int} {a2 : Int} {a3 : Int} (h : M0 E d qX11_isPerson [vR 140, vI a0] τ (fun v τ1 => ∃ b2 : Bool, v = some (vB b2) ∧ ((b2 = false → Q (some (vI (-1))) τ1) ∧ (b2 = true → M0 E d qX11_is [vI a1, vI 1, vI 6] τ1 (fun v τ3 => ∃ b4 : Bool, v = some (vB b4) ∧ ((b4 = false → Q (some (vI (-1))) τ3) ∧ (b4 = true → inR a3 ∧ ((a3 = 0 → V0 E (d + 1) qX11_cost 29 [some (vR 140), some (vI a0), some (vI a1), some (vI a2), some (vI a3), none, none, none, none] [] τ3 Q) ∧ (¬ a3 = 0 → ((a3 ≠ 1 → Q (some (vI (-1))) τ3) ∧ (a3 = 1 → V0 E (d + 1) qX11_cost 29 [some (vR 140), some (vI a0), some (vI a1), some (vI a2), some (vI a3), none, none, none, none] [] τ3 Q))))))))))) : V0 E (d + 1) qX11_cost 0 [some (vR 140), some (vI a0), some (vI a1), some (vI a2), some (vI a3), none, none, none, none] [] τ Q := by
  refine u_aload_n (i := 0) (pc' := 1) dX11_cost_0 rfl rfl rfl ?_
  refine u_iload_n (i := 1) (pc' := 2) dX11_cost_1 rfl rfl rfl ?_
  refine u_invV (q' := qX11_isPerson) (As := [vI a0]) (st := []) (pc' := 5) dX11_cost_2 rfl gX11_isPerson wm_1704 rfl rfl (by decide) kd_140 wm_1706 wp_113 rfl (Nat.le_of_ble_eq_true rfl) (M0.mono h (fun v τ1 h => ?_))
  obtain ⟨b2, rfl, h⟩ := h
  show V0 E (d + 1) qX11_cost 5 [some (vR 140), some (vI a0), some (vI a1), some (vI a2), some (vI a3), none, none, none, none] [vB b2] τ1 Q
  refine u_if_eq (tgt := 44) (pc' := 8) dX11_cost_5 rfl (by decide) (bI_R _) (fun hb => ?_) (fun hb => ?_)
  · have h := h.1 (bI_0.mp hb)
    refine u_iconst (pc' := 45) dX11_cost_44 rfl ?_
    exact u_iret dX11_cost_45 rfl h
  · have h := h.2 (bI_n0.mp hb)
    refine u_iload_n (i := 2) (pc' := 9) dX11_cost_8 rfl rfl rfl ?_
    refine u_iconst (pc' := 10) dX11_cost_9 rfl ?_
    refine u_bipush (pc' := 12) dX11_cost_10 rfl (by decide) ?_
    refine u_invS (q' := qX11_is) (As := [vI a1, vI 1, vI 6]) (st := []) (pc' := 15) dX11_cost_12 rfl gX11_is wm_1495 wm_1496 rfl (Nat.le_of_ble_eq_true rfl) (M0.mono h (fun v τ3 h => ?_))
    obtain ⟨b4, rfl, h⟩ := h
    show V0 E (d + 1) qX11_cost 15 [some (vR 140), some (vI a0), some (vI a1), some (vI a2), some (vI a3), none, none, none, none] [vB b4] τ3 Q
    refine u_if_eq (tgt := 44) (pc' := 18) dX11_cost_15 rfl (by decide) (bI_R _) (fun hb => ?_) (fun hb => ?_)
    · have h := h.1 (bI_0.mp hb)
      refine u_iconst (pc' := 45) dX11_cost_44 rfl ?_
      exact u_iret dX11_cost_45 rfl h
    · have h := h.2 (bI_n0.mp hb)
      refine u_iload (i := 4) (pc' := 20) dX11_cost_18 rfl rfl ?_
      obtain ⟨c5, h⟩ := h
      refine u_if_eq (tgt := 29) (pc' := 23) dX11_cost_20 rfl (by decide) c5 (fun hb => ?_) (fun hb => ?_)
      · have h := h.1 hb
        exact u_less (ls' := [some (vR 140), some (vI a0), some (vI a1), some (vI a2), some (vI a3), none, none, none, none]) ⟨rfl, ⟨rfl, ⟨rfl, ⟨rfl, ⟨rfl, trivial⟩⟩⟩⟩⟩ h
      · have h := h.2 hb
        refine u_iload (i := 4) (pc' := 25) dX11_cost_23 rfl rfl ?_
        refine u_iconst (pc' := 26) dX11_cost_25 rfl ?_
        refine u_icmp_ne (tgt := 44) (pc' := 29) dX11_cost_26 rfl (by decide) c5 ⟨by decide, by decide⟩ (fun hb => ?_) (fun hb => ?_)
        · have h := h.1 hb
          refine u_iconst (pc' := 45) dX11_cost_44 rfl ?_
          exact u_iret dX11_cost_45 rfl h
        · have h := h.2 hb
          exact u_less (ls' := [some (vR 140), some (vI a0), some (vI a1), some (vI a2), some (vI a3), none, none, none, none]) ⟨rfl, ⟨rfl, ⟨rfl, ⟨rfl, ⟨rfl, trivial⟩⟩⟩⟩⟩ h
theorem mX11_cost {E : mm_Env} {d : Nat} {τ : mm_Mem} {Q : mm_Q0} {a0 : Int} {a1 : Int} {a2 : Int} {a3 : Int} (h : M0 E d qX11_isPerson [vR 140, vI a0] τ (fun v τ1 => ∃ b2 : Bool, v = some (vB b2) ∧ ((b2 = false → Q (some (vI (-1))) τ1) ∧ (b2 = true → M0 E d qX11_is [vI a1, vI 1, vI 6] τ1 (fun v τ3 => ∃ b4 : Bool, v = some (vB b4) ∧ ((b4 = false → Q (some (vI (-1))) τ3) ∧ (b4 = true → inR a3 ∧ ((a3 = 0 → V0 E (d + 1) qX11_cost 29 [some (vR 140), some (vI a0), some (vI a1), some (vI a2), some (vI a3), none, none, none, none] [] τ3 Q) ∧ (¬ a3 = 0 → ((a3 ≠ 1 → Q (some (vI (-1))) τ3) ∧ (a3 = 1 → V0 E (d + 1) qX11_cost 29 [some (vR 140), some (vI a0), some (vI a1), some (vI a2), some (vI a3), none, none, none, none] [] τ3 Q))))))))))) : M0 E (d + 1) qX11_cost [vR 140, vI a0, vI a1, vI a2, vI a3] τ Q := M0_of rfl (Nat.le_of_ble_eq_true rfl) [some (vR 140), some (vI a0), some (vI a1), some (vI a2), some (vI a3), none, none, none, none] rfl (bX11_cost_0  h)
set_option maxRecDepth 20000 in
theorem bX11_cost_29 {E : mm_Env} {d : Nat} {τ : mm_Mem} {Q : mm_Q0} {x1 : Int} {x2 : Int} {x3 : Int} {x4 : Int} (h : inR x4 ∧ ((x4 ≠ 0 → ((x4 ≠ 0 → M0 E d qX11_costOf [vR 140, vI x1, vI x2, vI 0] τ (fun v τ2 => ∃ r3 : Int, v = some (vI r3) ∧ V0 E (d + 1) qX11_cost 74 [some (vR 140), some (vI x1), some (vI x2), none, none, some (vI 0), some (vI r3), some (vI 1), none] [] τ2 Q)) ∧ (x4 = 0 → M0 E d qX11_costOf [vR 140, vI x1, vI x2, vI x3] τ (fun v τ4 => ∃ r5 : Int, v = some (vI r5) ∧ Q (some (vI r5)) τ4)))) ∧ (x4 = 0 → M0 E d qX11_is [vI x3, vI 0, vI 20] τ (fun v τ6 => ∃ b7 : Bool, v = some (vB b7) ∧ ((b7 = true → ((x4 ≠ 0 → M0 E d qX11_costOf [vR 140, vI x1, vI x2, vI 0] τ6 (fun v τ8 => ∃ r9 : Int, v = some (vI r9) ∧ V0 E (d + 1) qX11_cost 74 [some (vR 140), some (vI x1), some (vI x2), none, none, some (vI 0), some (vI r9), some (vI 1), none] [] τ8 Q)) ∧ (x4 = 0 → M0 E d qX11_costOf [vR 140, vI x1, vI x2, vI x3] τ6 (fun v τ10 => ∃ r11 : Int, v = some (vI r11) ∧ Q (some (vI r11)) τ10)))) ∧ (b7 = false → Q (some (vI (-1))) τ6)))))) : V0 E (d + 1) qX11_cost 29 [some (vR 140), some (vI x1), some (vI x2), some (vI x3), some (vI x4), none, none, none, none] [] τ Q := by
  refine u_iload (i := 4) (pc' := 31) dX11_cost_29 rfl rfl ?_
  obtain ⟨c1, h⟩ := h
  refine u_if_ne (tgt := 46) (pc' := 34) dX11_cost_31 rfl (by decide) c1 (fun hb => ?_) (fun hb => ?_)
  · have h := h.1 hb
    refine u_iload (i := 4) (pc' := 48) dX11_cost_46 rfl rfl ?_
    refine u_if_ne (tgt := 59) (pc' := 51) dX11_cost_48 rfl (by decide) c1 (fun hb => ?_) (fun hb => ?_)
    · have h := h.1 hb
      refine u_iconst (pc' := 60) dX11_cost_59 rfl ?_
      refine s_istore (i := 5) (ls' := [some (vR 140), some (vI x1), some (vI x2), some (vI x3), some (vI x4), some (vI 0), none, none, none]) (pc' := 62) dX11_cost_60 rfl (Nat.le_of_ble_eq_true rfl) rfl rfl ?_
      refine u_aload_n (i := 0) (pc' := 63) dX11_cost_62 rfl rfl rfl ?_
      refine u_iload_n (i := 1) (pc' := 64) dX11_cost_63 rfl rfl rfl ?_
      refine u_iload_n (i := 2) (pc' := 65) dX11_cost_64 rfl rfl rfl ?_
      refine u_iconst (pc' := 66) dX11_cost_65 rfl ?_
      refine u_invV (q' := qX11_costOf) (As := [vI x1, vI x2, vI 0]) (st := []) (pc' := 69) dX11_cost_66 rfl gX11_costOf wm_1870 rfl rfl (by decide) kd_140 wm_1872 wp_135 rfl (Nat.le_of_ble_eq_true rfl) (M0.mono h (fun v τ2 h => ?_))
      obtain ⟨r3, rfl, h⟩ := h
      show V0 E (d + 1) qX11_cost 69 [some (vR 140), some (vI x1), some (vI x2), some (vI x3), some (vI x4), some (vI 0), none, none, none] [vI r3] τ2 Q
      refine s_istore (i := 6) (ls' := [some (vR 140), some (vI x1), some (vI x2), some (vI x3), some (vI x4), some (vI 0), some (vI r3), none, none]) (pc' := 71) dX11_cost_69 rfl (Nat.le_of_ble_eq_true rfl) rfl rfl ?_
      refine u_iconst (pc' := 72) dX11_cost_71 rfl ?_
      refine s_istore (i := 7) (ls' := [some (vR 140), some (vI x1), some (vI x2), some (vI x3), some (vI x4), some (vI 0), some (vI r3), some (vI 1), none]) (pc' := 74) dX11_cost_72 rfl (Nat.le_of_ble_eq_true rfl) rfl rfl ?_
      exact u_less (ls' := [some (vR 140), some (vI x1), some (vI x2), none, none, some (vI 0), some (vI r3), some (vI 1), none]) ⟨rfl, ⟨rfl, ⟨rfl, ⟨rfl, ⟨rfl, ⟨rfl, trivial⟩⟩⟩⟩⟩⟩ h
    · have h := h.2 hb
      refine u_aload_n (i := 0) (pc' := 52) dX11_cost_51 rfl rfl rfl ?_
      refine u_iload_n (i := 1) (pc' := 53) dX11_cost_52 rfl rfl rfl ?_
      refine u_iload_n (i := 2) (pc' := 54) dX11_cost_53 rfl rfl rfl ?_
      refine u_iload_n (i := 3) (pc' := 55) dX11_cost_54 rfl rfl rfl ?_
      refine u_invV (q' := qX11_costOf) (As := [vI x1, vI x2, vI x3]) (st := []) (pc' := 58) dX11_cost_55 rfl gX11_costOf wm_1870 rfl rfl (by decide) kd_140 wm_1872 wp_135 rfl (Nat.le_of_ble_eq_true rfl) (M0.mono h (fun v τ4 h => ?_))
      obtain ⟨r5, rfl, h⟩ := h
      show V0 E (d + 1) qX11_cost 58 [some (vR 140), some (vI x1), some (vI x2), some (vI x3), some (vI x4), none, none, none, none] [vI r5] τ4 Q
      exact u_iret dX11_cost_58 rfl h
  · have h := h.2 hb
    refine u_iload_n (i := 3) (pc' := 35) dX11_cost_34 rfl rfl rfl ?_
    refine u_iconst (pc' := 36) dX11_cost_35 rfl ?_
    refine u_bipush (pc' := 38) dX11_cost_36 rfl (by decide) ?_
    refine u_invS (q' := qX11_is) (As := [vI x3, vI 0, vI 20]) (st := []) (pc' := 41) dX11_cost_38 rfl gX11_is wm_1495 wm_1496 rfl (Nat.le_of_ble_eq_true rfl) (M0.mono h (fun v τ6 h => ?_))
    obtain ⟨b7, rfl, h⟩ := h
    show V0 E (d + 1) qX11_cost 41 [some (vR 140), some (vI x1), some (vI x2), some (vI x3), some (vI x4), none, none, none, none] [vB b7] τ6 Q
    refine u_if_ne (tgt := 46) (pc' := 44) dX11_cost_41 rfl (by decide) (bI_R _) (fun hb => ?_) (fun hb => ?_)
    · have h := h.1 (bI_n0.mp hb)
      refine u_iload (i := 4) (pc' := 48) dX11_cost_46 rfl rfl ?_
      refine u_if_ne (tgt := 59) (pc' := 51) dX11_cost_48 rfl (by decide) c1 (fun hb => ?_) (fun hb => ?_)
      · have h := h.1 hb
        refine u_iconst (pc' := 60) dX11_cost_59 rfl ?_
        refine s_istore (i := 5) (ls' := [some (vR 140), some (vI x1), some (vI x2), some (vI x3), some (vI x4), some (vI 0), none, none, none]) (pc' := 62) dX11_cost_60 rfl (Nat.le_of_ble_eq_true rfl) rfl rfl ?_
        refine u_aload_n (i := 0) (pc' := 63) dX11_cost_62 rfl rfl rfl ?_
        refine u_iload_n (i := 1) (pc' := 64) dX11_cost_63 rfl rfl rfl ?_
        refine u_iload_n (i := 2) (pc' := 65) dX11_cost_64 rfl rfl rfl ?_
        refine u_iconst (pc' := 66) dX11_cost_65 rfl ?_
        refine u_invV (q' := qX11_costOf) (As := [vI x1, vI x2, vI 0]) (st := []) (pc' := 69) dX11_cost_66 rfl gX11_costOf wm_1870 rfl rfl (by decide) kd_140 wm_1872 wp_135 rfl (Nat.le_of_ble_eq_true rfl) (M0.mono h (fun v τ8 h => ?_))
        obtain ⟨r9, rfl, h⟩ := h
        show V0 E (d + 1) qX11_cost 69 [some (vR 140), some (vI x1), some (vI x2), some (vI x3), some (vI x4), some (vI 0), none, none, none] [vI r9] τ8 Q
        refine s_istore (i := 6) (ls' := [some (vR 140), some (vI x1), some (vI x2), some (vI x3), some (vI x4), some (vI 0), some (vI r9), none, none]) (pc' := 71) dX11_cost_69 rfl (Nat.le_of_ble_eq_true rfl) rfl rfl ?_
        refine u_iconst (pc' := 72) dX11_cost_71 rfl ?_
        refine s_istore (i := 7) (ls' := [some (vR 140), some (vI x1), some (vI x2), some (vI x3), some (vI x4), some (vI 0), some (vI r9), some (vI 1), none]) (pc' := 74) dX11_cost_72 rfl (Nat.le_of_ble_eq_true rfl) rfl rfl ?_
        exact u_less (ls' := [some (vR 140), some (vI x1), some (vI x2), none, none, some (vI 0), some (vI r9), some (vI 1), none]) ⟨rfl, ⟨rfl, ⟨rfl, ⟨rfl, ⟨rfl, ⟨rfl, trivial⟩⟩⟩⟩⟩⟩ h
      · have h := h.2 hb
        refine u_aload_n (i := 0) (pc' := 52) dX11_cost_51 rfl rfl rfl ?_
        refine u_iload_n (i := 1) (pc' := 53) dX11_cost_52 rfl rfl rfl ?_
        refine u_iload_n (i := 2) (pc' := 54) dX11_cost_53 rfl rfl rfl ?_
        refine u_iload_n (i := 3) (pc' := 55) dX11_cost_54 rfl rfl rfl ?_
        refine u_invV (q' := qX11_costOf) (As := [vI x1, vI x2, vI x3]) (st := []) (pc' := 58) dX11_cost_55 rfl gX11_costOf wm_1870 rfl rfl (by decide) kd_140 wm_1872 wp_135 rfl (Nat.le_of_ble_eq_true rfl) (M0.mono h (fun v τ10 h => ?_))
        obtain ⟨r11, rfl, h⟩ := h
        show V0 E (d + 1) qX11_cost 58 [some (vR 140), some (vI x1), some (vI x2), some (vI x3), some (vI x4), none, none, none, none] [vI r11] τ10 Q
        exact u_iret dX11_cost_58 rfl h
    · have h := h.2 (bI_0.mp hb)
      refine u_iconst (pc' := 45) dX11_cost_44 rfl ?_
      exact u_iret dX11_cost_45 rfl h
set_option maxRecDepth 20000 in
theorem bX11_cost_74 {E : mm_Env} {d : Nat} {τ : mm_Mem} {Q : mm_Q0} {x1 : Int} {x2 : Int} {x5 : Int} {x6 : Int} {x7 : Int} (h : inR x7 ∧ ((20 < x7 → Q (some (vI x5)) τ) ∧ (¬ 20 < x7 → M0 E d qX11_costOf [vR 140, vI x1, vI x2, vI x7] τ (fun v τ2 => ∃ r3 : Int, v = some (vI r3) ∧ inR r3 ∧ inR x6 ∧ ((r3 < x6 → V0 E (d + 1) qX11_cost 74 [some (vR 140), some (vI x1), some (vI x2), none, none, some (vI x7), some (vI r3), some (vI (x7 + 1)), none] [] τ2 Q) ∧ (¬ r3 < x6 → V0 E (d + 1) qX11_cost 74 [some (vR 140), some (vI x1), some (vI x2), none, none, some (vI x5), some (vI x6), some (vI (x7 + 1)), none] [] τ2 Q)))))) : V0 E (d + 1) qX11_cost 74 [some (vR 140), some (vI x1), some (vI x2), none, none, some (vI x5), some (vI x6), some (vI x7), none] [] τ Q := by
  refine u_iload (i := 7) (pc' := 76) dX11_cost_74 rfl rfl ?_
  refine u_bipush (pc' := 78) dX11_cost_76 rfl (by decide) ?_
  obtain ⟨c1, h⟩ := h
  refine u_icmp_gt (tgt := 115) (pc' := 81) dX11_cost_78 rfl (by decide) c1 ⟨by decide, by decide⟩ (fun hb => ?_) (fun hb => ?_)
  · have h := h.1 hb
    refine u_iload (i := 5) (pc' := 117) dX11_cost_115 rfl rfl ?_
    exact u_iret dX11_cost_117 rfl h
  · have h := h.2 hb
    refine u_aload_n (i := 0) (pc' := 82) dX11_cost_81 rfl rfl rfl ?_
    refine u_iload_n (i := 1) (pc' := 83) dX11_cost_82 rfl rfl rfl ?_
    refine u_iload_n (i := 2) (pc' := 84) dX11_cost_83 rfl rfl rfl ?_
    refine u_iload (i := 7) (pc' := 86) dX11_cost_84 rfl rfl ?_
    refine u_invV (q' := qX11_costOf) (As := [vI x1, vI x2, vI x7]) (st := []) (pc' := 89) dX11_cost_86 rfl gX11_costOf wm_1870 rfl rfl (by decide) kd_140 wm_1872 wp_135 rfl (Nat.le_of_ble_eq_true rfl) (M0.mono h (fun v τ2 h => ?_))
    obtain ⟨r3, rfl, h⟩ := h
    show V0 E (d + 1) qX11_cost 89 [some (vR 140), some (vI x1), some (vI x2), none, none, some (vI x5), some (vI x6), some (vI x7), none] [vI r3] τ2 Q
    refine s_istore (i := 8) (ls' := [some (vR 140), some (vI x1), some (vI x2), none, none, some (vI x5), some (vI x6), some (vI x7), some (vI r3)]) (pc' := 91) dX11_cost_89 rfl (Nat.le_of_ble_eq_true rfl) rfl rfl ?_
    refine u_iload (i := 8) (pc' := 93) dX11_cost_91 rfl rfl ?_
    refine u_iload (i := 6) (pc' := 95) dX11_cost_93 rfl rfl ?_
    obtain ⟨c4, c5, h⟩ := h
    refine u_icmp_lt (tgt := 101) (pc' := 98) dX11_cost_95 rfl (by decide) c4 c5 (fun hb => ?_) (fun hb => ?_)
    · have h := h.1 hb
      refine u_iload (i := 7) (pc' := 103) dX11_cost_101 rfl rfl ?_
      refine s_istore (i := 5) (ls' := [some (vR 140), some (vI x1), some (vI x2), none, none, some (vI x7), some (vI x6), some (vI x7), some (vI r3)]) (pc' := 105) dX11_cost_103 rfl (Nat.le_of_ble_eq_true rfl) rfl rfl ?_
      refine u_iload (i := 8) (pc' := 107) dX11_cost_105 rfl rfl ?_
      refine s_istore (i := 6) (ls' := [some (vR 140), some (vI x1), some (vI x2), none, none, some (vI x7), some (vI r3), some (vI x7), some (vI r3)]) (pc' := 109) dX11_cost_107 rfl (Nat.le_of_ble_eq_true rfl) rfl rfl ?_
      refine s_iinc (i := 7) (ls' := [some (vR 140), some (vI x1), some (vI x2), none, none, some (vI x7), some (vI r3), some (vI (x7 + 1)), some (vI r3)]) (pc' := 112) dX11_cost_109 rfl rfl (Nat.le_of_ble_eq_true rfl) rfl rfl ?_
      refine u_goto (tgt := 74) dX11_cost_112 (by decide) ?_
      exact u_less (ls' := [some (vR 140), some (vI x1), some (vI x2), none, none, some (vI x7), some (vI r3), some (vI (x7 + 1)), none]) ⟨rfl, ⟨rfl, ⟨rfl, ⟨rfl, ⟨rfl, ⟨rfl, trivial⟩⟩⟩⟩⟩⟩ h
    · have h := h.2 hb
      refine u_goto (tgt := 109) dX11_cost_98 (by decide) ?_
      refine s_iinc (i := 7) (ls' := [some (vR 140), some (vI x1), some (vI x2), none, none, some (vI x5), some (vI x6), some (vI (x7 + 1)), some (vI r3)]) (pc' := 112) dX11_cost_109 rfl rfl (Nat.le_of_ble_eq_true rfl) rfl rfl ?_
      refine u_goto (tgt := 74) dX11_cost_112 (by decide) ?_
      exact u_less (ls' := [some (vR 140), some (vI x1), some (vI x2), none, none, some (vI x5), some (vI x6), some (vI (x7 + 1)), none]) ⟨rfl, ⟨rfl, ⟨rfl, ⟨rfl, ⟨rfl, ⟨rfl, trivial⟩⟩⟩⟩⟩⟩ h
set_option maxRecDepth 20000 in
theorem bX11_costOf_0 {E : mm_Env} {d : Nat} {τ : mm_Mem} {Q : mm_Q0} {a0 : Int} {a1 : Int} {a2 : Int} (h : M0 E d qX11_person4 [vR 140, vI a0] τ (fun v τ1 => ∃ r2 : Int, v = some (vI r2) ∧ 0 ≤ r2 ∧ r2 < 8 ∧ M0 E d qX11_door4 [vR 140, vI (τ1 159 r2.toNat)] τ1 (fun v τ6 => ∃ r7 : Int, v = some (vI r7) ∧ 0 ≤ r7 ∧ r7 < 8 ∧ 0 ≤ r7 ∧ r7 < 8 ∧ 0 ≤ r7 ∧ r7 < 8 ∧ 0 ≤ r7 ∧ r7 < 8 ∧ 0 ≤ r7 ∧ r7 < 8 ∧ inR a2 ∧ 0 ≤ r7 ∧ r7 < 8 ∧ 0 ≤ (τ6 140 12) ∧ (τ6 140 12) < 2 ∧ M0 E d qX11_waysOf [vR 140, vI a0, vI a1, vB false] (wr (wr (wr τ6 154 r7.toNat 1) 155 r7.toNat a2) 156 r7.toNat 0) (fun v τ28 => ∃ r29 : Int, v = some (vL r29) ∧ 0 ≤ (τ28 140 12) ∧ (τ28 140 12) < 2 ∧ M0 E d qX11_strangerOf [vR 140, vI (τ1 159 r2.toNat), vI 1] τ28 (fun v τ34 => ∃ r35 : Int, v = some (vL r35) ∧ 0 ≤ r7 ∧ r7 < 8 ∧ 0 ≤ r7 ∧ r7 < 8 ∧ 0 ≤ r7 ∧ r7 < 8 ∧ inL (((τ6 163 (τ6 140 12).toNat) * (1000000000 - r29)) + ((τ28 164 (τ28 140 12).toNat) * r35)) ∧ inL (Int.tdiv (((τ6 163 (τ6 140 12).toNat) * (1000000000 - r29)) + ((τ28 164 (τ28 140 12).toNat) * r35)) 1000000000) ∧ Q (some (vI (Int.tdiv (((τ6 163 (τ6 140 12).toNat) * (1000000000 - r29)) + ((τ28 164 (τ28 140 12).toNat) * r35)) 1000000000))) (wr (wr (wr τ34 154 r7.toNat (τ6 154 r7.toNat)) 155 r7.toNat (τ6 155 r7.toNat)) 156 r7.toNat (τ6 156 r7.toNat))))))) : V0 E (d + 1) qX11_costOf 0 [some (vR 140), some (vI a0), some (vI a1), some (vI a2), none, none, none, none, none, none, none] [] τ Q := by
  refine u_aload_n (i := 0) (pc' := 1) dX11_costOf_0 rfl rfl rfl ?_
  refine u_getR (a := 159) (pc' := 4) dX11_costOf_1 rfl fl_TuneDoorModel_103 rfl (by decide) kd_140 rfl ?_
  refine u_aload_n (i := 0) (pc' := 5) dX11_costOf_4 rfl rfl rfl ?_
  refine u_iload_n (i := 1) (pc' := 6) dX11_costOf_5 rfl rfl rfl ?_
  refine u_invV (q' := qX11_person4) (As := [vI a0]) (st := [vR 159]) (pc' := 9) dX11_costOf_6 rfl gX11_person4 wm_1692 rfl rfl (by decide) kd_140 wm_1694 wp_111 rfl (Nat.le_of_ble_eq_true rfl) (M0.mono h (fun v τ1 h => ?_))
  obtain ⟨r2, rfl, h⟩ := h
  show V0 E (d + 1) qX11_costOf 9 [some (vR 140), some (vI a0), some (vI a1), some (vI a2), none, none, none, none, none, none, none] [vI r2, vR 159] τ1 Q
  obtain ⟨c3, c4, h⟩ := h
  refine u_iaload (k := r2.toNat) (z := (τ1 159 r2.toNat)) (pc' := 10) dX11_costOf_9 rfl (by decide) kd_159 c3 c4 (by decide) rfl rfl (fun r5 => ?_)
  refine s_istore (i := 4) (ls' := [some (vR 140), some (vI a0), some (vI a1), some (vI a2), some (vI (τ1 159 r2.toNat)), none, none, none, none, none, none]) (pc' := 12) dX11_costOf_10 rfl (Nat.le_of_ble_eq_true rfl) rfl rfl ?_
  refine u_aload_n (i := 0) (pc' := 13) dX11_costOf_12 rfl rfl rfl ?_
  refine u_iload (i := 4) (pc' := 15) dX11_costOf_13 rfl rfl ?_
  refine u_invV (q' := qX11_door4) (As := [vI (τ1 159 r2.toNat)]) (st := []) (pc' := 18) dX11_costOf_15 rfl gX11_door4 wm_1696 rfl rfl (by decide) kd_140 wm_1698 wp_112 rfl (Nat.le_of_ble_eq_true rfl) (M0.mono h (fun v τ6 h => ?_))
  obtain ⟨r7, rfl, h⟩ := h
  show V0 E (d + 1) qX11_costOf 18 [some (vR 140), some (vI a0), some (vI a1), some (vI a2), some (vI (τ1 159 r2.toNat)), none, none, none, none, none, none] [vI r7] τ6 Q
  refine s_istore (i := 5) (ls' := [some (vR 140), some (vI a0), some (vI a1), some (vI a2), some (vI (τ1 159 r2.toNat)), some (vI r7), none, none, none, none, none]) (pc' := 20) dX11_costOf_18 rfl (Nat.le_of_ble_eq_true rfl) rfl rfl ?_
  refine u_aload_n (i := 0) (pc' := 21) dX11_costOf_20 rfl rfl rfl ?_
  refine u_getR (a := 154) (pc' := 24) dX11_costOf_21 rfl fl_TuneDoorModel_88 rfl (by decide) kd_140 rfl ?_
  refine u_iload (i := 5) (pc' := 26) dX11_costOf_24 rfl rfl ?_
  obtain ⟨c8, c9, h⟩ := h
  refine u_iaload (k := r7.toNat) (z := (τ6 154 r7.toNat)) (pc' := 27) dX11_costOf_26 rfl (by decide) kd_154 c8 c9 (by decide) rfl rfl (fun r10 => ?_)
  refine s_istore (i := 6) (ls' := [some (vR 140), some (vI a0), some (vI a1), some (vI a2), some (vI (τ1 159 r2.toNat)), some (vI r7), some (vI (τ6 154 r7.toNat)), none, none, none, none]) (pc' := 29) dX11_costOf_27 rfl (Nat.le_of_ble_eq_true rfl) rfl rfl ?_
  refine u_aload_n (i := 0) (pc' := 30) dX11_costOf_29 rfl rfl rfl ?_
  refine u_getR (a := 155) (pc' := 33) dX11_costOf_30 rfl fl_TuneDoorModel_91 rfl (by decide) kd_140 rfl ?_
  refine u_iload (i := 5) (pc' := 35) dX11_costOf_33 rfl rfl ?_
  obtain ⟨c11, c12, h⟩ := h
  refine u_iaload (k := r7.toNat) (z := (τ6 155 r7.toNat)) (pc' := 36) dX11_costOf_35 rfl (by decide) kd_155 c11 c12 (by decide) rfl rfl (fun r13 => ?_)
  refine s_istore (i := 7) (ls' := [some (vR 140), some (vI a0), some (vI a1), some (vI a2), some (vI (τ1 159 r2.toNat)), some (vI r7), some (vI (τ6 154 r7.toNat)), some (vI (τ6 155 r7.toNat)), none, none, none]) (pc' := 38) dX11_costOf_36 rfl (Nat.le_of_ble_eq_true rfl) rfl rfl ?_
  refine u_aload_n (i := 0) (pc' := 39) dX11_costOf_38 rfl rfl rfl ?_
  refine u_getR (a := 156) (pc' := 42) dX11_costOf_39 rfl fl_TuneDoorModel_94 rfl (by decide) kd_140 rfl ?_
  refine u_iload (i := 5) (pc' := 44) dX11_costOf_42 rfl rfl ?_
  obtain ⟨c14, c15, h⟩ := h
  refine u_iaload (k := r7.toNat) (z := (τ6 156 r7.toNat)) (pc' := 45) dX11_costOf_44 rfl (by decide) kd_156 c14 c15 (by decide) rfl rfl (fun r16 => ?_)
  refine s_istore (i := 8) (ls' := [some (vR 140), some (vI a0), some (vI a1), some (vI a2), some (vI (τ1 159 r2.toNat)), some (vI r7), some (vI (τ6 154 r7.toNat)), some (vI (τ6 155 r7.toNat)), some (vI (τ6 156 r7.toNat)), none, none]) (pc' := 47) dX11_costOf_45 rfl (Nat.le_of_ble_eq_true rfl) rfl rfl ?_
  refine u_aload_n (i := 0) (pc' := 48) dX11_costOf_47 rfl rfl rfl ?_
  refine u_getR (a := 154) (pc' := 51) dX11_costOf_48 rfl fl_TuneDoorModel_88 rfl (by decide) kd_140 rfl ?_
  refine u_iload (i := 5) (pc' := 53) dX11_costOf_51 rfl rfl ?_
  refine u_iconst (pc' := 54) dX11_costOf_53 rfl ?_
  obtain ⟨c17, c18, h⟩ := h
  refine u_iastore (k := r7.toNat) (pc' := 55) dX11_costOf_54 rfl (by decide) kd_154 c17 c18 (by decide) rfl ⟨by decide, by decide⟩ ?_
  refine u_aload_n (i := 0) (pc' := 56) dX11_costOf_55 rfl rfl rfl ?_
  refine u_getR (a := 155) (pc' := 59) dX11_costOf_56 rfl fl_TuneDoorModel_91 rfl (by decide) kd_140 rfl ?_
  refine u_iload (i := 5) (pc' := 61) dX11_costOf_59 rfl rfl ?_
  refine u_iload_n (i := 3) (pc' := 62) dX11_costOf_61 rfl rfl rfl ?_
  obtain ⟨c19, c20, c21, h⟩ := h
  refine u_iastore (k := r7.toNat) (pc' := 63) dX11_costOf_62 rfl (by decide) kd_155 c19 c20 (by decide) rfl c21 ?_
  refine u_aload_n (i := 0) (pc' := 64) dX11_costOf_63 rfl rfl rfl ?_
  refine u_getR (a := 156) (pc' := 67) dX11_costOf_64 rfl fl_TuneDoorModel_94 rfl (by decide) kd_140 rfl ?_
  refine u_iload (i := 5) (pc' := 69) dX11_costOf_67 rfl rfl ?_
  refine u_iconst (pc' := 70) dX11_costOf_69 rfl ?_
  obtain ⟨c22, c23, h⟩ := h
  refine u_iastore (k := r7.toNat) (pc' := 71) dX11_costOf_70 rfl (by decide) kd_156 c22 c23 (by decide) rfl ⟨by decide, by decide⟩ ?_
  refine u_aload_n (i := 0) (pc' := 72) dX11_costOf_71 rfl rfl rfl ?_
  refine u_getR (a := 163) (pc' := 75) dX11_costOf_72 rfl fl_TuneDoorModel_115 rfl (by decide) kd_140 rfl ?_
  refine u_aload_n (i := 0) (pc' := 76) dX11_costOf_75 rfl rfl rfl ?_
  refine u_getI (z := (τ6 140 12)) (pc' := 79) dX11_costOf_76 rfl fl_TuneDoorModel_48 rfl (by decide) (by decide) kd_140 rfl (fun r24 => ?_)
  obtain ⟨c25, c26, h⟩ := h
  refine u_iaload (k := (τ6 140 12).toNat) (z := (τ6 163 (τ6 140 12).toNat)) (pc' := 80) dX11_costOf_79 rfl (by decide) kd_163 c25 c26 (by decide) rfl rfl (fun r27 => ?_)
  refine u_i2l (pc' := 81) dX11_costOf_80 rfl r27 ?_
  refine u_ldc2 (z := 1000000000) (pc' := 84) dX11_costOf_81 rfl wm_1831 (by decide) ?_
  refine u_aload_n (i := 0) (pc' := 85) dX11_costOf_84 rfl rfl rfl ?_
  refine u_iload_n (i := 1) (pc' := 86) dX11_costOf_85 rfl rfl rfl ?_
  refine u_iload_n (i := 2) (pc' := 87) dX11_costOf_86 rfl rfl rfl ?_
  refine u_iconst (pc' := 88) dX11_costOf_87 rfl ?_
  refine u_invV (q' := qX11_waysOf) (As := [vI a0, vI a1, vB false]) (st := [vL 1000000000, vL (τ6 163 (τ6 140 12).toNat)]) (pc' := 91) dX11_costOf_88 rfl gX11_waysOf wm_1827 rfl rfl (by decide) kd_140 wm_1829 wp_129 rfl (Nat.le_of_ble_eq_true rfl) (M0.mono h (fun v τ28 h => ?_))
  obtain ⟨r29, rfl, h⟩ := h
  show V0 E (d + 1) qX11_costOf 91 [some (vR 140), some (vI a0), some (vI a1), some (vI a2), some (vI (τ1 159 r2.toNat)), some (vI r7), some (vI (τ6 154 r7.toNat)), some (vI (τ6 155 r7.toNat)), some (vI (τ6 156 r7.toNat)), none, none] [vL r29, vL 1000000000, vL (τ6 163 (τ6 140 12).toNat)] τ28 Q
  refine u_lsub (pc' := 92) dX11_costOf_91 rfl ?_
  refine u_lmul (pc' := 93) dX11_costOf_92 rfl ?_
  refine u_aload_n (i := 0) (pc' := 94) dX11_costOf_93 rfl rfl rfl ?_
  refine u_getR (a := 164) (pc' := 97) dX11_costOf_94 rfl fl_TuneDoorModel_118 rfl (by decide) kd_140 rfl ?_
  refine u_aload_n (i := 0) (pc' := 98) dX11_costOf_97 rfl rfl rfl ?_
  refine u_getI (z := (τ28 140 12)) (pc' := 101) dX11_costOf_98 rfl fl_TuneDoorModel_48 rfl (by decide) (by decide) kd_140 rfl (fun r30 => ?_)
  obtain ⟨c31, c32, h⟩ := h
  refine u_iaload (k := (τ28 140 12).toNat) (z := (τ28 164 (τ28 140 12).toNat)) (pc' := 102) dX11_costOf_101 rfl (by decide) kd_164 c31 c32 (by decide) rfl rfl (fun r33 => ?_)
  refine u_i2l (pc' := 103) dX11_costOf_102 rfl r33 ?_
  refine u_aload_n (i := 0) (pc' := 104) dX11_costOf_103 rfl rfl rfl ?_
  refine u_iload (i := 4) (pc' := 106) dX11_costOf_104 rfl rfl ?_
  refine u_iconst (pc' := 107) dX11_costOf_106 rfl ?_
  refine u_invV (q' := qX11_strangerOf) (As := [vI (τ1 159 r2.toNat), vI 1]) (st := [vL (τ28 164 (τ28 140 12).toNat), vL ((τ6 163 (τ6 140 12).toNat) * (1000000000 - r29))]) (pc' := 110) dX11_costOf_107 rfl gX11_strangerOf wm_1854 rfl rfl (by decide) kd_140 wm_1856 wp_133 rfl (Nat.le_of_ble_eq_true rfl) (M0.mono h (fun v τ34 h => ?_))
  obtain ⟨r35, rfl, h⟩ := h
  show V0 E (d + 1) qX11_costOf 110 [some (vR 140), some (vI a0), some (vI a1), some (vI a2), some (vI (τ1 159 r2.toNat)), some (vI r7), some (vI (τ6 154 r7.toNat)), some (vI (τ6 155 r7.toNat)), some (vI (τ6 156 r7.toNat)), none, none] [vL r35, vL (τ28 164 (τ28 140 12).toNat), vL ((τ6 163 (τ6 140 12).toNat) * (1000000000 - r29))] τ34 Q
  refine u_lmul (pc' := 111) dX11_costOf_110 rfl ?_
  refine u_ladd (pc' := 112) dX11_costOf_111 rfl ?_
  refine s_lstore (i := 9) (ls' := [some (vR 140), some (vI a0), some (vI a1), some (vI a2), some (vI (τ1 159 r2.toNat)), some (vI r7), some (vI (τ6 154 r7.toNat)), some (vI (τ6 155 r7.toNat)), some (vI (τ6 156 r7.toNat)), some (vL (((τ6 163 (τ6 140 12).toNat) * (1000000000 - r29)) + ((τ28 164 (τ28 140 12).toNat) * r35))), none]) (pc' := 114) dX11_costOf_112 rfl (Nat.le_of_ble_eq_true rfl) rfl rfl ?_
  refine u_aload_n (i := 0) (pc' := 115) dX11_costOf_114 rfl rfl rfl ?_
  refine u_getR (a := 154) (pc' := 118) dX11_costOf_115 rfl fl_TuneDoorModel_88 rfl (by decide) kd_140 rfl ?_
  refine u_iload (i := 5) (pc' := 120) dX11_costOf_118 rfl rfl ?_
  refine u_iload (i := 6) (pc' := 122) dX11_costOf_120 rfl rfl ?_
  obtain ⟨c36, c37, h⟩ := h
  refine u_iastore (k := r7.toNat) (pc' := 123) dX11_costOf_122 rfl (by decide) kd_154 c36 c37 (by decide) rfl r10 ?_
  refine u_aload_n (i := 0) (pc' := 124) dX11_costOf_123 rfl rfl rfl ?_
  refine u_getR (a := 155) (pc' := 127) dX11_costOf_124 rfl fl_TuneDoorModel_91 rfl (by decide) kd_140 rfl ?_
  refine u_iload (i := 5) (pc' := 129) dX11_costOf_127 rfl rfl ?_
  refine u_iload (i := 7) (pc' := 131) dX11_costOf_129 rfl rfl ?_
  obtain ⟨c38, c39, h⟩ := h
  refine u_iastore (k := r7.toNat) (pc' := 132) dX11_costOf_131 rfl (by decide) kd_155 c38 c39 (by decide) rfl r13 ?_
  refine u_aload_n (i := 0) (pc' := 133) dX11_costOf_132 rfl rfl rfl ?_
  refine u_getR (a := 156) (pc' := 136) dX11_costOf_133 rfl fl_TuneDoorModel_94 rfl (by decide) kd_140 rfl ?_
  refine u_iload (i := 5) (pc' := 138) dX11_costOf_136 rfl rfl ?_
  refine u_iload (i := 8) (pc' := 140) dX11_costOf_138 rfl rfl ?_
  obtain ⟨c40, c41, h⟩ := h
  refine u_iastore (k := r7.toNat) (pc' := 141) dX11_costOf_140 rfl (by decide) kd_156 c40 c41 (by decide) rfl r16 ?_
  refine u_lload (i := 9) (pc' := 143) dX11_costOf_141 rfl rfl ?_
  refine u_ldc2 (z := 1000000000) (pc' := 146) dX11_costOf_143 rfl wm_1831 (by decide) ?_
  obtain ⟨c42, h⟩ := h
  refine u_ldiv (pc' := 147) dX11_costOf_146 rfl c42 ⟨by decide, by decide⟩ (by decide) ?_
  obtain ⟨c43, h⟩ := h
  refine u_l2i (pc' := 148) dX11_costOf_147 rfl c43 ?_
  exact u_iret dX11_costOf_148 rfl h
theorem mX11_costOf {E : mm_Env} {d : Nat} {τ : mm_Mem} {Q : mm_Q0} {a0 : Int} {a1 : Int} {a2 : Int} (h : M0 E d qX11_person4 [vR 140, vI a0] τ (fun v τ1 => ∃ r2 : Int, v = some (vI r2) ∧ 0 ≤ r2 ∧ r2 < 8 ∧ M0 E d qX11_door4 [vR 140, vI (τ1 159 r2.toNat)] τ1 (fun v τ6 => ∃ r7 : Int, v = some (vI r7) ∧ 0 ≤ r7 ∧ r7 < 8 ∧ 0 ≤ r7 ∧ r7 < 8 ∧ 0 ≤ r7 ∧ r7 < 8 ∧ 0 ≤ r7 ∧ r7 < 8 ∧ 0 ≤ r7 ∧ r7 < 8 ∧ inR a2 ∧ 0 ≤ r7 ∧ r7 < 8 ∧ 0 ≤ (τ6 140 12) ∧ (τ6 140 12) < 2 ∧ M0 E d qX11_waysOf [vR 140, vI a0, vI a1, vB false] (wr (wr (wr τ6 154 r7.toNat 1) 155 r7.toNat a2) 156 r7.toNat 0) (fun v τ28 => ∃ r29 : Int, v = some (vL r29) ∧ 0 ≤ (τ28 140 12) ∧ (τ28 140 12) < 2 ∧ M0 E d qX11_strangerOf [vR 140, vI (τ1 159 r2.toNat), vI 1] τ28 (fun v τ34 => ∃ r35 : Int, v = some (vL r35) ∧ 0 ≤ r7 ∧ r7 < 8 ∧ 0 ≤ r7 ∧ r7 < 8 ∧ 0 ≤ r7 ∧ r7 < 8 ∧ inL (((τ6 163 (τ6 140 12).toNat) * (1000000000 - r29)) + ((τ28 164 (τ28 140 12).toNat) * r35)) ∧ inL (Int.tdiv (((τ6 163 (τ6 140 12).toNat) * (1000000000 - r29)) + ((τ28 164 (τ28 140 12).toNat) * r35)) 1000000000) ∧ Q (some (vI (Int.tdiv (((τ6 163 (τ6 140 12).toNat) * (1000000000 - r29)) + ((τ28 164 (τ28 140 12).toNat) * r35)) 1000000000))) (wr (wr (wr τ34 154 r7.toNat (τ6 154 r7.toNat)) 155 r7.toNat (τ6 155 r7.toNat)) 156 r7.toNat (τ6 156 r7.toNat))))))) : M0 E (d + 1) qX11_costOf [vR 140, vI a0, vI a1, vI a2] τ Q := M0_of rfl (Nat.le_of_ble_eq_true rfl) [some (vR 140), some (vI a0), some (vI a1), some (vI a2), none, none, none, none, none, none, none] rfl (bX11_costOf_0  h)
set_option maxRecDepth 20000 in
theorem bX11_knows_0 {E : mm_Env} {d : Nat} {τ : mm_Mem} {Q : mm_Q0} {a0 : Int} {a1 : Int} {a2 : Int} (h : M0 E d qX11_canHear [vR 140, vI a0, vI a1, vI a2] τ (fun v τ1 => ∃ b2 : Bool, v = some (vB b2) ∧ ((b2 = true → V0 E (d + 1) qX11_knows 18 [some (vR 140), some (vI a0), some (vI a1), some (vI a2), some (vI 0), some (vI 0)] [] τ1 Q) ∧ (b2 = false → Q (some (vI (-1))) τ1)))) : V0 E (d + 1) qX11_knows 0 [some (vR 140), some (vI a0), some (vI a1), some (vI a2), none, none] [] τ Q := by
  refine u_aload_n (i := 0) (pc' := 1) dX11_knows_0 rfl rfl rfl ?_
  refine u_iload_n (i := 1) (pc' := 2) dX11_knows_1 rfl rfl rfl ?_
  refine u_iload_n (i := 2) (pc' := 3) dX11_knows_2 rfl rfl rfl ?_
  refine u_iload_n (i := 3) (pc' := 4) dX11_knows_3 rfl rfl rfl ?_
  refine u_invV (q' := qX11_canHear) (As := [vI a0, vI a1, vI a2]) (st := []) (pc' := 7) dX11_knows_4 rfl gX11_canHear wm_1878 rfl rfl (by decide) kd_140 wm_1880 wp_136 rfl (Nat.le_of_ble_eq_true rfl) (M0.mono h (fun v τ1 h => ?_))
  obtain ⟨b2, rfl, h⟩ := h
  show V0 E (d + 1) qX11_knows 7 [some (vR 140), some (vI a0), some (vI a1), some (vI a2), none, none] [vB b2] τ1 Q
  refine u_if_ne (tgt := 12) (pc' := 10) dX11_knows_7 rfl (by decide) (bI_R _) (fun hb => ?_) (fun hb => ?_)
  · have h := h.1 (bI_n0.mp hb)
    refine u_iconst (pc' := 13) dX11_knows_12 rfl ?_
    refine s_istore (i := 4) (ls' := [some (vR 140), some (vI a0), some (vI a1), some (vI a2), some (vI 0), none]) (pc' := 15) dX11_knows_13 rfl (Nat.le_of_ble_eq_true rfl) rfl rfl ?_
    refine u_iconst (pc' := 16) dX11_knows_15 rfl ?_
    refine s_istore (i := 5) (ls' := [some (vR 140), some (vI a0), some (vI a1), some (vI a2), some (vI 0), some (vI 0)]) (pc' := 18) dX11_knows_16 rfl (Nat.le_of_ble_eq_true rfl) rfl rfl ?_
    exact u_less (ls' := [some (vR 140), some (vI a0), some (vI a1), some (vI a2), some (vI 0), some (vI 0)]) ⟨rfl, ⟨rfl, ⟨rfl, ⟨rfl, ⟨rfl, ⟨rfl, trivial⟩⟩⟩⟩⟩⟩ h
  · have h := h.2 (bI_0.mp hb)
    refine u_iconst (pc' := 11) dX11_knows_10 rfl ?_
    exact u_iret dX11_knows_11 rfl h
theorem mX11_knows {E : mm_Env} {d : Nat} {τ : mm_Mem} {Q : mm_Q0} {a0 : Int} {a1 : Int} {a2 : Int} (h : M0 E d qX11_canHear [vR 140, vI a0, vI a1, vI a2] τ (fun v τ1 => ∃ b2 : Bool, v = some (vB b2) ∧ ((b2 = true → V0 E (d + 1) qX11_knows 18 [some (vR 140), some (vI a0), some (vI a1), some (vI a2), some (vI 0), some (vI 0)] [] τ1 Q) ∧ (b2 = false → Q (some (vI (-1))) τ1)))) : M0 E (d + 1) qX11_knows [vR 140, vI a0, vI a1, vI a2] τ Q := M0_of rfl (Nat.le_of_ble_eq_true rfl) [some (vR 140), some (vI a0), some (vI a1), some (vI a2), none, none] rfl (bX11_knows_0  h)
set_option maxRecDepth 20000 in
theorem bX11_knows_18 {E : mm_Env} {d : Nat} {τ : mm_Mem} {Q : mm_Q0} {x1 : Int} {x2 : Int} {x3 : Int} {x4 : Int} {x5 : Int} (h : M0 E d qX11_formsAll [vR 140] τ (fun v τ1 => ∃ r2 : Int, v = some (vI r2) ∧ inR x5 ∧ inR r2 ∧ ((r2 ≤ x5 → Q (some (vI x4)) τ1) ∧ (¬ r2 ≤ x5 → M0 E d qX11_fitsForm [vR 140, vI ((1000 * x1) + x2), vI x3, vI x5] τ1 (fun v τ5 => ∃ b6 : Bool, v = some (vB b6) ∧ ((b6 = false → V0 E (d + 1) qX11_knows 18 [some (vR 140), some (vI x1), some (vI x2), some (vI x3), some (vI (x4 + 0)), some (vI (x5 + 1))] [] τ5 Q) ∧ (b6 = true → V0 E (d + 1) qX11_knows 18 [some (vR 140), some (vI x1), some (vI x2), some (vI x3), some (vI (x4 + 1)), some (vI (x5 + 1))] [] τ5 Q))))))) : V0 E (d + 1) qX11_knows 18 [some (vR 140), some (vI x1), some (vI x2), some (vI x3), some (vI x4), some (vI x5)] [] τ Q := by
  refine u_iload (i := 5) (pc' := 20) dX11_knows_18 rfl rfl ?_
  refine u_aload_n (i := 0) (pc' := 21) dX11_knows_20 rfl rfl rfl ?_
  refine u_invV (q' := qX11_formsAll) (As := []) (st := [vI x5]) (pc' := 24) dX11_knows_21 rfl gX11_formsAll wm_1882 rfl rfl (by decide) kd_140 wm_1884 wp_137 rfl (Nat.le_of_ble_eq_true rfl) (M0.mono h (fun v τ1 h => ?_))
  obtain ⟨r2, rfl, h⟩ := h
  show V0 E (d + 1) qX11_knows 24 [some (vR 140), some (vI x1), some (vI x2), some (vI x3), some (vI x4), some (vI x5)] [vI r2, vI x5] τ1 Q
  obtain ⟨c3, c4, h⟩ := h
  refine u_icmp_ge (tgt := 60) (pc' := 27) dX11_knows_24 rfl (by decide) c3 c4 (fun hb => ?_) (fun hb => ?_)
  · have h := h.1 hb
    refine u_iload (i := 4) (pc' := 62) dX11_knows_60 rfl rfl ?_
    exact u_iret dX11_knows_62 rfl h
  · have h := h.2 hb
    refine u_iload (i := 4) (pc' := 29) dX11_knows_27 rfl rfl ?_
    refine u_aload_n (i := 0) (pc' := 30) dX11_knows_29 rfl rfl rfl ?_
    refine u_sipush (pc' := 33) dX11_knows_30 rfl (by decide) ?_
    refine u_iload_n (i := 1) (pc' := 34) dX11_knows_33 rfl rfl rfl ?_
    refine u_imul (pc' := 35) dX11_knows_34 rfl ?_
    refine u_iload_n (i := 2) (pc' := 36) dX11_knows_35 rfl rfl rfl ?_
    refine u_iadd (pc' := 37) dX11_knows_36 rfl ?_
    refine u_iload_n (i := 3) (pc' := 38) dX11_knows_37 rfl rfl rfl ?_
    refine u_iload (i := 5) (pc' := 40) dX11_knows_38 rfl rfl ?_
    refine u_invV (q' := qX11_fitsForm) (As := [vI ((1000 * x1) + x2), vI x3, vI x5]) (st := [vI x4]) (pc' := 43) dX11_knows_40 rfl gX11_fitsForm wm_1886 rfl rfl (by decide) kd_140 wm_1888 wp_138 rfl (Nat.le_of_ble_eq_true rfl) (M0.mono h (fun v τ5 h => ?_))
    obtain ⟨b6, rfl, h⟩ := h
    show V0 E (d + 1) qX11_knows 43 [some (vR 140), some (vI x1), some (vI x2), some (vI x3), some (vI x4), some (vI x5)] [vB b6, vI x4] τ5 Q
    refine u_if_eq (tgt := 50) (pc' := 46) dX11_knows_43 rfl (by decide) (bI_R _) (fun hb => ?_) (fun hb => ?_)
    · have h := h.1 (bI_0.mp hb)
      refine u_iconst (pc' := 51) dX11_knows_50 rfl ?_
      refine u_iadd (pc' := 52) dX11_knows_51 rfl ?_
      refine s_istore (i := 4) (ls' := [some (vR 140), some (vI x1), some (vI x2), some (vI x3), some (vI (x4 + 0)), some (vI x5)]) (pc' := 54) dX11_knows_52 rfl (Nat.le_of_ble_eq_true rfl) rfl rfl ?_
      refine s_iinc (i := 5) (ls' := [some (vR 140), some (vI x1), some (vI x2), some (vI x3), some (vI (x4 + 0)), some (vI (x5 + 1))]) (pc' := 57) dX11_knows_54 rfl rfl (Nat.le_of_ble_eq_true rfl) rfl rfl ?_
      refine u_goto (tgt := 18) dX11_knows_57 (by decide) ?_
      exact u_less (ls' := [some (vR 140), some (vI x1), some (vI x2), some (vI x3), some (vI (x4 + 0)), some (vI (x5 + 1))]) ⟨rfl, ⟨rfl, ⟨rfl, ⟨rfl, ⟨rfl, ⟨rfl, trivial⟩⟩⟩⟩⟩⟩ h
    · have h := h.2 (bI_n0.mp hb)
      refine u_iconst (pc' := 47) dX11_knows_46 rfl ?_
      refine u_goto (tgt := 51) dX11_knows_47 (by decide) ?_
      refine u_iadd (pc' := 52) dX11_knows_51 rfl ?_
      refine s_istore (i := 4) (ls' := [some (vR 140), some (vI x1), some (vI x2), some (vI x3), some (vI (x4 + 1)), some (vI x5)]) (pc' := 54) dX11_knows_52 rfl (Nat.le_of_ble_eq_true rfl) rfl rfl ?_
      refine s_iinc (i := 5) (ls' := [some (vR 140), some (vI x1), some (vI x2), some (vI x3), some (vI (x4 + 1)), some (vI (x5 + 1))]) (pc' := 57) dX11_knows_54 rfl rfl (Nat.le_of_ble_eq_true rfl) rfl rfl ?_
      refine u_goto (tgt := 18) dX11_knows_57 (by decide) ?_
      exact u_less (ls' := [some (vR 140), some (vI x1), some (vI x2), some (vI x3), some (vI (x4 + 1)), some (vI (x5 + 1))]) ⟨rfl, ⟨rfl, ⟨rfl, ⟨rfl, ⟨rfl, ⟨rfl, trivial⟩⟩⟩⟩⟩⟩ h
set_option maxRecDepth 20000 in
theorem bX11_canHear_0 {E : mm_Env} {d : Nat} {τ : mm_Mem} {Q : mm_Q0} {a0 : Int} {a1 : Int} {a2 : Int} (h : M0 E d qX11_isTune [vR 140, vI a0] τ (fun v τ1 => ∃ b2 : Bool, v = some (vB b2) ∧ ((b2 = false → Q (some (vB false)) τ1) ∧ (b2 = true → M0 E d qX11_isWhistle [vI a1] τ1 (fun v τ3 => ∃ b4 : Bool, v = some (vB b4) ∧ ((b4 = false → Q (some (vB false)) τ3) ∧ (b4 = true → M0 E d qX11_is [vI a2, vI 1, vI 30] τ3 (fun v τ5 => ∃ b6 : Bool, v = some (vB b6) ∧ ((b6 = false → Q (some (vB false)) τ5) ∧ (b6 = true → inR ((a1 + a2) - 1) ∧ ((1000 ≤ ((a1 + a2) - 1) → Q (some (vB false)) τ5) ∧ (¬ 1000 ≤ ((a1 + a2) - 1) → Q (some (vB true)) τ5)))))))))))) : V0 E (d + 1) qX11_canHear 0 [some (vR 140), some (vI a0), some (vI a1), some (vI a2)] [] τ Q := by
  refine u_aload_n (i := 0) (pc' := 1) dX11_canHear_0 rfl rfl rfl ?_
  refine u_iload_n (i := 1) (pc' := 2) dX11_canHear_1 rfl rfl rfl ?_
  refine u_invV (q' := qX11_isTune) (As := [vI a0]) (st := []) (pc' := 5) dX11_canHear_2 rfl gX11_isTune wm_1712 rfl rfl (by decide) kd_140 wm_1714 wp_114 rfl (Nat.le_of_ble_eq_true rfl) (M0.mono h (fun v τ1 h => ?_))
  obtain ⟨b2, rfl, h⟩ := h
  show V0 E (d + 1) qX11_canHear 5 [some (vR 140), some (vI a0), some (vI a1), some (vI a2)] [vB b2] τ1 Q
  refine u_if_eq (tgt := 40) (pc' := 8) dX11_canHear_5 rfl (by decide) (bI_R _) (fun hb => ?_) (fun hb => ?_)
  · have h := h.1 (bI_0.mp hb)
    refine u_iconst (pc' := 41) dX11_canHear_40 rfl ?_
    exact u_zret (b := false) dX11_canHear_41 rfl rfl h
  · have h := h.2 (bI_n0.mp hb)
    refine u_iload_n (i := 2) (pc' := 9) dX11_canHear_8 rfl rfl rfl ?_
    refine u_invS (q' := qX11_isWhistle) (As := [vI a1]) (st := []) (pc' := 12) dX11_canHear_9 rfl gX11_isWhistle wm_1716 wm_1717 rfl (Nat.le_of_ble_eq_true rfl) (M0.mono h (fun v τ3 h => ?_))
    obtain ⟨b4, rfl, h⟩ := h
    show V0 E (d + 1) qX11_canHear 12 [some (vR 140), some (vI a0), some (vI a1), some (vI a2)] [vB b4] τ3 Q
    refine u_if_eq (tgt := 40) (pc' := 15) dX11_canHear_12 rfl (by decide) (bI_R _) (fun hb => ?_) (fun hb => ?_)
    · have h := h.1 (bI_0.mp hb)
      refine u_iconst (pc' := 41) dX11_canHear_40 rfl ?_
      exact u_zret (b := false) dX11_canHear_41 rfl rfl h
    · have h := h.2 (bI_n0.mp hb)
      refine u_iload_n (i := 3) (pc' := 16) dX11_canHear_15 rfl rfl rfl ?_
      refine u_iconst (pc' := 17) dX11_canHear_16 rfl ?_
      refine u_bipush (pc' := 19) dX11_canHear_17 rfl (by decide) ?_
      refine u_invS (q' := qX11_is) (As := [vI a2, vI 1, vI 30]) (st := []) (pc' := 22) dX11_canHear_19 rfl gX11_is wm_1495 wm_1496 rfl (Nat.le_of_ble_eq_true rfl) (M0.mono h (fun v τ5 h => ?_))
      obtain ⟨b6, rfl, h⟩ := h
      show V0 E (d + 1) qX11_canHear 22 [some (vR 140), some (vI a0), some (vI a1), some (vI a2)] [vB b6] τ5 Q
      refine u_if_eq (tgt := 40) (pc' := 25) dX11_canHear_22 rfl (by decide) (bI_R _) (fun hb => ?_) (fun hb => ?_)
      · have h := h.1 (bI_0.mp hb)
        refine u_iconst (pc' := 41) dX11_canHear_40 rfl ?_
        exact u_zret (b := false) dX11_canHear_41 rfl rfl h
      · have h := h.2 (bI_n0.mp hb)
        refine u_iload_n (i := 2) (pc' := 26) dX11_canHear_25 rfl rfl rfl ?_
        refine u_iload_n (i := 3) (pc' := 27) dX11_canHear_26 rfl rfl rfl ?_
        refine u_iadd (pc' := 28) dX11_canHear_27 rfl ?_
        refine u_iconst (pc' := 29) dX11_canHear_28 rfl ?_
        refine u_isub (pc' := 30) dX11_canHear_29 rfl ?_
        refine u_sipush (pc' := 33) dX11_canHear_30 rfl (by decide) ?_
        obtain ⟨c7, h⟩ := h
        refine u_icmp_ge (tgt := 40) (pc' := 36) dX11_canHear_33 rfl (by decide) c7 ⟨by decide, by decide⟩ (fun hb => ?_) (fun hb => ?_)
        · have h := h.1 hb
          refine u_iconst (pc' := 41) dX11_canHear_40 rfl ?_
          exact u_zret (b := false) dX11_canHear_41 rfl rfl h
        · have h := h.2 hb
          refine u_iconst (pc' := 37) dX11_canHear_36 rfl ?_
          refine u_goto (tgt := 41) dX11_canHear_37 (by decide) ?_
          exact u_zret (b := true) dX11_canHear_41 rfl rfl h
theorem mX11_canHear {E : mm_Env} {d : Nat} {τ : mm_Mem} {Q : mm_Q0} {a0 : Int} {a1 : Int} {a2 : Int} (h : M0 E d qX11_isTune [vR 140, vI a0] τ (fun v τ1 => ∃ b2 : Bool, v = some (vB b2) ∧ ((b2 = false → Q (some (vB false)) τ1) ∧ (b2 = true → M0 E d qX11_isWhistle [vI a1] τ1 (fun v τ3 => ∃ b4 : Bool, v = some (vB b4) ∧ ((b4 = false → Q (some (vB false)) τ3) ∧ (b4 = true → M0 E d qX11_is [vI a2, vI 1, vI 30] τ3 (fun v τ5 => ∃ b6 : Bool, v = some (vB b6) ∧ ((b6 = false → Q (some (vB false)) τ5) ∧ (b6 = true → inR ((a1 + a2) - 1) ∧ ((1000 ≤ ((a1 + a2) - 1) → Q (some (vB false)) τ5) ∧ (¬ 1000 ≤ ((a1 + a2) - 1) → Q (some (vB true)) τ5)))))))))))) : M0 E (d + 1) qX11_canHear [vR 140, vI a0, vI a1, vI a2] τ Q := M0_of rfl (Nat.le_of_ble_eq_true rfl) [some (vR 140), some (vI a0), some (vI a1), some (vI a2)] rfl (bX11_canHear_0  h)
set_option maxRecDepth 20000 in
theorem bX11_formsAll_0 {E : mm_Env} {d : Nat} {τ : mm_Mem} {Q : mm_Q0}  (h : 0 ≤ (τ 140 12) ∧ (τ 140 12) < 2 ∧ 0 ≤ (τ 140 12) ∧ (τ 140 12) < 2 ∧ 0 ≤ (τ 140 12) ∧ (τ 140 12) < 2 ∧ Q (some (vI (((τ 143 (τ 140 12).toNat) * (τ 143 (τ 140 12).toNat)) * ((τ 142 (τ 140 12).toNat) - 1)))) τ) : V0 E d qX11_formsAll 0 [some (vR 140)] [] τ Q := by
  refine u_aload_n (i := 0) (pc' := 1) dX11_formsAll_0 rfl rfl rfl ?_
  refine u_getR (a := 143) (pc' := 4) dX11_formsAll_1 rfl fl_TuneDoorModel_54 rfl (by decide) kd_140 rfl ?_
  refine u_aload_n (i := 0) (pc' := 5) dX11_formsAll_4 rfl rfl rfl ?_
  refine u_getI (z := (τ 140 12)) (pc' := 8) dX11_formsAll_5 rfl fl_TuneDoorModel_48 rfl (by decide) (by decide) kd_140 rfl (fun r1 => ?_)
  obtain ⟨c2, c3, h⟩ := h
  refine u_iaload (k := (τ 140 12).toNat) (z := (τ 143 (τ 140 12).toNat)) (pc' := 9) dX11_formsAll_8 rfl (by decide) kd_143 c2 c3 (by decide) rfl rfl (fun r4 => ?_)
  refine u_aload_n (i := 0) (pc' := 10) dX11_formsAll_9 rfl rfl rfl ?_
  refine u_getR (a := 143) (pc' := 13) dX11_formsAll_10 rfl fl_TuneDoorModel_54 rfl (by decide) kd_140 rfl ?_
  refine u_aload_n (i := 0) (pc' := 14) dX11_formsAll_13 rfl rfl rfl ?_
  refine u_getI (z := (τ 140 12)) (pc' := 17) dX11_formsAll_14 rfl fl_TuneDoorModel_48 rfl (by decide) (by decide) kd_140 rfl (fun r5 => ?_)
  obtain ⟨c6, c7, h⟩ := h
  refine u_iaload (k := (τ 140 12).toNat) (z := (τ 143 (τ 140 12).toNat)) (pc' := 18) dX11_formsAll_17 rfl (by decide) kd_143 c6 c7 (by decide) rfl rfl (fun r8 => ?_)
  refine u_imul (pc' := 19) dX11_formsAll_18 rfl ?_
  refine u_aload_n (i := 0) (pc' := 20) dX11_formsAll_19 rfl rfl rfl ?_
  refine u_getR (a := 142) (pc' := 23) dX11_formsAll_20 rfl fl_TuneDoorModel_51 rfl (by decide) kd_140 rfl ?_
  refine u_aload_n (i := 0) (pc' := 24) dX11_formsAll_23 rfl rfl rfl ?_
  refine u_getI (z := (τ 140 12)) (pc' := 27) dX11_formsAll_24 rfl fl_TuneDoorModel_48 rfl (by decide) (by decide) kd_140 rfl (fun r9 => ?_)
  obtain ⟨c10, c11, h⟩ := h
  refine u_iaload (k := (τ 140 12).toNat) (z := (τ 142 (τ 140 12).toNat)) (pc' := 28) dX11_formsAll_27 rfl (by decide) kd_142 c10 c11 (by decide) rfl rfl (fun r12 => ?_)
  refine u_iconst (pc' := 29) dX11_formsAll_28 rfl ?_
  refine u_isub (pc' := 30) dX11_formsAll_29 rfl ?_
  refine u_imul (pc' := 31) dX11_formsAll_30 rfl ?_
  exact u_iret dX11_formsAll_31 rfl h
theorem mX11_formsAll {E : mm_Env} {d : Nat} {τ : mm_Mem} {Q : mm_Q0}  (h : 0 ≤ (τ 140 12) ∧ (τ 140 12) < 2 ∧ 0 ≤ (τ 140 12) ∧ (τ 140 12) < 2 ∧ 0 ≤ (τ 140 12) ∧ (τ 140 12) < 2 ∧ Q (some (vI (((τ 143 (τ 140 12).toNat) * (τ 143 (τ 140 12).toNat)) * ((τ 142 (τ 140 12).toNat) - 1)))) τ) : M0 E d qX11_formsAll [vR 140] τ Q := M0_of rfl (Nat.le_of_ble_eq_true rfl) [some (vR 140)] rfl (bX11_formsAll_0  h)
set_option maxRecDepth 20000 in
theorem bX11_fitsForm_0 {E : mm_Env} {d : Nat} {τ : mm_Mem} {Q : mm_Q0} {a0 : Int} {a1 : Int} {a2 : Int} (h : M0 E d qX11_formA [vR 140, vI a2] τ (fun v τ1 => ∃ r2 : Int, v = some (vI r2) ∧ M0 E d qX11_formB [vR 140, vI a2] τ1 (fun v τ3 => ∃ r4 : Int, v = some (vI r4) ∧ M0 E d qX11_formC [vR 140, vI a2] τ3 (fun v τ5 => ∃ r6 : Int, v = some (vI r6) ∧ M0 E d qX11_fits [vR 140, vI a0, vI a1, vI r2, vI r4, vI r6] τ5 (fun v τ7 => ∃ b8 : Bool, v = some (vB b8) ∧ Q (some (vB b8)) τ7))))) : V0 E (d + 1) qX11_fitsForm 0 [some (vR 140), some (vI a0), some (vI a1), some (vI a2)] [] τ Q := by
  refine u_aload_n (i := 0) (pc' := 1) dX11_fitsForm_0 rfl rfl rfl ?_
  refine u_iload_n (i := 1) (pc' := 2) dX11_fitsForm_1 rfl rfl rfl ?_
  refine u_iload_n (i := 2) (pc' := 3) dX11_fitsForm_2 rfl rfl rfl ?_
  refine u_aload_n (i := 0) (pc' := 4) dX11_fitsForm_3 rfl rfl rfl ?_
  refine u_iload_n (i := 3) (pc' := 5) dX11_fitsForm_4 rfl rfl rfl ?_
  refine u_invV (q' := qX11_formA) (As := [vI a2]) (st := [vI a1, vI a0, vR 140]) (pc' := 8) dX11_fitsForm_5 rfl gX11_formA wm_1890 rfl rfl (by decide) kd_140 wm_1892 wp_139 rfl (Nat.le_of_ble_eq_true rfl) (M0.mono h (fun v τ1 h => ?_))
  obtain ⟨r2, rfl, h⟩ := h
  show V0 E (d + 1) qX11_fitsForm 8 [some (vR 140), some (vI a0), some (vI a1), some (vI a2)] [vI r2, vI a1, vI a0, vR 140] τ1 Q
  refine u_aload_n (i := 0) (pc' := 9) dX11_fitsForm_8 rfl rfl rfl ?_
  refine u_iload_n (i := 3) (pc' := 10) dX11_fitsForm_9 rfl rfl rfl ?_
  refine u_invV (q' := qX11_formB) (As := [vI a2]) (st := [vI r2, vI a1, vI a0, vR 140]) (pc' := 13) dX11_fitsForm_10 rfl gX11_formB wm_1894 rfl rfl (by decide) kd_140 wm_1896 wp_140 rfl (Nat.le_of_ble_eq_true rfl) (M0.mono h (fun v τ3 h => ?_))
  obtain ⟨r4, rfl, h⟩ := h
  show V0 E (d + 1) qX11_fitsForm 13 [some (vR 140), some (vI a0), some (vI a1), some (vI a2)] [vI r4, vI r2, vI a1, vI a0, vR 140] τ3 Q
  refine u_aload_n (i := 0) (pc' := 14) dX11_fitsForm_13 rfl rfl rfl ?_
  refine u_iload_n (i := 3) (pc' := 15) dX11_fitsForm_14 rfl rfl rfl ?_
  refine u_invV (q' := qX11_formC) (As := [vI a2]) (st := [vI r4, vI r2, vI a1, vI a0, vR 140]) (pc' := 18) dX11_fitsForm_15 rfl gX11_formC wm_1898 rfl rfl (by decide) kd_140 wm_1900 wp_141 rfl (Nat.le_of_ble_eq_true rfl) (M0.mono h (fun v τ5 h => ?_))
  obtain ⟨r6, rfl, h⟩ := h
  show V0 E (d + 1) qX11_fitsForm 18 [some (vR 140), some (vI a0), some (vI a1), some (vI a2)] [vI r6, vI r4, vI r2, vI a1, vI a0, vR 140] τ5 Q
  refine u_invV (q' := qX11_fits) (As := [vI a0, vI a1, vI r2, vI r4, vI r6]) (st := []) (pc' := 21) dX11_fitsForm_18 rfl gX11_fits wm_1902 rfl rfl (by decide) kd_140 wm_1904 wp_142 rfl (Nat.le_of_ble_eq_true rfl) (M0.mono h (fun v τ7 h => ?_))
  obtain ⟨b8, rfl, h⟩ := h
  show V0 E (d + 1) qX11_fitsForm 21 [some (vR 140), some (vI a0), some (vI a1), some (vI a2)] [vB b8] τ7 Q
  exact u_zret (b := b8) dX11_fitsForm_21 rfl rfl h
theorem mX11_fitsForm {E : mm_Env} {d : Nat} {τ : mm_Mem} {Q : mm_Q0} {a0 : Int} {a1 : Int} {a2 : Int} (h : M0 E d qX11_formA [vR 140, vI a2] τ (fun v τ1 => ∃ r2 : Int, v = some (vI r2) ∧ M0 E d qX11_formB [vR 140, vI a2] τ1 (fun v τ3 => ∃ r4 : Int, v = some (vI r4) ∧ M0 E d qX11_formC [vR 140, vI a2] τ3 (fun v τ5 => ∃ r6 : Int, v = some (vI r6) ∧ M0 E d qX11_fits [vR 140, vI a0, vI a1, vI r2, vI r4, vI r6] τ5 (fun v τ7 => ∃ b8 : Bool, v = some (vB b8) ∧ Q (some (vB b8)) τ7))))) : M0 E (d + 1) qX11_fitsForm [vR 140, vI a0, vI a1, vI a2] τ Q := M0_of rfl (Nat.le_of_ble_eq_true rfl) [some (vR 140), some (vI a0), some (vI a1), some (vI a2)] rfl (bX11_fitsForm_0  h)
set_option maxRecDepth 20000 in
theorem bX11_formA_0 {E : mm_Env} {d : Nat} {τ : mm_Mem} {Q : mm_Q0} {a0 : Int} (h : 0 ≤ (τ 140 12) ∧ (τ 140 12) < 2 ∧ 0 ≤ (τ 140 12) ∧ (τ 140 12) < 2 ∧ inR a0 ∧ inR ((τ 143 (τ 140 12).toNat) * ((τ 142 (τ 140 12).toNat) - 1)) ∧ ((τ 143 (τ 140 12).toNat) * ((τ 142 (τ 140 12).toNat) - 1)) ≠ 0 ∧ Q (some (vI (Int.tdiv a0 ((τ 143 (τ 140 12).toNat) * ((τ 142 (τ 140 12).toNat) - 1))))) τ) : V0 E d qX11_formA 0 [some (vR 140), some (vI a0)] [] τ Q := by
  refine u_iload_n (i := 1) (pc' := 1) dX11_formA_0 rfl rfl rfl ?_
  refine u_aload_n (i := 0) (pc' := 2) dX11_formA_1 rfl rfl rfl ?_
  refine u_getR (a := 143) (pc' := 5) dX11_formA_2 rfl fl_TuneDoorModel_54 rfl (by decide) kd_140 rfl ?_
  refine u_aload_n (i := 0) (pc' := 6) dX11_formA_5 rfl rfl rfl ?_
  refine u_getI (z := (τ 140 12)) (pc' := 9) dX11_formA_6 rfl fl_TuneDoorModel_48 rfl (by decide) (by decide) kd_140 rfl (fun r1 => ?_)
  obtain ⟨c2, c3, h⟩ := h
  refine u_iaload (k := (τ 140 12).toNat) (z := (τ 143 (τ 140 12).toNat)) (pc' := 10) dX11_formA_9 rfl (by decide) kd_143 c2 c3 (by decide) rfl rfl (fun r4 => ?_)
  refine u_aload_n (i := 0) (pc' := 11) dX11_formA_10 rfl rfl rfl ?_
  refine u_getR (a := 142) (pc' := 14) dX11_formA_11 rfl fl_TuneDoorModel_51 rfl (by decide) kd_140 rfl ?_
  refine u_aload_n (i := 0) (pc' := 15) dX11_formA_14 rfl rfl rfl ?_
  refine u_getI (z := (τ 140 12)) (pc' := 18) dX11_formA_15 rfl fl_TuneDoorModel_48 rfl (by decide) (by decide) kd_140 rfl (fun r5 => ?_)
  obtain ⟨c6, c7, h⟩ := h
  refine u_iaload (k := (τ 140 12).toNat) (z := (τ 142 (τ 140 12).toNat)) (pc' := 19) dX11_formA_18 rfl (by decide) kd_142 c6 c7 (by decide) rfl rfl (fun r8 => ?_)
  refine u_iconst (pc' := 20) dX11_formA_19 rfl ?_
  refine u_isub (pc' := 21) dX11_formA_20 rfl ?_
  refine u_imul (pc' := 22) dX11_formA_21 rfl ?_
  obtain ⟨c9, c10, c11, h⟩ := h
  refine u_idiv (pc' := 23) dX11_formA_22 rfl c9 c10 c11 ?_
  exact u_iret dX11_formA_23 rfl h
theorem mX11_formA {E : mm_Env} {d : Nat} {τ : mm_Mem} {Q : mm_Q0} {a0 : Int} (h : 0 ≤ (τ 140 12) ∧ (τ 140 12) < 2 ∧ 0 ≤ (τ 140 12) ∧ (τ 140 12) < 2 ∧ inR a0 ∧ inR ((τ 143 (τ 140 12).toNat) * ((τ 142 (τ 140 12).toNat) - 1)) ∧ ((τ 143 (τ 140 12).toNat) * ((τ 142 (τ 140 12).toNat) - 1)) ≠ 0 ∧ Q (some (vI (Int.tdiv a0 ((τ 143 (τ 140 12).toNat) * ((τ 142 (τ 140 12).toNat) - 1))))) τ) : M0 E d qX11_formA [vR 140, vI a0] τ Q := M0_of rfl (Nat.le_of_ble_eq_true rfl) [some (vR 140), some (vI a0)] rfl (bX11_formA_0  h)
set_option maxRecDepth 20000 in
theorem bX11_formB_0 {E : mm_Env} {d : Nat} {τ : mm_Mem} {Q : mm_Q0} {a0 : Int} (h : 0 ≤ (τ 140 12) ∧ (τ 140 12) < 2 ∧ inR a0 ∧ inR ((τ 142 (τ 140 12).toNat) - 1) ∧ ((τ 142 (τ 140 12).toNat) - 1) ≠ 0 ∧ 0 ≤ (τ 140 12) ∧ (τ 140 12) < 2 ∧ inR (Int.tdiv a0 ((τ 142 (τ 140 12).toNat) - 1)) ∧ (τ 143 (τ 140 12).toNat) ≠ 0 ∧ Q (some (vI (Int.tmod (Int.tdiv a0 ((τ 142 (τ 140 12).toNat) - 1)) (τ 143 (τ 140 12).toNat)))) τ) : V0 E d qX11_formB 0 [some (vR 140), some (vI a0)] [] τ Q := by
  refine u_iload_n (i := 1) (pc' := 1) dX11_formB_0 rfl rfl rfl ?_
  refine u_aload_n (i := 0) (pc' := 2) dX11_formB_1 rfl rfl rfl ?_
  refine u_getR (a := 142) (pc' := 5) dX11_formB_2 rfl fl_TuneDoorModel_51 rfl (by decide) kd_140 rfl ?_
  refine u_aload_n (i := 0) (pc' := 6) dX11_formB_5 rfl rfl rfl ?_
  refine u_getI (z := (τ 140 12)) (pc' := 9) dX11_formB_6 rfl fl_TuneDoorModel_48 rfl (by decide) (by decide) kd_140 rfl (fun r1 => ?_)
  obtain ⟨c2, c3, h⟩ := h
  refine u_iaload (k := (τ 140 12).toNat) (z := (τ 142 (τ 140 12).toNat)) (pc' := 10) dX11_formB_9 rfl (by decide) kd_142 c2 c3 (by decide) rfl rfl (fun r4 => ?_)
  refine u_iconst (pc' := 11) dX11_formB_10 rfl ?_
  refine u_isub (pc' := 12) dX11_formB_11 rfl ?_
  obtain ⟨c5, c6, c7, h⟩ := h
  refine u_idiv (pc' := 13) dX11_formB_12 rfl c5 c6 c7 ?_
  refine u_aload_n (i := 0) (pc' := 14) dX11_formB_13 rfl rfl rfl ?_
  refine u_getR (a := 143) (pc' := 17) dX11_formB_14 rfl fl_TuneDoorModel_54 rfl (by decide) kd_140 rfl ?_
  refine u_aload_n (i := 0) (pc' := 18) dX11_formB_17 rfl rfl rfl ?_
  refine u_getI (z := (τ 140 12)) (pc' := 21) dX11_formB_18 rfl fl_TuneDoorModel_48 rfl (by decide) (by decide) kd_140 rfl (fun r8 => ?_)
  obtain ⟨c9, c10, h⟩ := h
  refine u_iaload (k := (τ 140 12).toNat) (z := (τ 143 (τ 140 12).toNat)) (pc' := 22) dX11_formB_21 rfl (by decide) kd_143 c9 c10 (by decide) rfl rfl (fun r11 => ?_)
  obtain ⟨c12, c13, h⟩ := h
  refine u_irem (pc' := 23) dX11_formB_22 rfl c12 r11 c13 ?_
  exact u_iret dX11_formB_23 rfl h
theorem mX11_formB {E : mm_Env} {d : Nat} {τ : mm_Mem} {Q : mm_Q0} {a0 : Int} (h : 0 ≤ (τ 140 12) ∧ (τ 140 12) < 2 ∧ inR a0 ∧ inR ((τ 142 (τ 140 12).toNat) - 1) ∧ ((τ 142 (τ 140 12).toNat) - 1) ≠ 0 ∧ 0 ≤ (τ 140 12) ∧ (τ 140 12) < 2 ∧ inR (Int.tdiv a0 ((τ 142 (τ 140 12).toNat) - 1)) ∧ (τ 143 (τ 140 12).toNat) ≠ 0 ∧ Q (some (vI (Int.tmod (Int.tdiv a0 ((τ 142 (τ 140 12).toNat) - 1)) (τ 143 (τ 140 12).toNat)))) τ) : M0 E d qX11_formB [vR 140, vI a0] τ Q := M0_of rfl (Nat.le_of_ble_eq_true rfl) [some (vR 140), some (vI a0)] rfl (bX11_formB_0  h)
set_option maxRecDepth 20000 in
theorem bX11_formC_0 {E : mm_Env} {d : Nat} {τ : mm_Mem} {Q : mm_Q0} {a0 : Int} (h : 0 ≤ (τ 140 12) ∧ (τ 140 12) < 2 ∧ inR a0 ∧ inR ((τ 142 (τ 140 12).toNat) - 1) ∧ ((τ 142 (τ 140 12).toNat) - 1) ≠ 0 ∧ Q (some (vI ((Int.tmod a0 ((τ 142 (τ 140 12).toNat) - 1)) + 1))) τ) : V0 E d qX11_formC 0 [some (vR 140), some (vI a0)] [] τ Q := by
  refine u_iload_n (i := 1) (pc' := 1) dX11_formC_0 rfl rfl rfl ?_
  refine u_aload_n (i := 0) (pc' := 2) dX11_formC_1 rfl rfl rfl ?_
  refine u_getR (a := 142) (pc' := 5) dX11_formC_2 rfl fl_TuneDoorModel_51 rfl (by decide) kd_140 rfl ?_
  refine u_aload_n (i := 0) (pc' := 6) dX11_formC_5 rfl rfl rfl ?_
  refine u_getI (z := (τ 140 12)) (pc' := 9) dX11_formC_6 rfl fl_TuneDoorModel_48 rfl (by decide) (by decide) kd_140 rfl (fun r1 => ?_)
  obtain ⟨c2, c3, h⟩ := h
  refine u_iaload (k := (τ 140 12).toNat) (z := (τ 142 (τ 140 12).toNat)) (pc' := 10) dX11_formC_9 rfl (by decide) kd_142 c2 c3 (by decide) rfl rfl (fun r4 => ?_)
  refine u_iconst (pc' := 11) dX11_formC_10 rfl ?_
  refine u_isub (pc' := 12) dX11_formC_11 rfl ?_
  obtain ⟨c5, c6, c7, h⟩ := h
  refine u_irem (pc' := 13) dX11_formC_12 rfl c5 c6 c7 ?_
  refine u_iconst (pc' := 14) dX11_formC_13 rfl ?_
  refine u_iadd (pc' := 15) dX11_formC_14 rfl ?_
  exact u_iret dX11_formC_15 rfl h
theorem mX11_formC {E : mm_Env} {d : Nat} {τ : mm_Mem} {Q : mm_Q0} {a0 : Int} (h : 0 ≤ (τ 140 12) ∧ (τ 140 12) < 2 ∧ inR a0 ∧ inR ((τ 142 (τ 140 12).toNat) - 1) ∧ ((τ 142 (τ 140 12).toNat) - 1) ≠ 0 ∧ Q (some (vI ((Int.tmod a0 ((τ 142 (τ 140 12).toNat) - 1)) + 1))) τ) : M0 E d qX11_formC [vR 140, vI a0] τ Q := M0_of rfl (Nat.le_of_ble_eq_true rfl) [some (vR 140), some (vI a0)] rfl (bX11_formC_0  h)
set_option maxRecDepth 20000 in
theorem bX11_fits_0 {E : mm_Env} {d : Nat} {τ : mm_Mem} {Q : mm_Q0} {a0 : Int} {a1 : Int} {a2 : Int} {a3 : Int} {a4 : Int} (h : V0 E (d + 1) qX11_fits 3 [some (vR 140), some (vI a0), some (vI a1), some (vI a2), some (vI a3), some (vI a4), some (vI 0)] [] τ Q) : V0 E (d + 1) qX11_fits 0 [some (vR 140), some (vI a0), some (vI a1), some (vI a2), some (vI a3), some (vI a4), none] [] τ Q := by
  refine u_iconst (pc' := 1) dX11_fits_0 rfl ?_
  refine s_istore (i := 6) (ls' := [some (vR 140), some (vI a0), some (vI a1), some (vI a2), some (vI a3), some (vI a4), some (vI 0)]) (pc' := 3) dX11_fits_1 rfl (Nat.le_of_ble_eq_true rfl) rfl rfl ?_
  exact u_less (ls' := [some (vR 140), some (vI a0), some (vI a1), some (vI a2), some (vI a3), some (vI a4), some (vI 0)]) ⟨rfl, ⟨rfl, ⟨rfl, ⟨rfl, ⟨rfl, ⟨rfl, ⟨rfl, trivial⟩⟩⟩⟩⟩⟩⟩ h
theorem mX11_fits {E : mm_Env} {d : Nat} {τ : mm_Mem} {Q : mm_Q0} {a0 : Int} {a1 : Int} {a2 : Int} {a3 : Int} {a4 : Int} (h : V0 E (d + 1) qX11_fits 3 [some (vR 140), some (vI a0), some (vI a1), some (vI a2), some (vI a3), some (vI a4), some (vI 0)] [] τ Q) : M0 E (d + 1) qX11_fits [vR 140, vI a0, vI a1, vI a2, vI a3, vI a4] τ Q := M0_of rfl (Nat.le_of_ble_eq_true rfl) [some (vR 140), some (vI a0), some (vI a1), some (vI a2), some (vI a3), some (vI a4), none] rfl (bX11_fits_0  h)
set_option maxRecDepth 20000 in
theorem bX11_fits_3 {E : mm_Env} {d : Nat} {τ : mm_Mem} {Q : mm_Q0} {x1 : Int} {x2 : Int} {x3 : Int} {x4 : Int} {x5 : Int} {x6 : Int} (h : inR x6 ∧ inR (x2 - 1) ∧ (((x2 - 1) ≤ x6 → Q (some (vB true)) τ) ∧ (¬ (x2 - 1) ≤ x6 → M0 E d qX11_formed [vR 140, vI (x1 + x6), vI x3, vI x4, vI x5] τ (fun v τ3 => ∃ r4 : Int, v = some (vI r4) ∧ 0 ≤ ((x1 + x6) + 1) ∧ ((x1 + x6) + 1) < 3000 ∧ inR r4 ∧ ((r4 = (τ3 178 ((x1 + x6) + 1).toNat) → V0 E (d + 1) qX11_fits 3 [some (vR 140), some (vI x1), some (vI x2), some (vI x3), some (vI x4), some (vI x5), some (vI (x6 + 1))] [] τ3 Q) ∧ (¬ r4 = (τ3 178 ((x1 + x6) + 1).toNat) → Q (some (vB false)) τ3)))))) : V0 E (d + 1) qX11_fits 3 [some (vR 140), some (vI x1), some (vI x2), some (vI x3), some (vI x4), some (vI x5), some (vI x6)] [] τ Q := by
  refine u_iload (i := 6) (pc' := 5) dX11_fits_3 rfl rfl ?_
  refine u_iload_n (i := 2) (pc' := 6) dX11_fits_5 rfl rfl rfl ?_
  refine u_iconst (pc' := 7) dX11_fits_6 rfl ?_
  refine u_isub (pc' := 8) dX11_fits_7 rfl ?_
  obtain ⟨c1, c2, h⟩ := h
  refine u_icmp_ge (tgt := 46) (pc' := 11) dX11_fits_8 rfl (by decide) c1 c2 (fun hb => ?_) (fun hb => ?_)
  · have h := h.1 hb
    refine u_iconst (pc' := 47) dX11_fits_46 rfl ?_
    exact u_zret (b := true) dX11_fits_47 rfl rfl h
  · have h := h.2 hb
    refine u_aload_n (i := 0) (pc' := 12) dX11_fits_11 rfl rfl rfl ?_
    refine u_iload_n (i := 1) (pc' := 13) dX11_fits_12 rfl rfl rfl ?_
    refine u_iload (i := 6) (pc' := 15) dX11_fits_13 rfl rfl ?_
    refine u_iadd (pc' := 16) dX11_fits_15 rfl ?_
    refine u_iload_n (i := 3) (pc' := 17) dX11_fits_16 rfl rfl rfl ?_
    refine u_iload (i := 4) (pc' := 19) dX11_fits_17 rfl rfl ?_
    refine u_iload (i := 5) (pc' := 21) dX11_fits_19 rfl rfl ?_
    refine u_invV (q' := qX11_formed) (As := [vI (x1 + x6), vI x3, vI x4, vI x5]) (st := []) (pc' := 24) dX11_fits_21 rfl gX11_formed wm_1906 rfl rfl (by decide) kd_140 wm_1908 wp_143 rfl (Nat.le_of_ble_eq_true rfl) (M0.mono h (fun v τ3 h => ?_))
    obtain ⟨r4, rfl, h⟩ := h
    show V0 E (d + 1) qX11_fits 24 [some (vR 140), some (vI x1), some (vI x2), some (vI x3), some (vI x4), some (vI x5), some (vI x6)] [vI r4] τ3 Q
    refine u_aload_n (i := 0) (pc' := 25) dX11_fits_24 rfl rfl rfl ?_
    refine u_getR (a := 178) (pc' := 28) dX11_fits_25 rfl fl_TuneDoorModel_180 rfl (by decide) kd_140 rfl ?_
    refine u_iload_n (i := 1) (pc' := 29) dX11_fits_28 rfl rfl rfl ?_
    refine u_iload (i := 6) (pc' := 31) dX11_fits_29 rfl rfl ?_
    refine u_iadd (pc' := 32) dX11_fits_31 rfl ?_
    refine u_iconst (pc' := 33) dX11_fits_32 rfl ?_
    refine u_iadd (pc' := 34) dX11_fits_33 rfl ?_
    obtain ⟨c5, c6, h⟩ := h
    refine u_iaload (k := ((x1 + x6) + 1).toNat) (z := (τ3 178 ((x1 + x6) + 1).toNat)) (pc' := 35) dX11_fits_34 rfl (by decide) kd_178 c5 c6 (by decide) rfl rfl (fun r7 => ?_)
    obtain ⟨c8, h⟩ := h
    refine u_icmp_eq (tgt := 40) (pc' := 38) dX11_fits_35 rfl (by decide) c8 r7 (fun hb => ?_) (fun hb => ?_)
    · have h := h.1 hb
      refine s_iinc (i := 6) (ls' := [some (vR 140), some (vI x1), some (vI x2), some (vI x3), some (vI x4), some (vI x5), some (vI (x6 + 1))]) (pc' := 43) dX11_fits_40 rfl rfl (Nat.le_of_ble_eq_true rfl) rfl rfl ?_
      refine u_goto (tgt := 3) dX11_fits_43 (by decide) ?_
      exact u_less (ls' := [some (vR 140), some (vI x1), some (vI x2), some (vI x3), some (vI x4), some (vI x5), some (vI (x6 + 1))]) ⟨rfl, ⟨rfl, ⟨rfl, ⟨rfl, ⟨rfl, ⟨rfl, ⟨rfl, trivial⟩⟩⟩⟩⟩⟩⟩ h
    · have h := h.2 hb
      refine u_iconst (pc' := 39) dX11_fits_38 rfl ?_
      exact u_zret (b := false) dX11_fits_39 rfl rfl h
set_option maxRecDepth 20000 in
theorem bX11_formed_0 {E : mm_Env} {d : Nat} {τ : mm_Mem} {Q : mm_Q0} {a0 : Int} {a1 : Int} {a2 : Int} {a3 : Int} (h : V0 E d qX11_formed 6 [some (vR 140), some (vI a0), some (vI a1), some (vI a2), some (vI a3), some (vI 0), some (vI 0), none, none] [] τ Q) : V0 E d qX11_formed 0 [some (vR 140), some (vI a0), some (vI a1), some (vI a2), some (vI a3), none, none, none, none] [] τ Q := by
  refine u_iconst (pc' := 1) dX11_formed_0 rfl ?_
  refine s_istore (i := 5) (ls' := [some (vR 140), some (vI a0), some (vI a1), some (vI a2), some (vI a3), some (vI 0), none, none, none]) (pc' := 3) dX11_formed_1 rfl (Nat.le_of_ble_eq_true rfl) rfl rfl ?_
  refine u_iconst (pc' := 4) dX11_formed_3 rfl ?_
  refine s_istore (i := 6) (ls' := [some (vR 140), some (vI a0), some (vI a1), some (vI a2), some (vI a3), some (vI 0), some (vI 0), none, none]) (pc' := 6) dX11_formed_4 rfl (Nat.le_of_ble_eq_true rfl) rfl rfl ?_
  exact u_less (ls' := [some (vR 140), some (vI a0), some (vI a1), some (vI a2), some (vI a3), some (vI 0), some (vI 0), none, none]) ⟨rfl, ⟨rfl, ⟨rfl, ⟨rfl, ⟨rfl, ⟨rfl, ⟨rfl, trivial⟩⟩⟩⟩⟩⟩⟩ h
theorem mX11_formed {E : mm_Env} {d : Nat} {τ : mm_Mem} {Q : mm_Q0} {a0 : Int} {a1 : Int} {a2 : Int} {a3 : Int} (h : V0 E d qX11_formed 6 [some (vR 140), some (vI a0), some (vI a1), some (vI a2), some (vI a3), some (vI 0), some (vI 0), none, none] [] τ Q) : M0 E d qX11_formed [vR 140, vI a0, vI a1, vI a2, vI a3] τ Q := M0_of rfl (Nat.le_of_ble_eq_true rfl) [some (vR 140), some (vI a0), some (vI a1), some (vI a2), some (vI a3), none, none, none, none] rfl (bX11_formed_0  h)
set_option maxRecDepth 20000 in
theorem bX11_formed_6 {E : mm_Env} {d : Nat} {τ : mm_Mem} {Q : mm_Q0} {x1 : Int} {x2 : Int} {x3 : Int} {x4 : Int} {x5 : Int} {x6 : Int} (h : 0 ≤ (τ 140 12) ∧ (τ 140 12) < 2 ∧ inR x6 ∧ (((τ 143 (τ 140 12).toNat) ≤ x6 → 0 ≤ (τ 140 12) ∧ (τ 140 12) < 2 ∧ inR ((x2 * x5) + x3) ∧ (τ 143 (τ 140 12).toNat) ≠ 0 ∧ V0 E d qX11_formed 66 [some (vR 140), some (vI x1), none, none, some (vI x4), none, some (vI (Int.tmod ((x2 * x5) + x3) (τ 143 (τ 140 12).toNat))), some (vI 0), some (vI 0)] [] τ Q) ∧ (¬ (τ 143 (τ 140 12).toNat) ≤ x6 → 0 ≤ ((5 * x1) + x6) ∧ ((5 * x1) + x6) < 15000 ∧ V0 E d qX11_formed 6 [some (vR 140), some (vI x1), some (vI x2), some (vI x3), some (vI x4), some (vI (x5 + (τ 176 ((5 * x1) + x6).toNat))), some (vI (x6 + 1)), none, none] [] τ Q))) : V0 E d qX11_formed 6 [some (vR 140), some (vI x1), some (vI x2), some (vI x3), some (vI x4), some (vI x5), some (vI x6), none, none] [] τ Q := by
  refine u_iload (i := 6) (pc' := 8) dX11_formed_6 rfl rfl ?_
  refine u_aload_n (i := 0) (pc' := 9) dX11_formed_8 rfl rfl rfl ?_
  refine u_getR (a := 143) (pc' := 12) dX11_formed_9 rfl fl_TuneDoorModel_54 rfl (by decide) kd_140 rfl ?_
  refine u_aload_n (i := 0) (pc' := 13) dX11_formed_12 rfl rfl rfl ?_
  refine u_getI (z := (τ 140 12)) (pc' := 16) dX11_formed_13 rfl fl_TuneDoorModel_48 rfl (by decide) (by decide) kd_140 rfl (fun r1 => ?_)
  obtain ⟨c2, c3, h⟩ := h
  refine u_iaload (k := (τ 140 12).toNat) (z := (τ 143 (τ 140 12).toNat)) (pc' := 17) dX11_formed_16 rfl (by decide) kd_143 c2 c3 (by decide) rfl rfl (fun r4 => ?_)
  obtain ⟨c5, h⟩ := h
  refine u_icmp_ge (tgt := 42) (pc' := 20) dX11_formed_17 rfl (by decide) c5 r4 (fun hb => ?_) (fun hb => ?_)
  · have h := h.1 hb
    refine u_iload_n (i := 2) (pc' := 43) dX11_formed_42 rfl rfl rfl ?_
    refine u_iload (i := 5) (pc' := 45) dX11_formed_43 rfl rfl ?_
    refine u_imul (pc' := 46) dX11_formed_45 rfl ?_
    refine u_iload_n (i := 3) (pc' := 47) dX11_formed_46 rfl rfl rfl ?_
    refine u_iadd (pc' := 48) dX11_formed_47 rfl ?_
    refine u_aload_n (i := 0) (pc' := 49) dX11_formed_48 rfl rfl rfl ?_
    refine u_getR (a := 143) (pc' := 52) dX11_formed_49 rfl fl_TuneDoorModel_54 rfl (by decide) kd_140 rfl ?_
    refine u_aload_n (i := 0) (pc' := 53) dX11_formed_52 rfl rfl rfl ?_
    refine u_getI (z := (τ 140 12)) (pc' := 56) dX11_formed_53 rfl fl_TuneDoorModel_48 rfl (by decide) (by decide) kd_140 rfl (fun r6 => ?_)
    obtain ⟨c7, c8, h⟩ := h
    refine u_iaload (k := (τ 140 12).toNat) (z := (τ 143 (τ 140 12).toNat)) (pc' := 57) dX11_formed_56 rfl (by decide) kd_143 c7 c8 (by decide) rfl rfl (fun r9 => ?_)
    obtain ⟨c10, c11, h⟩ := h
    refine u_irem (pc' := 58) dX11_formed_57 rfl c10 r9 c11 ?_
    refine s_istore (i := 6) (ls' := [some (vR 140), some (vI x1), some (vI x2), some (vI x3), some (vI x4), some (vI x5), some (vI (Int.tmod ((x2 * x5) + x3) (τ 143 (τ 140 12).toNat))), none, none]) (pc' := 60) dX11_formed_58 rfl (Nat.le_of_ble_eq_true rfl) rfl rfl ?_
    refine u_iconst (pc' := 61) dX11_formed_60 rfl ?_
    refine s_istore (i := 7) (ls' := [some (vR 140), some (vI x1), some (vI x2), some (vI x3), some (vI x4), some (vI x5), some (vI (Int.tmod ((x2 * x5) + x3) (τ 143 (τ 140 12).toNat))), some (vI 0), none]) (pc' := 63) dX11_formed_61 rfl (Nat.le_of_ble_eq_true rfl) rfl rfl ?_
    refine u_iconst (pc' := 64) dX11_formed_63 rfl ?_
    refine s_istore (i := 8) (ls' := [some (vR 140), some (vI x1), some (vI x2), some (vI x3), some (vI x4), some (vI x5), some (vI (Int.tmod ((x2 * x5) + x3) (τ 143 (τ 140 12).toNat))), some (vI 0), some (vI 0)]) (pc' := 66) dX11_formed_64 rfl (Nat.le_of_ble_eq_true rfl) rfl rfl ?_
    exact u_less (ls' := [some (vR 140), some (vI x1), none, none, some (vI x4), none, some (vI (Int.tmod ((x2 * x5) + x3) (τ 143 (τ 140 12).toNat))), some (vI 0), some (vI 0)]) ⟨rfl, ⟨rfl, ⟨rfl, ⟨rfl, ⟨rfl, ⟨rfl, trivial⟩⟩⟩⟩⟩⟩ h
  · have h := h.2 hb
    refine u_iload (i := 5) (pc' := 22) dX11_formed_20 rfl rfl ?_
    refine u_aload_n (i := 0) (pc' := 23) dX11_formed_22 rfl rfl rfl ?_
    refine u_getR (a := 176) (pc' := 26) dX11_formed_23 rfl fl_TuneDoorModel_174 rfl (by decide) kd_140 rfl ?_
    refine u_iconst (pc' := 27) dX11_formed_26 rfl ?_
    refine u_iload_n (i := 1) (pc' := 28) dX11_formed_27 rfl rfl rfl ?_
    refine u_imul (pc' := 29) dX11_formed_28 rfl ?_
    refine u_iload (i := 6) (pc' := 31) dX11_formed_29 rfl rfl ?_
    refine u_iadd (pc' := 32) dX11_formed_31 rfl ?_
    obtain ⟨c12, c13, h⟩ := h
    refine u_iaload (k := ((5 * x1) + x6).toNat) (z := (τ 176 ((5 * x1) + x6).toNat)) (pc' := 33) dX11_formed_32 rfl (by decide) kd_176 c12 c13 (by decide) rfl rfl (fun r14 => ?_)
    refine u_iadd (pc' := 34) dX11_formed_33 rfl ?_
    refine s_istore (i := 5) (ls' := [some (vR 140), some (vI x1), some (vI x2), some (vI x3), some (vI x4), some (vI (x5 + (τ 176 ((5 * x1) + x6).toNat))), some (vI x6), none, none]) (pc' := 36) dX11_formed_34 rfl (Nat.le_of_ble_eq_true rfl) rfl rfl ?_
    refine s_iinc (i := 6) (ls' := [some (vR 140), some (vI x1), some (vI x2), some (vI x3), some (vI x4), some (vI (x5 + (τ 176 ((5 * x1) + x6).toNat))), some (vI (x6 + 1)), none, none]) (pc' := 39) dX11_formed_36 rfl rfl (Nat.le_of_ble_eq_true rfl) rfl rfl ?_
    refine u_goto (tgt := 6) dX11_formed_39 (by decide) ?_
    exact u_less (ls' := [some (vR 140), some (vI x1), some (vI x2), some (vI x3), some (vI x4), some (vI (x5 + (τ 176 ((5 * x1) + x6).toNat))), some (vI (x6 + 1)), none, none]) ⟨rfl, ⟨rfl, ⟨rfl, ⟨rfl, ⟨rfl, ⟨rfl, ⟨rfl, trivial⟩⟩⟩⟩⟩⟩⟩ h
set_option maxRecDepth 20000 in
theorem bX11_formed_66 {E : mm_Env} {d : Nat} {τ : mm_Mem} {Q : mm_Q0} {x1 : Int} {x4 : Int} {x6 : Int} {x7 : Int} {x8 : Int} (h : 0 ≤ (τ 140 12) ∧ (τ 140 12) < 2 ∧ inR x8 ∧ (((τ 143 (τ 140 12).toNat) ≤ x8 → Q (some (vI x7)) τ) ∧ (¬ (τ 143 (τ 140 12).toNat) ≤ x8 → 0 ≤ (τ 140 12) ∧ (τ 140 12) < 2 ∧ inR x6 ∧ ((x8 ≠ x6 → 0 ≤ ((5 * x1) + x8) ∧ ((5 * x1) + x8) < 15000 ∧ V0 E d qX11_formed 66 [some (vR 140), some (vI x1), none, none, some (vI x4), none, some (vI x6), some (vI ((x7 * (τ 142 (τ 140 12).toNat)) + (τ 176 ((5 * x1) + x8).toNat))), some (vI (x8 + 1))] [] τ Q) ∧ (x8 = x6 → 0 ≤ ((5 * x1) + x8) ∧ ((5 * x1) + x8) < 15000 ∧ 0 ≤ (τ 140 12) ∧ (τ 140 12) < 2 ∧ inR ((τ 176 ((5 * x1) + x8).toNat) + x4) ∧ (τ 142 (τ 140 12).toNat) ≠ 0 ∧ V0 E d qX11_formed 66 [some (vR 140), some (vI x1), none, none, some (vI x4), none, some (vI x6), some (vI ((x7 * (τ 142 (τ 140 12).toNat)) + (Int.tmod ((τ 176 ((5 * x1) + x8).toNat) + x4) (τ 142 (τ 140 12).toNat)))), some (vI (x8 + 1))] [] τ Q))))) : V0 E d qX11_formed 66 [some (vR 140), some (vI x1), none, none, some (vI x4), none, some (vI x6), some (vI x7), some (vI x8)] [] τ Q := by
  refine u_iload (i := 8) (pc' := 68) dX11_formed_66 rfl rfl ?_
  refine u_aload_n (i := 0) (pc' := 69) dX11_formed_68 rfl rfl rfl ?_
  refine u_getR (a := 143) (pc' := 72) dX11_formed_69 rfl fl_TuneDoorModel_54 rfl (by decide) kd_140 rfl ?_
  refine u_aload_n (i := 0) (pc' := 73) dX11_formed_72 rfl rfl rfl ?_
  refine u_getI (z := (τ 140 12)) (pc' := 76) dX11_formed_73 rfl fl_TuneDoorModel_48 rfl (by decide) (by decide) kd_140 rfl (fun r1 => ?_)
  obtain ⟨c2, c3, h⟩ := h
  refine u_iaload (k := (τ 140 12).toNat) (z := (τ 143 (τ 140 12).toNat)) (pc' := 77) dX11_formed_76 rfl (by decide) kd_143 c2 c3 (by decide) rfl rfl (fun r4 => ?_)
  obtain ⟨c5, h⟩ := h
  refine u_icmp_ge (tgt := 146) (pc' := 80) dX11_formed_77 rfl (by decide) c5 r4 (fun hb => ?_) (fun hb => ?_)
  · have h := h.1 hb
    refine u_iload (i := 7) (pc' := 148) dX11_formed_146 rfl rfl ?_
    exact u_iret dX11_formed_148 rfl h
  · have h := h.2 hb
    refine u_iload (i := 7) (pc' := 82) dX11_formed_80 rfl rfl ?_
    refine u_aload_n (i := 0) (pc' := 83) dX11_formed_82 rfl rfl rfl ?_
    refine u_getR (a := 142) (pc' := 86) dX11_formed_83 rfl fl_TuneDoorModel_51 rfl (by decide) kd_140 rfl ?_
    refine u_aload_n (i := 0) (pc' := 87) dX11_formed_86 rfl rfl rfl ?_
    refine u_getI (z := (τ 140 12)) (pc' := 90) dX11_formed_87 rfl fl_TuneDoorModel_48 rfl (by decide) (by decide) kd_140 rfl (fun r6 => ?_)
    obtain ⟨c7, c8, h⟩ := h
    refine u_iaload (k := (τ 140 12).toNat) (z := (τ 142 (τ 140 12).toNat)) (pc' := 91) dX11_formed_90 rfl (by decide) kd_142 c7 c8 (by decide) rfl rfl (fun r9 => ?_)
    refine u_imul (pc' := 92) dX11_formed_91 rfl ?_
    refine u_iload (i := 8) (pc' := 94) dX11_formed_92 rfl rfl ?_
    refine u_iload (i := 6) (pc' := 96) dX11_formed_94 rfl rfl ?_
    obtain ⟨c10, h⟩ := h
    refine u_icmp_ne (tgt := 126) (pc' := 99) dX11_formed_96 rfl (by decide) c5 c10 (fun hb => ?_) (fun hb => ?_)
    · have h := h.1 hb
      refine u_aload_n (i := 0) (pc' := 127) dX11_formed_126 rfl rfl rfl ?_
      refine u_getR (a := 176) (pc' := 130) dX11_formed_127 rfl fl_TuneDoorModel_174 rfl (by decide) kd_140 rfl ?_
      refine u_iconst (pc' := 131) dX11_formed_130 rfl ?_
      refine u_iload_n (i := 1) (pc' := 132) dX11_formed_131 rfl rfl rfl ?_
      refine u_imul (pc' := 133) dX11_formed_132 rfl ?_
      refine u_iload (i := 8) (pc' := 135) dX11_formed_133 rfl rfl ?_
      refine u_iadd (pc' := 136) dX11_formed_135 rfl ?_
      obtain ⟨c11, c12, h⟩ := h
      refine u_iaload (k := ((5 * x1) + x8).toNat) (z := (τ 176 ((5 * x1) + x8).toNat)) (pc' := 137) dX11_formed_136 rfl (by decide) kd_176 c11 c12 (by decide) rfl rfl (fun r13 => ?_)
      refine u_iadd (pc' := 138) dX11_formed_137 rfl ?_
      refine s_istore (i := 7) (ls' := [some (vR 140), some (vI x1), none, none, some (vI x4), none, some (vI x6), some (vI ((x7 * (τ 142 (τ 140 12).toNat)) + (τ 176 ((5 * x1) + x8).toNat))), some (vI x8)]) (pc' := 140) dX11_formed_138 rfl (Nat.le_of_ble_eq_true rfl) rfl rfl ?_
      refine s_iinc (i := 8) (ls' := [some (vR 140), some (vI x1), none, none, some (vI x4), none, some (vI x6), some (vI ((x7 * (τ 142 (τ 140 12).toNat)) + (τ 176 ((5 * x1) + x8).toNat))), some (vI (x8 + 1))]) (pc' := 143) dX11_formed_140 rfl rfl (Nat.le_of_ble_eq_true rfl) rfl rfl ?_
      refine u_goto (tgt := 66) dX11_formed_143 (by decide) ?_
      exact u_less (ls' := [some (vR 140), some (vI x1), none, none, some (vI x4), none, some (vI x6), some (vI ((x7 * (τ 142 (τ 140 12).toNat)) + (τ 176 ((5 * x1) + x8).toNat))), some (vI (x8 + 1))]) ⟨rfl, ⟨rfl, ⟨rfl, ⟨rfl, ⟨rfl, ⟨rfl, trivial⟩⟩⟩⟩⟩⟩ h
    · have h := h.2 hb
      refine u_aload_n (i := 0) (pc' := 100) dX11_formed_99 rfl rfl rfl ?_
      refine u_getR (a := 176) (pc' := 103) dX11_formed_100 rfl fl_TuneDoorModel_174 rfl (by decide) kd_140 rfl ?_
      refine u_iconst (pc' := 104) dX11_formed_103 rfl ?_
      refine u_iload_n (i := 1) (pc' := 105) dX11_formed_104 rfl rfl rfl ?_
      refine u_imul (pc' := 106) dX11_formed_105 rfl ?_
      refine u_iload (i := 8) (pc' := 108) dX11_formed_106 rfl rfl ?_
      refine u_iadd (pc' := 109) dX11_formed_108 rfl ?_
      obtain ⟨c14, c15, h⟩ := h
      refine u_iaload (k := ((5 * x1) + x8).toNat) (z := (τ 176 ((5 * x1) + x8).toNat)) (pc' := 110) dX11_formed_109 rfl (by decide) kd_176 c14 c15 (by decide) rfl rfl (fun r16 => ?_)
      refine u_iload (i := 4) (pc' := 112) dX11_formed_110 rfl rfl ?_
      refine u_iadd (pc' := 113) dX11_formed_112 rfl ?_
      refine u_aload_n (i := 0) (pc' := 114) dX11_formed_113 rfl rfl rfl ?_
      refine u_getR (a := 142) (pc' := 117) dX11_formed_114 rfl fl_TuneDoorModel_51 rfl (by decide) kd_140 rfl ?_
      refine u_aload_n (i := 0) (pc' := 118) dX11_formed_117 rfl rfl rfl ?_
      refine u_getI (z := (τ 140 12)) (pc' := 121) dX11_formed_118 rfl fl_TuneDoorModel_48 rfl (by decide) (by decide) kd_140 rfl (fun r17 => ?_)
      obtain ⟨c18, c19, h⟩ := h
      refine u_iaload (k := (τ 140 12).toNat) (z := (τ 142 (τ 140 12).toNat)) (pc' := 122) dX11_formed_121 rfl (by decide) kd_142 c18 c19 (by decide) rfl rfl (fun r20 => ?_)
      obtain ⟨c21, c22, h⟩ := h
      refine u_irem (pc' := 123) dX11_formed_122 rfl c21 r20 c22 ?_
      refine u_goto (tgt := 137) dX11_formed_123 (by decide) ?_
      refine u_iadd (pc' := 138) dX11_formed_137 rfl ?_
      refine s_istore (i := 7) (ls' := [some (vR 140), some (vI x1), none, none, some (vI x4), none, some (vI x6), some (vI ((x7 * (τ 142 (τ 140 12).toNat)) + (Int.tmod ((τ 176 ((5 * x1) + x8).toNat) + x4) (τ 142 (τ 140 12).toNat)))), some (vI x8)]) (pc' := 140) dX11_formed_138 rfl (Nat.le_of_ble_eq_true rfl) rfl rfl ?_
      refine s_iinc (i := 8) (ls' := [some (vR 140), some (vI x1), none, none, some (vI x4), none, some (vI x6), some (vI ((x7 * (τ 142 (τ 140 12).toNat)) + (Int.tmod ((τ 176 ((5 * x1) + x8).toNat) + x4) (τ 142 (τ 140 12).toNat)))), some (vI (x8 + 1))]) (pc' := 143) dX11_formed_140 rfl rfl (Nat.le_of_ble_eq_true rfl) rfl rfl ?_
      refine u_goto (tgt := 66) dX11_formed_143 (by decide) ?_
      exact u_less (ls' := [some (vR 140), some (vI x1), none, none, some (vI x4), none, some (vI x6), some (vI ((x7 * (τ 142 (τ 140 12).toNat)) + (Int.tmod ((τ 176 ((5 * x1) + x8).toNat) + x4) (τ 142 (τ 140 12).toNat)))), some (vI (x8 + 1))]) ⟨rfl, ⟨rfl, ⟨rfl, ⟨rfl, ⟨rfl, ⟨rfl, trivial⟩⟩⟩⟩⟩⟩ h
set_option maxRecDepth 20000 in
theorem bX11_sure_0 {E : mm_Env} {d : Nat} {τ : mm_Mem} {Q : mm_Q0} {a0 : Int} {a1 : Int} (h : V0 E (d + 1) qX11_sure 2 [some (vR 140), some (vI a0), some (vI a1), some (vI 2)] [] τ Q) : V0 E (d + 1) qX11_sure 0 [some (vR 140), some (vI a0), some (vI a1), none] [] τ Q := by
  refine u_iconst (pc' := 1) dX11_sure_0 rfl ?_
  refine s_istore_n (i := 3) (ls' := [some (vR 140), some (vI a0), some (vI a1), some (vI 2)]) (pc' := 2) dX11_sure_1 rfl rfl (Nat.le_of_ble_eq_true rfl) rfl rfl ?_
  exact u_less (ls' := [some (vR 140), some (vI a0), some (vI a1), some (vI 2)]) ⟨rfl, ⟨rfl, ⟨rfl, ⟨rfl, trivial⟩⟩⟩⟩ h
theorem mX11_sure {E : mm_Env} {d : Nat} {τ : mm_Mem} {Q : mm_Q0} {a0 : Int} {a1 : Int} (h : V0 E (d + 1) qX11_sure 2 [some (vR 140), some (vI a0), some (vI a1), some (vI 2)] [] τ Q) : M0 E (d + 1) qX11_sure [vR 140, vI a0, vI a1] τ Q := M0_of rfl (Nat.le_of_ble_eq_true rfl) [some (vR 140), some (vI a0), some (vI a1), none] rfl (bX11_sure_0  h)
set_option maxRecDepth 20000 in
theorem bX11_sure_2 {E : mm_Env} {d : Nat} {τ : mm_Mem} {Q : mm_Q0} {x1 : Int} {x2 : Int} {x3 : Int} (h : inR x3 ∧ ((30 < x3 → Q (some (vI (-1))) τ) ∧ (¬ 30 < x3 → M0 E d qX11_canHear [vR 140, vI x1, vI x2, vI x3] τ (fun v τ2 => ∃ b3 : Bool, v = some (vB b3) ∧ ((b3 = false → V0 E (d + 1) qX11_sure 2 [some (vR 140), some (vI x1), some (vI x2), some (vI (x3 + 1))] [] τ2 Q) ∧ (b3 = true → M0 E d qX11_isSure [vR 140, vI ((1000 * x1) + x2), vI x3] τ2 (fun v τ4 => ∃ b5 : Bool, v = some (vB b5) ∧ ((b5 = false → V0 E (d + 1) qX11_sure 2 [some (vR 140), some (vI x1), some (vI x2), some (vI (x3 + 1))] [] τ4 Q) ∧ (b5 = true → Q (some (vI x3)) τ4))))))))) : V0 E (d + 1) qX11_sure 2 [some (vR 140), some (vI x1), some (vI x2), some (vI x3)] [] τ Q := by
  refine u_iload_n (i := 3) (pc' := 3) dX11_sure_2 rfl rfl rfl ?_
  refine u_bipush (pc' := 5) dX11_sure_3 rfl (by decide) ?_
  obtain ⟨c1, h⟩ := h
  refine u_icmp_gt (tgt := 41) (pc' := 8) dX11_sure_5 rfl (by decide) c1 ⟨by decide, by decide⟩ (fun hb => ?_) (fun hb => ?_)
  · have h := h.1 hb
    refine u_iconst (pc' := 42) dX11_sure_41 rfl ?_
    exact u_iret dX11_sure_42 rfl h
  · have h := h.2 hb
    refine u_aload_n (i := 0) (pc' := 9) dX11_sure_8 rfl rfl rfl ?_
    refine u_iload_n (i := 1) (pc' := 10) dX11_sure_9 rfl rfl rfl ?_
    refine u_iload_n (i := 2) (pc' := 11) dX11_sure_10 rfl rfl rfl ?_
    refine u_iload_n (i := 3) (pc' := 12) dX11_sure_11 rfl rfl rfl ?_
    refine u_invV (q' := qX11_canHear) (As := [vI x1, vI x2, vI x3]) (st := []) (pc' := 15) dX11_sure_12 rfl gX11_canHear wm_1878 rfl rfl (by decide) kd_140 wm_1880 wp_136 rfl (Nat.le_of_ble_eq_true rfl) (M0.mono h (fun v τ2 h => ?_))
    obtain ⟨b3, rfl, h⟩ := h
    show V0 E (d + 1) qX11_sure 15 [some (vR 140), some (vI x1), some (vI x2), some (vI x3)] [vB b3] τ2 Q
    refine u_if_eq (tgt := 35) (pc' := 18) dX11_sure_15 rfl (by decide) (bI_R _) (fun hb => ?_) (fun hb => ?_)
    · have h := h.1 (bI_0.mp hb)
      refine s_iinc (i := 3) (ls' := [some (vR 140), some (vI x1), some (vI x2), some (vI (x3 + 1))]) (pc' := 38) dX11_sure_35 rfl rfl (Nat.le_of_ble_eq_true rfl) rfl rfl ?_
      refine u_goto (tgt := 2) dX11_sure_38 (by decide) ?_
      exact u_less (ls' := [some (vR 140), some (vI x1), some (vI x2), some (vI (x3 + 1))]) ⟨rfl, ⟨rfl, ⟨rfl, ⟨rfl, trivial⟩⟩⟩⟩ h
    · have h := h.2 (bI_n0.mp hb)
      refine u_aload_n (i := 0) (pc' := 19) dX11_sure_18 rfl rfl rfl ?_
      refine u_sipush (pc' := 22) dX11_sure_19 rfl (by decide) ?_
      refine u_iload_n (i := 1) (pc' := 23) dX11_sure_22 rfl rfl rfl ?_
      refine u_imul (pc' := 24) dX11_sure_23 rfl ?_
      refine u_iload_n (i := 2) (pc' := 25) dX11_sure_24 rfl rfl rfl ?_
      refine u_iadd (pc' := 26) dX11_sure_25 rfl ?_
      refine u_iload_n (i := 3) (pc' := 27) dX11_sure_26 rfl rfl rfl ?_
      refine u_invV (q' := qX11_isSure) (As := [vI ((1000 * x1) + x2), vI x3]) (st := []) (pc' := 30) dX11_sure_27 rfl gX11_isSure wm_1914 rfl rfl (by decide) kd_140 wm_1916 wp_144 rfl (Nat.le_of_ble_eq_true rfl) (M0.mono h (fun v τ4 h => ?_))
      obtain ⟨b5, rfl, h⟩ := h
      show V0 E (d + 1) qX11_sure 30 [some (vR 140), some (vI x1), some (vI x2), some (vI x3)] [vB b5] τ4 Q
      refine u_if_eq (tgt := 35) (pc' := 33) dX11_sure_30 rfl (by decide) (bI_R _) (fun hb => ?_) (fun hb => ?_)
      · have h := h.1 (bI_0.mp hb)
        refine s_iinc (i := 3) (ls' := [some (vR 140), some (vI x1), some (vI x2), some (vI (x3 + 1))]) (pc' := 38) dX11_sure_35 rfl rfl (Nat.le_of_ble_eq_true rfl) rfl rfl ?_
        refine u_goto (tgt := 2) dX11_sure_38 (by decide) ?_
        exact u_less (ls' := [some (vR 140), some (vI x1), some (vI x2), some (vI (x3 + 1))]) ⟨rfl, ⟨rfl, ⟨rfl, ⟨rfl, trivial⟩⟩⟩⟩ h
      · have h := h.2 (bI_n0.mp hb)
        refine u_iload_n (i := 3) (pc' := 34) dX11_sure_33 rfl rfl rfl ?_
        exact u_iret dX11_sure_34 rfl h
