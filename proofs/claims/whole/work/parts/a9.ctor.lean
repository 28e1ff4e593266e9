/-! the constructors that call none but Object's -/
section Ctor
variable {X : State → Prop} {E : mm_Env} {Sh : List mm_Kd} {σ : mm_Mem} {Q : mm_Q} {o n : Nat}
theorem k_X0_init (Z : SZ n Sh σ) (h2 : 2 ≤ o) (hs : Sh[o]? = some (.inr 0)) (k1 : SZ (n + 3) (Sh ++ [.inl (.int, 3), .inl (.int, 3), .inl (.int, 3)]) (wr (wr (wr σ o 8 ((n : Nat) : Int)) o 9 (((n + 1) : Nat) : Int)) o 10 (((n + 2) : Nat) : Int)) → Q none (Sh ++ [.inl (.int, 3), .inl (.int, 3), .inl (.int, 3)]) (wr (wr (wr σ o 8 ((n : Nat) : Int)) o 9 (((n + 1) : Nat) : Int)) o 10 (((n + 2) : Nat) : Int))) : vmX X E 1 3 9 qX0_init [vR o] Sh σ Q := by
  have ho : o < n := by rw [← Z.1]; exact (List.getElem?_eq_some_iff.mp hs).1
  refine vmX_of rfl (Nat.le_of_ble_eq_true rfl) [some (vR o)] rfl ?_
  refine vx_aload_n (i := 0) (pc' := 1) dX0_init_0 rfl rfl rfl ?_
  refine vx_obj (pc' := 4) dX0_init_1 rfl wm_77 (by omega) (by decide) (by decide) ?_
  refine vx_aload_n (i := 0) (pc' := 5) dX0_init_4 rfl rfl rfl ?_
  refine vx_iconst (pc' := 6) dX0_init_5 rfl ?_
  refine z_newa (ty := .int) (t0 := 0) (N := 3) (pc' := 8) Z dX0_init_6 rfl rfl (Or.inl rfl) wm_72 (fun _ => rfl) rfl (by decide) (Nat.le_of_ble_eq_true rfl) (Nat.le_of_ble_eq_true rfl) (fun Z g0 => ?_)
  refine z_putFR (pc' := 11) Z dX0_init_8 rfl ⟨RX0, TX0, 11, rfl, (by decide : 8 < 11), rfl, rfl, wm_102⟩ rfl rfl h2 (hs_app hs) (fun Z => ?_)
  refine vx_aload_n (i := 0) (pc' := 12) dX0_init_11 rfl rfl rfl ?_
  refine vx_iconst (pc' := 13) dX0_init_12 rfl ?_
  refine z_newa (ty := .int) (t0 := 0) (N := 3) (pc' := 15) Z dX0_init_13 rfl rfl (Or.inl rfl) wm_72 (fun _ => rfl) rfl (by decide) (Nat.le_of_ble_eq_true rfl) (Nat.le_of_ble_eq_true rfl) (fun Z g1 => ?_)
  refine z_putFR (pc' := 18) Z dX0_init_15 rfl ⟨RX0, TX0, 11, rfl, (by decide : 9 < 11), rfl, rfl, wm_105⟩ rfl rfl h2 (hs_app (hs_app hs)) (fun Z => ?_)
  refine vx_aload_n (i := 0) (pc' := 19) dX0_init_18 rfl rfl rfl ?_
  refine vx_iconst (pc' := 20) dX0_init_19 rfl ?_
  refine z_newa (ty := .int) (t0 := 0) (N := 3) (pc' := 22) Z dX0_init_20 rfl rfl (Or.inl rfl) wm_72 (fun _ => rfl) rfl (by decide) (Nat.le_of_ble_eq_true rfl) (Nat.le_of_ble_eq_true rfl) (fun Z g2 => ?_)
  refine z_putFR (pc' := 25) Z dX0_init_22 rfl ⟨RX0, TX0, 11, rfl, (by decide : 10 < 11), rfl, rfl, wm_108⟩ rfl rfl h2 (hs_app (hs_app (hs_app hs))) (fun Z => ?_)
  refine vx_ret dX0_init_25 rfl (Nat.le_of_ble_eq_true rfl) (Nat.le_of_ble_eq_true rfl) ?_
  simp only [List.append_assoc, List.cons_append, List.nil_append] at Z ⊢
  exact k1 Z
theorem k_X3_init (Z : SZ n Sh σ) (h2 : 2 ≤ o) (hs : Sh[o]? = some (.inr 3)) (k1 : SZ n Sh σ → Q none Sh σ) : vmX X E 1 0 0 qX3_init [vR o] Sh σ Q := by
  have ho : o < n := by rw [← Z.1]; exact (List.getElem?_eq_some_iff.mp hs).1
  refine vmX_of rfl (Nat.le_of_ble_eq_true rfl) [some (vR o)] rfl ?_
  refine vx_aload_n (i := 0) (pc' := 1) dX3_init_0 rfl rfl rfl ?_
  refine vx_obj (pc' := 4) dX3_init_1 rfl wm_137 (by omega) (by decide) (by decide) ?_
  refine vx_ret dX3_init_4 rfl (Nat.le_of_ble_eq_true rfl) (Nat.le_of_ble_eq_true rfl) ?_
  skip
  exact k1 Z
theorem k_X5_init (Z : SZ n Sh σ) (h2 : 2 ≤ o) (hs : Sh[o]? = some (.inr 5)) (k1 : SZ (n + 7) (Sh ++ [.inl (.int, 1600), .inl (.int, 3), .inl (.int, 18), .inl (.int, 18), .inl (.int, 18), .inl (.int, 6), .inl (.int, 64)]) (wr (wr (wr (wr (wr (wr (wr σ o 0 ((n : Nat) : Int)) o 2 (((n + 1) : Nat) : Int)) o 3 (((n + 2) : Nat) : Int)) o 4 (((n + 3) : Nat) : Int)) o 5 (((n + 4) : Nat) : Int)) o 6 (((n + 5) : Nat) : Int)) o 7 (((n + 6) : Nat) : Int)) → Q none (Sh ++ [.inl (.int, 1600), .inl (.int, 3), .inl (.int, 18), .inl (.int, 18), .inl (.int, 18), .inl (.int, 6), .inl (.int, 64)]) (wr (wr (wr (wr (wr (wr (wr σ o 0 ((n : Nat) : Int)) o 2 (((n + 1) : Nat) : Int)) o 3 (((n + 2) : Nat) : Int)) o 4 (((n + 3) : Nat) : Int)) o 5 (((n + 4) : Nat) : Int)) o 6 (((n + 5) : Nat) : Int)) o 7 (((n + 6) : Nat) : Int))) : vmX X E 1 7 1727 qX5_init [vR o] Sh σ Q := by
  have ho : o < n := by rw [← Z.1]; exact (List.getElem?_eq_some_iff.mp hs).1
  refine vmX_of rfl (Nat.le_of_ble_eq_true rfl) [some (vR o)] rfl ?_
  refine vx_aload_n (i := 0) (pc' := 1) dX5_init_0 rfl rfl rfl ?_
  refine vx_obj (pc' := 4) dX5_init_1 rfl wm_43 (by omega) (by decide) (by decide) ?_
  refine vx_aload_n (i := 0) (pc' := 5) dX5_init_4 rfl rfl rfl ?_
  refine vx_sipush (pc' := 8) dX5_init_5 rfl (by decide) ?_
  refine z_newa (ty := .int) (t0 := 0) (N := 1600) (pc' := 10) Z dX5_init_8 rfl rfl (Or.inl rfl) wm_72 (fun _ => rfl) rfl (by decide) (Nat.le_of_ble_eq_true rfl) (Nat.le_of_ble_eq_true rfl) (fun Z g0 => ?_)
  refine z_putFR (pc' := 13) Z dX5_init_10 rfl ⟨RX5, TX5, 9, rfl, (by decide : 0 < 9), rfl, rfl, wm_44⟩ rfl rfl h2 (hs_app hs) (fun Z => ?_)
  refine vx_aload_n (i := 0) (pc' := 14) dX5_init_13 rfl rfl rfl ?_
  refine vx_iconst (pc' := 15) dX5_init_14 rfl ?_
  refine z_newa (ty := .int) (t0 := 0) (N := 3) (pc' := 17) Z dX5_init_15 rfl rfl (Or.inl rfl) wm_72 (fun _ => rfl) rfl (by decide) (Nat.le_of_ble_eq_true rfl) (Nat.le_of_ble_eq_true rfl) (fun Z g1 => ?_)
  refine z_putFR (pc' := 20) Z dX5_init_17 rfl ⟨RX5, TX5, 9, rfl, (by decide : 2 < 9), rfl, rfl, wm_46⟩ rfl rfl h2 (hs_app (hs_app hs)) (fun Z => ?_)
  refine vx_aload_n (i := 0) (pc' := 21) dX5_init_20 rfl rfl rfl ?_
  refine vx_bipush (pc' := 23) dX5_init_21 rfl (by decide) ?_
  refine z_newa (ty := .int) (t0 := 0) (N := 18) (pc' := 25) Z dX5_init_23 rfl rfl (Or.inl rfl) wm_72 (fun _ => rfl) rfl (by decide) (Nat.le_of_ble_eq_true rfl) (Nat.le_of_ble_eq_true rfl) (fun Z g2 => ?_)
  refine z_putFR (pc' := 28) Z dX5_init_25 rfl ⟨RX5, TX5, 9, rfl, (by decide : 3 < 9), rfl, rfl, wm_47⟩ rfl rfl h2 (hs_app (hs_app (hs_app hs))) (fun Z => ?_)
  refine vx_aload_n (i := 0) (pc' := 29) dX5_init_28 rfl rfl rfl ?_
  refine vx_bipush (pc' := 31) dX5_init_29 rfl (by decide) ?_
  refine z_newa (ty := .int) (t0 := 0) (N := 18) (pc' := 33) Z dX5_init_31 rfl rfl (Or.inl rfl) wm_72 (fun _ => rfl) rfl (by decide) (Nat.le_of_ble_eq_true rfl) (Nat.le_of_ble_eq_true rfl) (fun Z g3 => ?_)
  refine z_putFR (pc' := 36) Z dX5_init_33 rfl ⟨RX5, TX5, 9, rfl, (by decide : 4 < 9), rfl, rfl, wm_48⟩ rfl rfl h2 (hs_app (hs_app (hs_app (hs_app hs)))) (fun Z => ?_)
  refine vx_aload_n (i := 0) (pc' := 37) dX5_init_36 rfl rfl rfl ?_
  refine vx_bipush (pc' := 39) dX5_init_37 rfl (by decide) ?_
  refine z_newa (ty := .int) (t0 := 0) (N := 18) (pc' := 41) Z dX5_init_39 rfl rfl (Or.inl rfl) wm_72 (fun _ => rfl) rfl (by decide) (Nat.le_of_ble_eq_true rfl) (Nat.le_of_ble_eq_true rfl) (fun Z g4 => ?_)
  refine z_putFR (pc' := 44) Z dX5_init_41 rfl ⟨RX5, TX5, 9, rfl, (by decide : 5 < 9), rfl, rfl, wm_49⟩ rfl rfl h2 (hs_app (hs_app (hs_app (hs_app (hs_app hs))))) (fun Z => ?_)
  refine vx_aload_n (i := 0) (pc' := 45) dX5_init_44 rfl rfl rfl ?_
  refine vx_bipush (pc' := 47) dX5_init_45 rfl (by decide) ?_
  refine z_newa (ty := .int) (t0 := 0) (N := 6) (pc' := 49) Z dX5_init_47 rfl rfl (Or.inl rfl) wm_72 (fun _ => rfl) rfl (by decide) (Nat.le_of_ble_eq_true rfl) (Nat.le_of_ble_eq_true rfl) (fun Z g5 => ?_)
  refine z_putFR (pc' := 52) Z dX5_init_49 rfl ⟨RX5, TX5, 9, rfl, (by decide : 6 < 9), rfl, rfl, wm_50⟩ rfl rfl h2 (hs_app (hs_app (hs_app (hs_app (hs_app (hs_app hs)))))) (fun Z => ?_)
  refine vx_aload_n (i := 0) (pc' := 53) dX5_init_52 rfl rfl rfl ?_
  refine vx_bipush (pc' := 55) dX5_init_53 rfl (by decide) ?_
  refine z_newa (ty := .int) (t0 := 0) (N := 64) (pc' := 57) Z dX5_init_55 rfl rfl (Or.inl rfl) wm_72 (fun _ => rfl) rfl (by decide) (Nat.le_of_ble_eq_true rfl) (Nat.le_of_ble_eq_true rfl) (fun Z g6 => ?_)
  refine z_putFR (pc' := 60) Z dX5_init_57 rfl ⟨RX5, TX5, 9, rfl, (by decide : 7 < 9), rfl, rfl, wm_51⟩ rfl rfl h2 (hs_app (hs_app (hs_app (hs_app (hs_app (hs_app (hs_app hs))))))) (fun Z => ?_)
  refine vx_ret dX5_init_60 rfl (Nat.le_of_ble_eq_true rfl) (Nat.le_of_ble_eq_true rfl) ?_
  simp only [List.append_assoc, List.cons_append, List.nil_append] at Z ⊢
  exact k1 Z
theorem k_X1_init (Z : SZ n Sh σ) (h2 : 2 ≤ o) (hs : Sh[o]? = some (.inr 1)) (k1 : SZ (n + 1) (Sh ++ [.inl (.boolean, 125)]) (wr (wr (wr σ o 0 ((n : Nat) : Int)) o 1 2) o 2 2) → Q none (Sh ++ [.inl (.boolean, 125)]) (wr (wr (wr σ o 0 ((n : Nat) : Int)) o 1 2) o 2 2)) : vmX X E 1 1 125 qX1_init [vR o] Sh σ Q := by
  have ho : o < n := by rw [← Z.1]; exact (List.getElem?_eq_some_iff.mp hs).1
  refine vmX_of rfl (Nat.le_of_ble_eq_true rfl) [some (vR o)] rfl ?_
  refine vx_aload_n (i := 0) (pc' := 1) dX1_init_0 rfl rfl rfl ?_
  refine vx_obj (pc' := 4) dX1_init_1 rfl wm_444 (by omega) (by decide) (by decide) ?_
  refine vx_aload_n (i := 0) (pc' := 5) dX1_init_4 rfl rfl rfl ?_
  refine vx_bipush (pc' := 7) dX1_init_5 rfl (by decide) ?_
  refine z_newa (ty := .boolean) (t0 := 2) (N := 125) (pc' := 9) Z dX1_init_7 rfl rfl (Or.inr (Or.inr rfl)) wm_458 (fun _ => rfl) rfl (by decide) (Nat.le_of_ble_eq_true rfl) (Nat.le_of_ble_eq_true rfl) (fun Z g0 => ?_)
  refine z_putFR (pc' := 12) Z dX1_init_9 rfl ⟨RX1, TX1, 4, rfl, (by decide : 0 < 4), rfl, rfl, wm_445⟩ rfl rfl h2 (hs_app hs) (fun Z => ?_)
  refine vx_aload_n (i := 0) (pc' := 13) dX1_init_12 rfl rfl rfl ?_
  refine vx_iconst (pc' := 14) dX1_init_13 rfl ?_
  refine z_putI (pc' := 17) Z dX1_init_14 rfl fl_TuneDoor_Forms_15 rfl rfl h2 (hs_app hs) ⟨by decide, by decide⟩ (fun Z => ?_)
  refine vx_aload_n (i := 0) (pc' := 18) dX1_init_17 rfl rfl rfl ?_
  refine vx_iconst (pc' := 19) dX1_init_18 rfl ?_
  refine z_putI (pc' := 22) Z dX1_init_19 rfl fl_TuneDoor_Forms_19 rfl rfl h2 (hs_app hs) ⟨by decide, by decide⟩ (fun Z => ?_)
  refine vx_ret dX1_init_22 rfl (Nat.le_of_ble_eq_true rfl) (Nat.le_of_ble_eq_true rfl) ?_
  skip
  exact k1 Z
theorem k_X4_init {a0 : Nat} (Z : SZ n Sh σ) (h2 : 2 ≤ o) (hs : Sh[o]? = some (.inr 4)) (k1 : SZ n Sh (wr (wr σ o 8 (-1)) o 0 ((a0 : Nat) : Int)) → Q none Sh (wr (wr σ o 8 (-1)) o 0 ((a0 : Nat) : Int))) : vmX X E 1 0 0 qX4_init [vR o, vR a0] Sh σ Q := by
  have ho : o < n := by rw [← Z.1]; exact (List.getElem?_eq_some_iff.mp hs).1
  refine vmX_of rfl (Nat.le_of_ble_eq_true rfl) [some (vR o), some (vR a0)] rfl ?_
  refine vx_aload_n (i := 0) (pc' := 1) dX4_init_0 rfl rfl rfl ?_
  refine vx_obj (pc' := 4) dX4_init_1 rfl wm_332 (by omega) (by decide) (by decide) ?_
  refine vx_aload_n (i := 0) (pc' := 5) dX4_init_4 rfl rfl rfl ?_
  refine vx_iconst (pc' := 6) dX4_init_5 rfl ?_
  refine z_putI (pc' := 9) Z dX4_init_6 rfl fl_TuneDoor_Reader_9 rfl rfl h2 hs ⟨by decide, by decide⟩ (fun Z => ?_)
  refine vx_aload_n (i := 0) (pc' := 10) dX4_init_9 rfl rfl rfl ?_
  refine vx_aload_n (i := 1) (pc' := 11) dX4_init_10 rfl rfl rfl ?_
  refine z_putFR (pc' := 14) Z dX4_init_11 rfl ⟨RX4, TX4, 9, rfl, (by decide : 0 < 9), rfl, rfl, wm_333⟩ rfl rfl h2 hs (fun Z => ?_)
  refine vx_ret dX4_init_14 rfl (Nat.le_of_ble_eq_true rfl) (Nat.le_of_ble_eq_true rfl) ?_
  skip
  exact k1 Z
theorem k_X7_init {a0 : Nat} (Z : SZ n Sh σ) (h2 : 2 ≤ o) (hs : Sh[o]? = some (.inr 7)) (k1 : SZ (n + 2) (Sh ++ [.inl (.int, 7776), .inl (.int, 123)]) (wr (wr (wr (wr σ o 1 ((n : Nat) : Int)) o 2 1000) o 3 (((n + 1) : Nat) : Int)) o 0 ((a0 : Nat) : Int)) → Q none (Sh ++ [.inl (.int, 7776), .inl (.int, 123)]) (wr (wr (wr (wr σ o 1 ((n : Nat) : Int)) o 2 1000) o 3 (((n + 1) : Nat) : Int)) o 0 ((a0 : Nat) : Int))) : vmX X E 1 2 7899 qX7_init [vR o, vR a0] Sh σ Q := by
  have ho : o < n := by rw [← Z.1]; exact (List.getElem?_eq_some_iff.mp hs).1
  refine vmX_of rfl (Nat.le_of_ble_eq_true rfl) [some (vR o), some (vR a0)] rfl ?_
  refine vx_aload_n (i := 0) (pc' := 1) dX7_init_0 rfl rfl rfl ?_
  refine vx_obj (pc' := 4) dX7_init_1 rfl wm_425 (by omega) (by decide) (by decide) ?_
  refine vx_aload_n (i := 0) (pc' := 5) dX7_init_4 rfl rfl rfl ?_
  refine vx_sipush (pc' := 8) dX7_init_5 rfl (by decide) ?_
  refine z_newa (ty := .int) (t0 := 0) (N := 7776) (pc' := 10) Z dX7_init_8 rfl rfl (Or.inl rfl) wm_72 (fun _ => rfl) rfl (by decide) (Nat.le_of_ble_eq_true rfl) (Nat.le_of_ble_eq_true rfl) (fun Z g0 => ?_)
  refine z_putFR (pc' := 13) Z dX7_init_10 rfl ⟨RX7, TX7, 4, rfl, (by decide : 1 < 4), rfl, rfl, wm_427⟩ rfl rfl h2 (hs_app hs) (fun Z => ?_)
  refine vx_aload_n (i := 0) (pc' := 14) dX7_init_13 rfl rfl rfl ?_
  refine vx_sipush (pc' := 17) dX7_init_14 rfl (by decide) ?_
  refine z_putI (pc' := 20) Z dX7_init_17 rfl fl_TuneDoor_TuneSet_15 rfl rfl h2 (hs_app hs) ⟨by decide, by decide⟩ (fun Z => ?_)
  refine vx_aload_n (i := 0) (pc' := 21) dX7_init_20 rfl rfl rfl ?_
  refine vx_bipush (pc' := 23) dX7_init_21 rfl (by decide) ?_
  refine z_newa (ty := .int) (t0 := 0) (N := 123) (pc' := 25) Z dX7_init_23 rfl rfl (Or.inl rfl) wm_72 (fun _ => rfl) rfl (by decide) (Nat.le_of_ble_eq_true rfl) (Nat.le_of_ble_eq_true rfl) (fun Z g1 => ?_)
  refine z_putFR (pc' := 28) Z dX7_init_25 rfl ⟨RX7, TX7, 4, rfl, (by decide : 3 < 4), rfl, rfl, wm_429⟩ rfl rfl h2 (hs_app (hs_app hs)) (fun Z => ?_)
  refine vx_aload_n (i := 0) (pc' := 29) dX7_init_28 rfl rfl rfl ?_
  refine vx_aload_n (i := 1) (pc' := 30) dX7_init_29 rfl rfl rfl ?_
  refine z_putFR (pc' := 33) Z dX7_init_30 rfl ⟨RX7, TX7, 4, rfl, (by decide : 0 < 4), rfl, rfl, wm_426⟩ rfl rfl h2 (hs_app (hs_app hs)) (fun Z => ?_)
  refine vx_ret dX7_init_33 rfl (Nat.le_of_ble_eq_true rfl) (Nat.le_of_ble_eq_true rfl) ?_
  simp only [List.append_assoc, List.cons_append, List.nil_append] at Z ⊢
  exact k1 Z
theorem k_X9_init (hXA : ∀ s, X s → (Cond.arrayOver (.array .int)).before #[] s = true) (Z : SZ n Sh σ) (h2 : 2 ≤ o) (hs : Sh[o]? = some (.inr 9)) (k1 : SZ (n + 12) (Sh ++ [.inl (.array .int, 3), .inl (.int, 1000), .inl (.int, 1000), .inl (.int, 1000), .inl (.array .int, 3), .inl (.int, 1000), .inl (.int, 1000), .inl (.int, 1000), .inl (.array .int, 3), .inl (.int, 1000), .inl (.int, 1000), .inl (.int, 1000)]) (wr (mul3 (wr (mul3 (wr (mul3 σ n) o 0 ((n : Nat) : Int)) (n + 4)) o 1 (((n + 4) : Nat) : Int)) (n + 8)) o 2 (((n + 8) : Nat) : Int)) → Q none (Sh ++ [.inl (.array .int, 3), .inl (.int, 1000), .inl (.int, 1000), .inl (.int, 1000), .inl (.array .int, 3), .inl (.int, 1000), .inl (.int, 1000), .inl (.int, 1000), .inl (.array .int, 3), .inl (.int, 1000), .inl (.int, 1000), .inl (.int, 1000)]) (wr (mul3 (wr (mul3 (wr (mul3 σ n) o 0 ((n : Nat) : Int)) (n + 4)) o 1 (((n + 4) : Nat) : Int)) (n + 8)) o 2 (((n + 8) : Nat) : Int))) : vmX X E 1 12 9009 qX9_init [vR o] Sh σ Q := by
  have ho : o < n := by rw [← Z.1]; exact (List.getElem?_eq_some_iff.mp hs).1
  refine vmX_of rfl (Nat.le_of_ble_eq_true rfl) [some (vR o)] rfl ?_
  refine vx_aload_n (i := 0) (pc' := 1) dX9_init_0 rfl rfl rfl ?_
  refine vx_obj (pc' := 4) dX9_init_1 rfl wm_368 (by omega) (by decide) (by decide) ?_
  refine vx_aload_n (i := 0) (pc' := 5) dX9_init_4 rfl rfl rfl ?_
  refine vx_iconst (pc' := 6) dX9_init_5 rfl ?_
  refine vx_sipush (pc' := 9) dX9_init_6 rfl (by decide) ?_
  refine z_multi (pc' := 13) Z dX9_init_9 rfl wm_369 hXA (Nat.le_of_ble_eq_true rfl) (Nat.le_of_ble_eq_true rfl) (fun Z => ?_)
  refine z_putFR (pc' := 16) Z dX9_init_13 rfl ⟨RX9, TX9, 6, rfl, (by decide : 0 < 6), rfl, rfl, wm_371⟩ rfl rfl h2 (hs_app hs) (fun Z => ?_)
  refine vx_aload_n (i := 0) (pc' := 17) dX9_init_16 rfl rfl rfl ?_
  refine vx_iconst (pc' := 18) dX9_init_17 rfl ?_
  refine vx_sipush (pc' := 21) dX9_init_18 rfl (by decide) ?_
  refine z_multi (pc' := 25) Z dX9_init_21 rfl wm_369 hXA (Nat.le_of_ble_eq_true rfl) (Nat.le_of_ble_eq_true rfl) (fun Z => ?_)
  refine z_putFR (pc' := 28) Z dX9_init_25 rfl ⟨RX9, TX9, 6, rfl, (by decide : 1 < 6), rfl, rfl, wm_372⟩ rfl rfl h2 (hs_app (hs_app hs)) (fun Z => ?_)
  refine vx_aload_n (i := 0) (pc' := 29) dX9_init_28 rfl rfl rfl ?_
  refine vx_iconst (pc' := 30) dX9_init_29 rfl ?_
  refine vx_sipush (pc' := 33) dX9_init_30 rfl (by decide) ?_
  refine z_multi (pc' := 37) Z dX9_init_33 rfl wm_369 hXA (Nat.le_of_ble_eq_true rfl) (Nat.le_of_ble_eq_true rfl) (fun Z => ?_)
  refine z_putFR (pc' := 40) Z dX9_init_37 rfl ⟨RX9, TX9, 6, rfl, (by decide : 2 < 6), rfl, rfl, wm_373⟩ rfl rfl h2 (hs_app (hs_app (hs_app hs))) (fun Z => ?_)
  refine vx_ret dX9_init_40 rfl (Nat.le_of_ble_eq_true rfl) (Nat.le_of_ble_eq_true rfl) ?_
  simp only [List.append_assoc, List.cons_append, List.nil_append] at Z ⊢
  exact k1 Z
theorem k_X11_init (Z : SZ n Sh σ) (h2 : 2 ≤ o) (hs : Sh[o]? = some (.inr 11)) (k1 : SZ (n + 53) (Sh ++ [.inl (.int, 1800), .inl (.int, 2), .inl (.int, 2), .inl (.int, 2), .inl (.long, 6), .inl (.int, 30), .inl (.int, 6), .inl (.int, 6), .inl (.int, 36), .inl (.int, 36), .inl (.int, 36), .inl (.int, 2), .inl (.long, 8), .inl (.int, 8), .inl (.int, 8), .inl (.int, 8), .inl (.int, 2), .inl (.long, 8), .inl (.int, 8), .inl (.int, 8), .inl (.int, 8), .inl (.int, 8), .inl (.int, 2), .inl (.int, 2), .inl (.int, 3200), .inl (.int, 3200), .inl (.int, 20), .inl (.int, 20), .inl (.boolean, 20), .inl (.int, 20), .inl (.int, 20), .inl (.int, 500), .inl (.int, 6), .inl (.long, 1650), .inl (.int, 10), .inl (.int, 15000), .inl (.int, 3000), .inl (.int, 3000), .inl (.int, 4), .inl (.int, 4), .inl (.int, 4), .inl (.int, 12), .inl (.int, 12), .inl (.int, 12), .inl (.int, 4), .inl (.int, 4), .inl (.int, 4), .inl (.int, 5), .inl (.int, 4), .inl (.int, 12), .inl (.int, 12), .inl (.int, 12), .inl (.int, 80)]) (wr (wr (wr (wr (wr (wr (wr (wr (wr (wr (wr (wr (wr (wr (wr (wr (wr (wr (wr (wr (wr (wr (wr (wr (wr (wr (wr (wr (wr (wr (wr (wr (wr (wr (wr (wr (wr (wr (wr (wr (wr (wr (wr (wr (wr (wr (wr (wr (wr (wr (wr (wr (wr (wr (wr (wr (wr (wr (wr (wr (wr (wr (wr (wr (wr (wr (wr (wr (wr (wr (wr (wr (wr (wr (wr (wr σ o 0 ((n : Nat) : Int)) o 1 0) o 2 0) o 3 0) o 4 0) o 5 0) o 6 0) o 7 0) o 8 0) o 9 (-1)) o 10 0) o 11 (-1)) o 12 0) o 13 (((n + 1) : Nat) : Int)) o 14 (((n + 2) : Nat) : Int)) o 15 (((n + 3) : Nat) : Int)) o 16 (((n + 4) : Nat) : Int)) o 17 (((n + 5) : Nat) : Int)) o 18 (((n + 6) : Nat) : Int)) o 19 (((n + 7) : Nat) : Int)) o 20 (((n + 8) : Nat) : Int)) o 21 (((n + 9) : Nat) : Int)) o 22 (((n + 10) : Nat) : Int)) o 23 (((n + 11) : Nat) : Int)) o 24 (((n + 12) : Nat) : Int)) o 25 (((n + 13) : Nat) : Int)) o 26 (((n + 14) : Nat) : Int)) o 27 (((n + 15) : Nat) : Int)) o 28 (((n + 16) : Nat) : Int)) o 29 (((n + 17) : Nat) : Int)) o 30 (((n + 18) : Nat) : Int)) o 31 (((n + 19) : Nat) : Int)) o 32 (((n + 20) : Nat) : Int)) o 33 (((n + 21) : Nat) : Int)) o 34 (((n + 22) : Nat) : Int)) o 35 (((n + 23) : Nat) : Int)) o 36 (((n + 24) : Nat) : Int)) o 37 (((n + 25) : Nat) : Int)) o 38 0) o 39 1) o 40 (((n + 26) : Nat) : Int)) o 41 (((n + 27) : Nat) : Int)) o 42 (((n + 28) : Nat) : Int)) o 43 (((n + 29) : Nat) : Int)) o 44 (((n + 30) : Nat) : Int)) o 45 0) o 46 0) o 47 (((n + 31) : Nat) : Int)) o 48 0) o 49 0) o 50 (((n + 32) : Nat) : Int)) o 51 (((n + 33) : Nat) : Int)) o 52 (((n + 34) : Nat) : Int)) o 53 (((n + 35) : Nat) : Int)) o 54 (((n + 36) : Nat) : Int)) o 55 (((n + 37) : Nat) : Int)) o 56 (((n + 38) : Nat) : Int)) o 57 (((n + 39) : Nat) : Int)) o 58 (((n + 40) : Nat) : Int)) o 59 (((n + 41) : Nat) : Int)) o 60 (((n + 42) : Nat) : Int)) o 61 (((n + 43) : Nat) : Int)) o 62 (((n + 44) : Nat) : Int)) o 63 (((n + 45) : Nat) : Int)) o 64 (((n + 46) : Nat) : Int)) o 65 (((n + 47) : Nat) : Int)) o 66 0) o 67 (((n + 48) : Nat) : Int)) o 68 (((n + 49) : Nat) : Int)) o 69 (((n + 50) : Nat) : Int)) o 70 (((n + 51) : Nat) : Int)) o 71 1) o 72 (((n + 52) : Nat) : Int)) o 73 0) (n + 22) 0 1) (n + 23) 0 1) → Q none (Sh ++ [.inl (.int, 1800), .inl (.int, 2), .inl (.int, 2), .inl (.int, 2), .inl (.long, 6), .inl (.int, 30), .inl (.int, 6), .inl (.int, 6), .inl (.int, 36), .inl (.int, 36), .inl (.int, 36), .inl (.int, 2), .inl (.long, 8), .inl (.int, 8), .inl (.int, 8), .inl (.int, 8), .inl (.int, 2), .inl (.long, 8), .inl (.int, 8), .inl (.int, 8), .inl (.int, 8), .inl (.int, 8), .inl (.int, 2), .inl (.int, 2), .inl (.int, 3200), .inl (.int, 3200), .inl (.int, 20), .inl (.int, 20), .inl (.boolean, 20), .inl (.int, 20), .inl (.int, 20), .inl (.int, 500), .inl (.int, 6), .inl (.long, 1650), .inl (.int, 10), .inl (.int, 15000), .inl (.int, 3000), .inl (.int, 3000), .inl (.int, 4), .inl (.int, 4), .inl (.int, 4), .inl (.int, 12), .inl (.int, 12), .inl (.int, 12), .inl (.int, 4), .inl (.int, 4), .inl (.int, 4), .inl (.int, 5), .inl (.int, 4), .inl (.int, 12), .inl (.int, 12), .inl (.int, 12), .inl (.int, 80)]) (wr (wr (wr (wr (wr (wr (wr (wr (wr (wr (wr (wr (wr (wr (wr (wr (wr (wr (wr (wr (wr (wr (wr (wr (wr (wr (wr (wr (wr (wr (wr (wr (wr (wr (wr (wr (wr (wr (wr (wr (wr (wr (wr (wr (wr (wr (wr (wr (wr (wr (wr (wr (wr (wr (wr (wr (wr (wr (wr (wr (wr (wr (wr (wr (wr (wr (wr (wr (wr (wr (wr (wr (wr (wr (wr (wr σ o 0 ((n : Nat) : Int)) o 1 0) o 2 0) o 3 0) o 4 0) o 5 0) o 6 0) o 7 0) o 8 0) o 9 (-1)) o 10 0) o 11 (-1)) o 12 0) o 13 (((n + 1) : Nat) : Int)) o 14 (((n + 2) : Nat) : Int)) o 15 (((n + 3) : Nat) : Int)) o 16 (((n + 4) : Nat) : Int)) o 17 (((n + 5) : Nat) : Int)) o 18 (((n + 6) : Nat) : Int)) o 19 (((n + 7) : Nat) : Int)) o 20 (((n + 8) : Nat) : Int)) o 21 (((n + 9) : Nat) : Int)) o 22 (((n + 10) : Nat) : Int)) o 23 (((n + 11) : Nat) : Int)) o 24 (((n + 12) : Nat) : Int)) o 25 (((n + 13) : Nat) : Int)) o 26 (((n + 14) : Nat) : Int)) o 27 (((n + 15) : Nat) : Int)) o 28 (((n + 16) : Nat) : Int)) o 29 (((n + 17) : Nat) : Int)) o 30 (((n + 18) : Nat) : Int)) o 31 (((n + 19) : Nat) : Int)) o 32 (((n + 20) : Nat) : Int)) o 33 (((n + 21) : Nat) : Int)) o 34 (((n + 22) : Nat) : Int)) o 35 (((n + 23) : Nat) : Int)) o 36 (((n + 24) : Nat) : Int)) o 37 (((n + 25) : Nat) : Int)) o 38 0) o 39 1) o 40 (((n + 26) : Nat) : Int)) o 41 (((n + 27) : Nat) : Int)) o 42 (((n + 28) : Nat) : Int)) o 43 (((n + 29) : Nat) : Int)) o 44 (((n + 30) : Nat) : Int)) o 45 0) o 46 0) o 47 (((n + 31) : Nat) : Int)) o 48 0) o 49 0) o 50 (((n + 32) : Nat) : Int)) o 51 (((n + 33) : Nat) : Int)) o 52 (((n + 34) : Nat) : Int)) o 53 (((n + 35) : Nat) : Int)) o 54 (((n + 36) : Nat) : Int)) o 55 (((n + 37) : Nat) : Int)) o 56 (((n + 38) : Nat) : Int)) o 57 (((n + 39) : Nat) : Int)) o 58 (((n + 40) : Nat) : Int)) o 59 (((n + 41) : Nat) : Int)) o 60 (((n + 42) : Nat) : Int)) o 61 (((n + 43) : Nat) : Int)) o 62 (((n + 44) : Nat) : Int)) o 63 (((n + 45) : Nat) : Int)) o 64 (((n + 46) : Nat) : Int)) o 65 (((n + 47) : Nat) : Int)) o 66 0) o 67 (((n + 48) : Nat) : Int)) o 68 (((n + 49) : Nat) : Int)) o 69 (((n + 50) : Nat) : Int)) o 70 (((n + 51) : Nat) : Int)) o 71 1) o 72 (((n + 52) : Nat) : Int)) o 73 0) (n + 22) 0 1) (n + 23) 0 1)) : vmX X E 1 53 31893 qX11_init [vR o] Sh σ Q := by
  have ho : o < n := by rw [← Z.1]; exact (List.getElem?_eq_some_iff.mp hs).1
  refine vmX_of rfl (Nat.le_of_ble_eq_true rfl) [some (vR o)] rfl ?_
  refine vx_aload_n (i := 0) (pc' := 1) dX11_init_0 rfl rfl rfl ?_
  refine vx_obj (pc' := 4) dX11_init_1 rfl wm_1223 (by omega) (by decide) (by decide) ?_
  refine vx_aload_n (i := 0) (pc' := 5) dX11_init_4 rfl rfl rfl ?_
  refine vx_sipush (pc' := 8) dX11_init_5 rfl (by decide) ?_
  refine z_newa (ty := .int) (t0 := 0) (N := 1800) (pc' := 10) Z dX11_init_8 rfl rfl (Or.inl rfl) wm_72 (fun _ => rfl) rfl (by decide) (Nat.le_of_ble_eq_true rfl) (Nat.le_of_ble_eq_true rfl) (fun Z g0 => ?_)
  refine z_putFR (pc' := 13) Z dX11_init_10 rfl ⟨RX11, TX11, 74, rfl, (by decide : 0 < 74), rfl, rfl, wm_1224⟩ rfl rfl h2 (hs_app hs) (fun Z => ?_)
  refine vx_aload_n (i := 0) (pc' := 14) dX11_init_13 rfl rfl rfl ?_
  refine vx_iconst (pc' := 15) dX11_init_14 rfl ?_
  refine z_putI (pc' := 18) Z dX11_init_15 rfl fl_TuneDoorModel_13 rfl rfl h2 (hs_app hs) ⟨by decide, by decide⟩ (fun Z => ?_)
  refine vx_aload_n (i := 0) (pc' := 19) dX11_init_18 rfl rfl rfl ?_
  refine vx_iconst (pc' := 20) dX11_init_19 rfl ?_
  refine z_putI (pc' := 23) Z dX11_init_20 rfl fl_TuneDoorModel_17 rfl rfl h2 (hs_app hs) ⟨by decide, by decide⟩ (fun Z => ?_)
  refine vx_aload_n (i := 0) (pc' := 24) dX11_init_23 rfl rfl rfl ?_
  refine vx_iconst (pc' := 25) dX11_init_24 rfl ?_
  refine z_putI (pc' := 28) Z dX11_init_25 rfl fl_TuneDoorModel_20 rfl rfl h2 (hs_app hs) ⟨by decide, by decide⟩ (fun Z => ?_)
  refine vx_aload_n (i := 0) (pc' := 29) dX11_init_28 rfl rfl rfl ?_
  refine vx_iconst (pc' := 30) dX11_init_29 rfl ?_
  refine z_putI (pc' := 33) Z dX11_init_30 rfl fl_TuneDoorModel_23 rfl rfl h2 (hs_app hs) ⟨by decide, by decide⟩ (fun Z => ?_)
  refine vx_aload_n (i := 0) (pc' := 34) dX11_init_33 rfl rfl rfl ?_
  refine vx_iconst (pc' := 35) dX11_init_34 rfl ?_
  refine z_putI (pc' := 38) Z dX11_init_35 rfl fl_TuneDoorModel_26 rfl rfl h2 (hs_app hs) ⟨by decide, by decide⟩ (fun Z => ?_)
  refine vx_aload_n (i := 0) (pc' := 39) dX11_init_38 rfl rfl rfl ?_
  refine vx_iconst (pc' := 40) dX11_init_39 rfl ?_
  refine z_putI (pc' := 43) Z dX11_init_40 rfl fl_TuneDoorModel_29 rfl rfl h2 (hs_app hs) ⟨by decide, by decide⟩ (fun Z => ?_)
  refine vx_aload_n (i := 0) (pc' := 44) dX11_init_43 rfl rfl rfl ?_
  refine vx_lconst (z := 0) (pc' := 45) dX11_init_44 rfl (by decide) ?_
  refine z_putL (pc' := 48) Z dX11_init_45 rfl fl_TuneDoorModel_32 rfl rfl h2 (hs_app hs) (fun Z => ?_)
  refine vx_aload_n (i := 0) (pc' := 49) dX11_init_48 rfl rfl rfl ?_
  refine vx_iconst (pc' := 50) dX11_init_49 rfl ?_
  refine z_putI (pc' := 53) Z dX11_init_50 rfl fl_TuneDoorModel_36 rfl rfl h2 (hs_app hs) ⟨by decide, by decide⟩ (fun Z => ?_)
  refine vx_aload_n (i := 0) (pc' := 54) dX11_init_53 rfl rfl rfl ?_
  refine vx_iconst (pc' := 55) dX11_init_54 rfl ?_
  refine z_putI (pc' := 58) Z dX11_init_55 rfl fl_TuneDoorModel_39 rfl rfl h2 (hs_app hs) ⟨by decide, by decide⟩ (fun Z => ?_)
  refine vx_aload_n (i := 0) (pc' := 59) dX11_init_58 rfl rfl rfl ?_
  refine vx_iconst (pc' := 60) dX11_init_59 rfl ?_
  refine z_putI (pc' := 63) Z dX11_init_60 rfl fl_TuneDoorModel_42 rfl rfl h2 (hs_app hs) ⟨by decide, by decide⟩ (fun Z => ?_)
  refine vx_aload_n (i := 0) (pc' := 64) dX11_init_63 rfl rfl rfl ?_
  refine vx_iconst (pc' := 65) dX11_init_64 rfl ?_
  refine z_putI (pc' := 68) Z dX11_init_65 rfl fl_TuneDoorModel_45 rfl rfl h2 (hs_app hs) ⟨by decide, by decide⟩ (fun Z => ?_)
  refine vx_aload_n (i := 0) (pc' := 69) dX11_init_68 rfl rfl rfl ?_
  refine vx_iconst (pc' := 70) dX11_init_69 rfl ?_
  refine z_putI (pc' := 73) Z dX11_init_70 rfl fl_TuneDoorModel_48 rfl rfl h2 (hs_app hs) ⟨by decide, by decide⟩ (fun Z => ?_)
  refine vx_aload_n (i := 0) (pc' := 74) dX11_init_73 rfl rfl rfl ?_
  refine vx_iconst (pc' := 75) dX11_init_74 rfl ?_
  refine z_newa (ty := .int) (t0 := 0) (N := 2) (pc' := 77) Z dX11_init_75 rfl rfl (Or.inl rfl) wm_72 (fun _ => rfl) rfl (by decide) (Nat.le_of_ble_eq_true rfl) (Nat.le_of_ble_eq_true rfl) (fun Z g1 => ?_)
  refine z_putFR (pc' := 80) Z dX11_init_77 rfl ⟨RX11, TX11, 74, rfl, (by decide : 13 < 74), rfl, rfl, wm_1237⟩ rfl rfl h2 (hs_app (hs_app hs)) (fun Z => ?_)
  refine vx_aload_n (i := 0) (pc' := 81) dX11_init_80 rfl rfl rfl ?_
  refine vx_iconst (pc' := 82) dX11_init_81 rfl ?_
  refine z_newa (ty := .int) (t0 := 0) (N := 2) (pc' := 84) Z dX11_init_82 rfl rfl (Or.inl rfl) wm_72 (fun _ => rfl) rfl (by decide) (Nat.le_of_ble_eq_true rfl) (Nat.le_of_ble_eq_true rfl) (fun Z g2 => ?_)
  refine z_putFR (pc' := 87) Z dX11_init_84 rfl ⟨RX11, TX11, 74, rfl, (by decide : 14 < 74), rfl, rfl, wm_1238⟩ rfl rfl h2 (hs_app (hs_app (hs_app hs))) (fun Z => ?_)
  refine vx_aload_n (i := 0) (pc' := 88) dX11_init_87 rfl rfl rfl ?_
  refine vx_iconst (pc' := 89) dX11_init_88 rfl ?_
  refine z_newa (ty := .int) (t0 := 0) (N := 2) (pc' := 91) Z dX11_init_89 rfl rfl (Or.inl rfl) wm_72 (fun _ => rfl) rfl (by decide) (Nat.le_of_ble_eq_true rfl) (Nat.le_of_ble_eq_true rfl) (fun Z g3 => ?_)
  refine z_putFR (pc' := 94) Z dX11_init_91 rfl ⟨RX11, TX11, 74, rfl, (by decide : 15 < 74), rfl, rfl, wm_1239⟩ rfl rfl h2 (hs_app (hs_app (hs_app (hs_app hs)))) (fun Z => ?_)
  refine vx_aload_n (i := 0) (pc' := 95) dX11_init_94 rfl rfl rfl ?_
  refine vx_bipush (pc' := 97) dX11_init_95 rfl (by decide) ?_
  refine z_newa (ty := .long) (t0 := 1) (N := 6) (pc' := 99) Z dX11_init_97 rfl rfl (Or.inr (Or.inl rfl)) wm_1447 (fun _ => rfl) rfl (by decide) (Nat.le_of_ble_eq_true rfl) (Nat.le_of_ble_eq_true rfl) (fun Z g4 => ?_)
  refine z_putFR (pc' := 102) Z dX11_init_99 rfl ⟨RX11, TX11, 74, rfl, (by decide : 16 < 74), rfl, rfl, wm_1240⟩ rfl rfl h2 (hs_app (hs_app (hs_app (hs_app (hs_app hs))))) (fun Z => ?_)
  refine vx_aload_n (i := 0) (pc' := 103) dX11_init_102 rfl rfl rfl ?_
  refine vx_bipush (pc' := 105) dX11_init_103 rfl (by decide) ?_
  refine z_newa (ty := .int) (t0 := 0) (N := 30) (pc' := 107) Z dX11_init_105 rfl rfl (Or.inl rfl) wm_72 (fun _ => rfl) rfl (by decide) (Nat.le_of_ble_eq_true rfl) (Nat.le_of_ble_eq_true rfl) (fun Z g5 => ?_)
  refine z_putFR (pc' := 110) Z dX11_init_107 rfl ⟨RX11, TX11, 74, rfl, (by decide : 17 < 74), rfl, rfl, wm_1241⟩ rfl rfl h2 (hs_app (hs_app (hs_app (hs_app (hs_app (hs_app hs)))))) (fun Z => ?_)
  refine vx_aload_n (i := 0) (pc' := 111) dX11_init_110 rfl rfl rfl ?_
  refine vx_bipush (pc' := 113) dX11_init_111 rfl (by decide) ?_
  refine z_newa (ty := .int) (t0 := 0) (N := 6) (pc' := 115) Z dX11_init_113 rfl rfl (Or.inl rfl) wm_72 (fun _ => rfl) rfl (by decide) (Nat.le_of_ble_eq_true rfl) (Nat.le_of_ble_eq_true rfl) (fun Z g6 => ?_)
  refine z_putFR (pc' := 118) Z dX11_init_115 rfl ⟨RX11, TX11, 74, rfl, (by decide : 18 < 74), rfl, rfl, wm_1242⟩ rfl rfl h2 (hs_app (hs_app (hs_app (hs_app (hs_app (hs_app (hs_app hs))))))) (fun Z => ?_)
  refine vx_aload_n (i := 0) (pc' := 119) dX11_init_118 rfl rfl rfl ?_
  refine vx_bipush (pc' := 121) dX11_init_119 rfl (by decide) ?_
  refine z_newa (ty := .int) (t0 := 0) (N := 6) (pc' := 123) Z dX11_init_121 rfl rfl (Or.inl rfl) wm_72 (fun _ => rfl) rfl (by decide) (Nat.le_of_ble_eq_true rfl) (Nat.le_of_ble_eq_true rfl) (fun Z g7 => ?_)
  refine z_putFR (pc' := 126) Z dX11_init_123 rfl ⟨RX11, TX11, 74, rfl, (by decide : 19 < 74), rfl, rfl, wm_1243⟩ rfl rfl h2 (hs_app (hs_app (hs_app (hs_app (hs_app (hs_app (hs_app (hs_app hs)))))))) (fun Z => ?_)
  refine vx_aload_n (i := 0) (pc' := 127) dX11_init_126 rfl rfl rfl ?_
  refine vx_bipush (pc' := 129) dX11_init_127 rfl (by decide) ?_
  refine z_newa (ty := .int) (t0 := 0) (N := 36) (pc' := 131) Z dX11_init_129 rfl rfl (Or.inl rfl) wm_72 (fun _ => rfl) rfl (by decide) (Nat.le_of_ble_eq_true rfl) (Nat.le_of_ble_eq_true rfl) (fun Z g8 => ?_)
  refine z_putFR (pc' := 134) Z dX11_init_131 rfl ⟨RX11, TX11, 74, rfl, (by decide : 20 < 74), rfl, rfl, wm_1244⟩ rfl rfl h2 (hs_app (hs_app (hs_app (hs_app (hs_app (hs_app (hs_app (hs_app (hs_app hs))))))))) (fun Z => ?_)
  refine vx_aload_n (i := 0) (pc' := 135) dX11_init_134 rfl rfl rfl ?_
  refine vx_bipush (pc' := 137) dX11_init_135 rfl (by decide) ?_
  refine z_newa (ty := .int) (t0 := 0) (N := 36) (pc' := 139) Z dX11_init_137 rfl rfl (Or.inl rfl) wm_72 (fun _ => rfl) rfl (by decide) (Nat.le_of_ble_eq_true rfl) (Nat.le_of_ble_eq_true rfl) (fun Z g9 => ?_)
  refine z_putFR (pc' := 142) Z dX11_init_139 rfl ⟨RX11, TX11, 74, rfl, (by decide : 21 < 74), rfl, rfl, wm_1245⟩ rfl rfl h2 (hs_app (hs_app (hs_app (hs_app (hs_app (hs_app (hs_app (hs_app (hs_app (hs_app hs)))))))))) (fun Z => ?_)
  refine vx_aload_n (i := 0) (pc' := 143) dX11_init_142 rfl rfl rfl ?_
  refine vx_bipush (pc' := 145) dX11_init_143 rfl (by decide) ?_
  refine z_newa (ty := .int) (t0 := 0) (N := 36) (pc' := 147) Z dX11_init_145 rfl rfl (Or.inl rfl) wm_72 (fun _ => rfl) rfl (by decide) (Nat.le_of_ble_eq_true rfl) (Nat.le_of_ble_eq_true rfl) (fun Z g10 => ?_)
  refine z_putFR (pc' := 150) Z dX11_init_147 rfl ⟨RX11, TX11, 74, rfl, (by decide : 22 < 74), rfl, rfl, wm_1246⟩ rfl rfl h2 (hs_app (hs_app (hs_app (hs_app (hs_app (hs_app (hs_app (hs_app (hs_app (hs_app (hs_app hs))))))))))) (fun Z => ?_)
  refine vx_aload_n (i := 0) (pc' := 151) dX11_init_150 rfl rfl rfl ?_
  refine vx_iconst (pc' := 152) dX11_init_151 rfl ?_
  refine z_newa (ty := .int) (t0 := 0) (N := 2) (pc' := 154) Z dX11_init_152 rfl rfl (Or.inl rfl) wm_72 (fun _ => rfl) rfl (by decide) (Nat.le_of_ble_eq_true rfl) (Nat.le_of_ble_eq_true rfl) (fun Z g11 => ?_)
  refine z_putFR (pc' := 157) Z dX11_init_154 rfl ⟨RX11, TX11, 74, rfl, (by decide : 23 < 74), rfl, rfl, wm_1247⟩ rfl rfl h2 (hs_app (hs_app (hs_app (hs_app (hs_app (hs_app (hs_app (hs_app (hs_app (hs_app (hs_app (hs_app hs)))))))))))) (fun Z => ?_)
  refine vx_aload_n (i := 0) (pc' := 158) dX11_init_157 rfl rfl rfl ?_
  refine vx_bipush (pc' := 160) dX11_init_158 rfl (by decide) ?_
  refine z_newa (ty := .long) (t0 := 1) (N := 8) (pc' := 162) Z dX11_init_160 rfl rfl (Or.inr (Or.inl rfl)) wm_1447 (fun _ => rfl) rfl (by decide) (Nat.le_of_ble_eq_true rfl) (Nat.le_of_ble_eq_true rfl) (fun Z g12 => ?_)
  refine z_putFR (pc' := 165) Z dX11_init_162 rfl ⟨RX11, TX11, 74, rfl, (by decide : 24 < 74), rfl, rfl, wm_1248⟩ rfl rfl h2 (hs_app (hs_app (hs_app (hs_app (hs_app (hs_app (hs_app (hs_app (hs_app (hs_app (hs_app (hs_app (hs_app hs))))))))))))) (fun Z => ?_)
  refine vx_aload_n (i := 0) (pc' := 166) dX11_init_165 rfl rfl rfl ?_
  refine vx_bipush (pc' := 168) dX11_init_166 rfl (by decide) ?_
  refine z_newa (ty := .int) (t0 := 0) (N := 8) (pc' := 170) Z dX11_init_168 rfl rfl (Or.inl rfl) wm_72 (fun _ => rfl) rfl (by decide) (Nat.le_of_ble_eq_true rfl) (Nat.le_of_ble_eq_true rfl) (fun Z g13 => ?_)
  refine z_putFR (pc' := 173) Z dX11_init_170 rfl ⟨RX11, TX11, 74, rfl, (by decide : 25 < 74), rfl, rfl, wm_1249⟩ rfl rfl h2 (hs_app (hs_app (hs_app (hs_app (hs_app (hs_app (hs_app (hs_app (hs_app (hs_app (hs_app (hs_app (hs_app (hs_app hs)))))))))))))) (fun Z => ?_)
  refine vx_aload_n (i := 0) (pc' := 174) dX11_init_173 rfl rfl rfl ?_
  refine vx_bipush (pc' := 176) dX11_init_174 rfl (by decide) ?_
  refine z_newa (ty := .int) (t0 := 0) (N := 8) (pc' := 178) Z dX11_init_176 rfl rfl (Or.inl rfl) wm_72 (fun _ => rfl) rfl (by decide) (Nat.le_of_ble_eq_true rfl) (Nat.le_of_ble_eq_true rfl) (fun Z g14 => ?_)
  refine z_putFR (pc' := 181) Z dX11_init_178 rfl ⟨RX11, TX11, 74, rfl, (by decide : 26 < 74), rfl, rfl, wm_1250⟩ rfl rfl h2 (hs_app (hs_app (hs_app (hs_app (hs_app (hs_app (hs_app (hs_app (hs_app (hs_app (hs_app (hs_app (hs_app (hs_app (hs_app hs))))))))))))))) (fun Z => ?_)
  refine vx_aload_n (i := 0) (pc' := 182) dX11_init_181 rfl rfl rfl ?_
  refine vx_bipush (pc' := 184) dX11_init_182 rfl (by decide) ?_
  refine z_newa (ty := .int) (t0 := 0) (N := 8) (pc' := 186) Z dX11_init_184 rfl rfl (Or.inl rfl) wm_72 (fun _ => rfl) rfl (by decide) (Nat.le_of_ble_eq_true rfl) (Nat.le_of_ble_eq_true rfl) (fun Z g15 => ?_)
  refine z_putFR (pc' := 189) Z dX11_init_186 rfl ⟨RX11, TX11, 74, rfl, (by decide : 27 < 74), rfl, rfl, wm_1251⟩ rfl rfl h2 (hs_app (hs_app (hs_app (hs_app (hs_app (hs_app (hs_app (hs_app (hs_app (hs_app (hs_app (hs_app (hs_app (hs_app (hs_app (hs_app hs)))))))))))))))) (fun Z => ?_)
  refine vx_aload_n (i := 0) (pc' := 190) dX11_init_189 rfl rfl rfl ?_
  refine vx_iconst (pc' := 191) dX11_init_190 rfl ?_
  refine z_newa (ty := .int) (t0 := 0) (N := 2) (pc' := 193) Z dX11_init_191 rfl rfl (Or.inl rfl) wm_72 (fun _ => rfl) rfl (by decide) (Nat.le_of_ble_eq_true rfl) (Nat.le_of_ble_eq_true rfl) (fun Z g16 => ?_)
  refine z_putFR (pc' := 196) Z dX11_init_193 rfl ⟨RX11, TX11, 74, rfl, (by decide : 28 < 74), rfl, rfl, wm_1252⟩ rfl rfl h2 (hs_app (hs_app (hs_app (hs_app (hs_app (hs_app (hs_app (hs_app (hs_app (hs_app (hs_app (hs_app (hs_app (hs_app (hs_app (hs_app (hs_app hs))))))))))))))))) (fun Z => ?_)
  refine vx_aload_n (i := 0) (pc' := 197) dX11_init_196 rfl rfl rfl ?_
  refine vx_bipush (pc' := 199) dX11_init_197 rfl (by decide) ?_
  refine z_newa (ty := .long) (t0 := 1) (N := 8) (pc' := 201) Z dX11_init_199 rfl rfl (Or.inr (Or.inl rfl)) wm_1447 (fun _ => rfl) rfl (by decide) (Nat.le_of_ble_eq_true rfl) (Nat.le_of_ble_eq_true rfl) (fun Z g17 => ?_)
  refine z_putFR (pc' := 204) Z dX11_init_201 rfl ⟨RX11, TX11, 74, rfl, (by decide : 29 < 74), rfl, rfl, wm_1253⟩ rfl rfl h2 (hs_app (hs_app (hs_app (hs_app (hs_app (hs_app (hs_app (hs_app (hs_app (hs_app (hs_app (hs_app (hs_app (hs_app (hs_app (hs_app (hs_app (hs_app hs)))))))))))))))))) (fun Z => ?_)
  refine vx_aload_n (i := 0) (pc' := 205) dX11_init_204 rfl rfl rfl ?_
  refine vx_bipush (pc' := 207) dX11_init_205 rfl (by decide) ?_
  refine z_newa (ty := .int) (t0 := 0) (N := 8) (pc' := 209) Z dX11_init_207 rfl rfl (Or.inl rfl) wm_72 (fun _ => rfl) rfl (by decide) (Nat.le_of_ble_eq_true rfl) (Nat.le_of_ble_eq_true rfl) (fun Z g18 => ?_)
  refine z_putFR (pc' := 212) Z dX11_init_209 rfl ⟨RX11, TX11, 74, rfl, (by decide : 30 < 74), rfl, rfl, wm_1254⟩ rfl rfl h2 (hs_app (hs_app (hs_app (hs_app (hs_app (hs_app (hs_app (hs_app (hs_app (hs_app (hs_app (hs_app (hs_app (hs_app (hs_app (hs_app (hs_app (hs_app (hs_app hs))))))))))))))))))) (fun Z => ?_)
  refine vx_aload_n (i := 0) (pc' := 213) dX11_init_212 rfl rfl rfl ?_
  refine vx_bipush (pc' := 215) dX11_init_213 rfl (by decide) ?_
  refine z_newa (ty := .int) (t0 := 0) (N := 8) (pc' := 217) Z dX11_init_215 rfl rfl (Or.inl rfl) wm_72 (fun _ => rfl) rfl (by decide) (Nat.le_of_ble_eq_true rfl) (Nat.le_of_ble_eq_true rfl) (fun Z g19 => ?_)
  refine z_putFR (pc' := 220) Z dX11_init_217 rfl ⟨RX11, TX11, 74, rfl, (by decide : 31 < 74), rfl, rfl, wm_1255⟩ rfl rfl h2 (hs_app (hs_app (hs_app (hs_app (hs_app (hs_app (hs_app (hs_app (hs_app (hs_app (hs_app (hs_app (hs_app (hs_app (hs_app (hs_app (hs_app (hs_app (hs_app (hs_app hs)))))))))))))))))))) (fun Z => ?_)
  refine vx_aload_n (i := 0) (pc' := 221) dX11_init_220 rfl rfl rfl ?_
  refine vx_bipush (pc' := 223) dX11_init_221 rfl (by decide) ?_
  refine z_newa (ty := .int) (t0 := 0) (N := 8) (pc' := 225) Z dX11_init_223 rfl rfl (Or.inl rfl) wm_72 (fun _ => rfl) rfl (by decide) (Nat.le_of_ble_eq_true rfl) (Nat.le_of_ble_eq_true rfl) (fun Z g20 => ?_)
  refine z_putFR (pc' := 228) Z dX11_init_225 rfl ⟨RX11, TX11, 74, rfl, (by decide : 32 < 74), rfl, rfl, wm_1256⟩ rfl rfl h2 (hs_app (hs_app (hs_app (hs_app (hs_app (hs_app (hs_app (hs_app (hs_app (hs_app (hs_app (hs_app (hs_app (hs_app (hs_app (hs_app (hs_app (hs_app (hs_app (hs_app (hs_app hs))))))))))))))))))))) (fun Z => ?_)
  refine vx_aload_n (i := 0) (pc' := 229) dX11_init_228 rfl rfl rfl ?_
  refine vx_bipush (pc' := 231) dX11_init_229 rfl (by decide) ?_
  refine z_newa (ty := .int) (t0 := 0) (N := 8) (pc' := 233) Z dX11_init_231 rfl rfl (Or.inl rfl) wm_72 (fun _ => rfl) rfl (by decide) (Nat.le_of_ble_eq_true rfl) (Nat.le_of_ble_eq_true rfl) (fun Z g21 => ?_)
  refine z_putFR (pc' := 236) Z dX11_init_233 rfl ⟨RX11, TX11, 74, rfl, (by decide : 33 < 74), rfl, rfl, wm_1257⟩ rfl rfl h2 (hs_app (hs_app (hs_app (hs_app (hs_app (hs_app (hs_app (hs_app (hs_app (hs_app (hs_app (hs_app (hs_app (hs_app (hs_app (hs_app (hs_app (hs_app (hs_app (hs_app (hs_app (hs_app hs)))))))))))))))))))))) (fun Z => ?_)
  refine vx_aload_n (i := 0) (pc' := 237) dX11_init_236 rfl rfl rfl ?_
  refine vx_iconst (pc' := 238) dX11_init_237 rfl ?_
  refine z_newa (ty := .int) (t0 := 0) (N := 2) (pc' := 240) Z dX11_init_238 rfl rfl (Or.inl rfl) wm_72 (fun _ => rfl) rfl (by decide) (Nat.le_of_ble_eq_true rfl) (Nat.le_of_ble_eq_true rfl) (fun Z g22 => ?_)
  refine z_putFR (pc' := 243) Z dX11_init_240 rfl ⟨RX11, TX11, 74, rfl, (by decide : 34 < 74), rfl, rfl, wm_1258⟩ rfl rfl h2 (hs_app (hs_app (hs_app (hs_app (hs_app (hs_app (hs_app (hs_app (hs_app (hs_app (hs_app (hs_app (hs_app (hs_app (hs_app (hs_app (hs_app (hs_app (hs_app (hs_app (hs_app (hs_app (hs_app hs))))))))))))))))))))))) (fun Z => ?_)
  refine vx_aload_n (i := 0) (pc' := 244) dX11_init_243 rfl rfl rfl ?_
  refine vx_iconst (pc' := 245) dX11_init_244 rfl ?_
  refine z_newa (ty := .int) (t0 := 0) (N := 2) (pc' := 247) Z dX11_init_245 rfl rfl (Or.inl rfl) wm_72 (fun _ => rfl) rfl (by decide) (Nat.le_of_ble_eq_true rfl) (Nat.le_of_ble_eq_true rfl) (fun Z g23 => ?_)
  refine z_putFR (pc' := 250) Z dX11_init_247 rfl ⟨RX11, TX11, 74, rfl, (by decide : 35 < 74), rfl, rfl, wm_1259⟩ rfl rfl h2 (hs_app (hs_app (hs_app (hs_app (hs_app (hs_app (hs_app (hs_app (hs_app (hs_app (hs_app (hs_app (hs_app (hs_app (hs_app (hs_app (hs_app (hs_app (hs_app (hs_app (hs_app (hs_app (hs_app (hs_app hs)))))))))))))))))))))))) (fun Z => ?_)
  refine vx_aload_n (i := 0) (pc' := 251) dX11_init_250 rfl rfl rfl ?_
  refine vx_sipush (pc' := 254) dX11_init_251 rfl (by decide) ?_
  refine z_newa (ty := .int) (t0 := 0) (N := 3200) (pc' := 256) Z dX11_init_254 rfl rfl (Or.inl rfl) wm_72 (fun _ => rfl) rfl (by decide) (Nat.le_of_ble_eq_true rfl) (Nat.le_of_ble_eq_true rfl) (fun Z g24 => ?_)
  refine z_putFR (pc' := 259) Z dX11_init_256 rfl ⟨RX11, TX11, 74, rfl, (by decide : 36 < 74), rfl, rfl, wm_1260⟩ rfl rfl h2 (hs_app (hs_app (hs_app (hs_app (hs_app (hs_app (hs_app (hs_app (hs_app (hs_app (hs_app (hs_app (hs_app (hs_app (hs_app (hs_app (hs_app (hs_app (hs_app (hs_app (hs_app (hs_app (hs_app (hs_app (hs_app hs))))))))))))))))))))))))) (fun Z => ?_)
  refine vx_aload_n (i := 0) (pc' := 260) dX11_init_259 rfl rfl rfl ?_
  refine vx_sipush (pc' := 263) dX11_init_260 rfl (by decide) ?_
  refine z_newa (ty := .int) (t0 := 0) (N := 3200) (pc' := 265) Z dX11_init_263 rfl rfl (Or.inl rfl) wm_72 (fun _ => rfl) rfl (by decide) (Nat.le_of_ble_eq_true rfl) (Nat.le_of_ble_eq_true rfl) (fun Z g25 => ?_)
  refine z_putFR (pc' := 268) Z dX11_init_265 rfl ⟨RX11, TX11, 74, rfl, (by decide : 37 < 74), rfl, rfl, wm_1261⟩ rfl rfl h2 (hs_app (hs_app (hs_app (hs_app (hs_app (hs_app (hs_app (hs_app (hs_app (hs_app (hs_app (hs_app (hs_app (hs_app (hs_app (hs_app (hs_app (hs_app (hs_app (hs_app (hs_app (hs_app (hs_app (hs_app (hs_app (hs_app hs)))))))))))))))))))))))))) (fun Z => ?_)
  refine vx_aload_n (i := 0) (pc' := 269) dX11_init_268 rfl rfl rfl ?_
  refine vx_iconst (pc' := 270) dX11_init_269 rfl ?_
  refine z_putI (pc' := 273) Z dX11_init_270 rfl fl_TuneDoorModel_127 rfl rfl h2 (hs_app (hs_app (hs_app (hs_app (hs_app (hs_app (hs_app (hs_app (hs_app (hs_app (hs_app (hs_app (hs_app (hs_app (hs_app (hs_app (hs_app (hs_app (hs_app (hs_app (hs_app (hs_app (hs_app (hs_app (hs_app (hs_app hs)))))))))))))))))))))))))) ⟨by decide, by decide⟩ (fun Z => ?_)
  refine vx_aload_n (i := 0) (pc' := 274) dX11_init_273 rfl rfl rfl ?_
  refine vx_iconst (pc' := 275) dX11_init_274 rfl ?_
  refine z_putI (pc' := 278) Z dX11_init_275 rfl fl_TuneDoorModel_130 rfl rfl h2 (hs_app (hs_app (hs_app (hs_app (hs_app (hs_app (hs_app (hs_app (hs_app (hs_app (hs_app (hs_app (hs_app (hs_app (hs_app (hs_app (hs_app (hs_app (hs_app (hs_app (hs_app (hs_app (hs_app (hs_app (hs_app (hs_app hs)))))))))))))))))))))))))) ⟨by decide, by decide⟩ (fun Z => ?_)
  refine vx_aload_n (i := 0) (pc' := 279) dX11_init_278 rfl rfl rfl ?_
  refine vx_bipush (pc' := 281) dX11_init_279 rfl (by decide) ?_
  refine z_newa (ty := .int) (t0 := 0) (N := 20) (pc' := 283) Z dX11_init_281 rfl rfl (Or.inl rfl) wm_72 (fun _ => rfl) rfl (by decide) (Nat.le_of_ble_eq_true rfl) (Nat.le_of_ble_eq_true rfl) (fun Z g26 => ?_)
  refine z_putFR (pc' := 286) Z dX11_init_283 rfl ⟨RX11, TX11, 74, rfl, (by decide : 40 < 74), rfl, rfl, wm_1264⟩ rfl rfl h2 (hs_app (hs_app (hs_app (hs_app (hs_app (hs_app (hs_app (hs_app (hs_app (hs_app (hs_app (hs_app (hs_app (hs_app (hs_app (hs_app (hs_app (hs_app (hs_app (hs_app (hs_app (hs_app (hs_app (hs_app (hs_app (hs_app (hs_app hs))))))))))))))))))))))))))) (fun Z => ?_)
  refine vx_aload_n (i := 0) (pc' := 287) dX11_init_286 rfl rfl rfl ?_
  refine vx_bipush (pc' := 289) dX11_init_287 rfl (by decide) ?_
  refine z_newa (ty := .int) (t0 := 0) (N := 20) (pc' := 291) Z dX11_init_289 rfl rfl (Or.inl rfl) wm_72 (fun _ => rfl) rfl (by decide) (Nat.le_of_ble_eq_true rfl) (Nat.le_of_ble_eq_true rfl) (fun Z g27 => ?_)
  refine z_putFR (pc' := 294) Z dX11_init_291 rfl ⟨RX11, TX11, 74, rfl, (by decide : 41 < 74), rfl, rfl, wm_1265⟩ rfl rfl h2 (hs_app (hs_app (hs_app (hs_app (hs_app (hs_app (hs_app (hs_app (hs_app (hs_app (hs_app (hs_app (hs_app (hs_app (hs_app (hs_app (hs_app (hs_app (hs_app (hs_app (hs_app (hs_app (hs_app (hs_app (hs_app (hs_app (hs_app (hs_app hs)))))))))))))))))))))))))))) (fun Z => ?_)
  refine vx_aload_n (i := 0) (pc' := 295) dX11_init_294 rfl rfl rfl ?_
  refine vx_bipush (pc' := 297) dX11_init_295 rfl (by decide) ?_
  refine z_newa (ty := .boolean) (t0 := 2) (N := 20) (pc' := 299) Z dX11_init_297 rfl rfl (Or.inr (Or.inr rfl)) wm_458 (fun _ => rfl) rfl (by decide) (Nat.le_of_ble_eq_true rfl) (Nat.le_of_ble_eq_true rfl) (fun Z g28 => ?_)
  refine z_putFR (pc' := 302) Z dX11_init_299 rfl ⟨RX11, TX11, 74, rfl, (by decide : 42 < 74), rfl, rfl, wm_1266⟩ rfl rfl h2 (hs_app (hs_app (hs_app (hs_app (hs_app (hs_app (hs_app (hs_app (hs_app (hs_app (hs_app (hs_app (hs_app (hs_app (hs_app (hs_app (hs_app (hs_app (hs_app (hs_app (hs_app (hs_app (hs_app (hs_app (hs_app (hs_app (hs_app (hs_app (hs_app hs))))))))))))))))))))))))))))) (fun Z => ?_)
  refine vx_aload_n (i := 0) (pc' := 303) dX11_init_302 rfl rfl rfl ?_
  refine vx_bipush (pc' := 305) dX11_init_303 rfl (by decide) ?_
  refine z_newa (ty := .int) (t0 := 0) (N := 20) (pc' := 307) Z dX11_init_305 rfl rfl (Or.inl rfl) wm_72 (fun _ => rfl) rfl (by decide) (Nat.le_of_ble_eq_true rfl) (Nat.le_of_ble_eq_true rfl) (fun Z g29 => ?_)
  refine z_putFR (pc' := 310) Z dX11_init_307 rfl ⟨RX11, TX11, 74, rfl, (by decide : 43 < 74), rfl, rfl, wm_1267⟩ rfl rfl h2 (hs_app (hs_app (hs_app (hs_app (hs_app (hs_app (hs_app (hs_app (hs_app (hs_app (hs_app (hs_app (hs_app (hs_app (hs_app (hs_app (hs_app (hs_app (hs_app (hs_app (hs_app (hs_app (hs_app (hs_app (hs_app (hs_app (hs_app (hs_app (hs_app (hs_app hs)))))))))))))))))))))))))))))) (fun Z => ?_)
  refine vx_aload_n (i := 0) (pc' := 311) dX11_init_310 rfl rfl rfl ?_
  refine vx_bipush (pc' := 313) dX11_init_311 rfl (by decide) ?_
  refine z_newa (ty := .int) (t0 := 0) (N := 20) (pc' := 315) Z dX11_init_313 rfl rfl (Or.inl rfl) wm_72 (fun _ => rfl) rfl (by decide) (Nat.le_of_ble_eq_true rfl) (Nat.le_of_ble_eq_true rfl) (fun Z g30 => ?_)
  refine z_putFR (pc' := 318) Z dX11_init_315 rfl ⟨RX11, TX11, 74, rfl, (by decide : 44 < 74), rfl, rfl, wm_1268⟩ rfl rfl h2 (hs_app (hs_app (hs_app (hs_app (hs_app (hs_app (hs_app (hs_app (hs_app (hs_app (hs_app (hs_app (hs_app (hs_app (hs_app (hs_app (hs_app (hs_app (hs_app (hs_app (hs_app (hs_app (hs_app (hs_app (hs_app (hs_app (hs_app (hs_app (hs_app (hs_app (hs_app hs))))))))))))))))))))))))))))))) (fun Z => ?_)
  refine vx_aload_n (i := 0) (pc' := 319) dX11_init_318 rfl rfl rfl ?_
  refine vx_iconst (pc' := 320) dX11_init_319 rfl ?_
  refine z_putI (pc' := 323) Z dX11_init_320 rfl fl_TuneDoorModel_149 rfl rfl h2 (hs_app (hs_app (hs_app (hs_app (hs_app (hs_app (hs_app (hs_app (hs_app (hs_app (hs_app (hs_app (hs_app (hs_app (hs_app (hs_app (hs_app (hs_app (hs_app (hs_app (hs_app (hs_app (hs_app (hs_app (hs_app (hs_app (hs_app (hs_app (hs_app (hs_app (hs_app hs))))))))))))))))))))))))))))))) ⟨by decide, by decide⟩ (fun Z => ?_)
  refine vx_aload_n (i := 0) (pc' := 324) dX11_init_323 rfl rfl rfl ?_
  refine vx_iconst (pc' := 325) dX11_init_324 rfl ?_
  refine z_putI (pc' := 328) Z dX11_init_325 rfl fl_TuneDoorModel_152 rfl rfl h2 (hs_app (hs_app (hs_app (hs_app (hs_app (hs_app (hs_app (hs_app (hs_app (hs_app (hs_app (hs_app (hs_app (hs_app (hs_app (hs_app (hs_app (hs_app (hs_app (hs_app (hs_app (hs_app (hs_app (hs_app (hs_app (hs_app (hs_app (hs_app (hs_app (hs_app (hs_app hs))))))))))))))))))))))))))))))) ⟨by decide, by decide⟩ (fun Z => ?_)
  refine vx_aload_n (i := 0) (pc' := 329) dX11_init_328 rfl rfl rfl ?_
  refine vx_sipush (pc' := 332) dX11_init_329 rfl (by decide) ?_
  refine z_newa (ty := .int) (t0 := 0) (N := 500) (pc' := 334) Z dX11_init_332 rfl rfl (Or.inl rfl) wm_72 (fun _ => rfl) rfl (by decide) (Nat.le_of_ble_eq_true rfl) (Nat.le_of_ble_eq_true rfl) (fun Z g31 => ?_)
  refine z_putFR (pc' := 337) Z dX11_init_334 rfl ⟨RX11, TX11, 74, rfl, (by decide : 47 < 74), rfl, rfl, wm_1271⟩ rfl rfl h2 (hs_app (hs_app (hs_app (hs_app (hs_app (hs_app (hs_app (hs_app (hs_app (hs_app (hs_app (hs_app (hs_app (hs_app (hs_app (hs_app (hs_app (hs_app (hs_app (hs_app (hs_app (hs_app (hs_app (hs_app (hs_app (hs_app (hs_app (hs_app (hs_app (hs_app (hs_app (hs_app hs)))))))))))))))))))))))))))))))) (fun Z => ?_)
  refine vx_aload_n (i := 0) (pc' := 338) dX11_init_337 rfl rfl rfl ?_
  refine vx_iconst (pc' := 339) dX11_init_338 rfl ?_
  refine z_putI (pc' := 342) Z dX11_init_339 rfl fl_TuneDoorModel_158 rfl rfl h2 (hs_app (hs_app (hs_app (hs_app (hs_app (hs_app (hs_app (hs_app (hs_app (hs_app (hs_app (hs_app (hs_app (hs_app (hs_app (hs_app (hs_app (hs_app (hs_app (hs_app (hs_app (hs_app (hs_app (hs_app (hs_app (hs_app (hs_app (hs_app (hs_app (hs_app (hs_app (hs_app hs)))))))))))))))))))))))))))))))) ⟨by decide, by decide⟩ (fun Z => ?_)
  refine vx_aload_n (i := 0) (pc' := 343) dX11_init_342 rfl rfl rfl ?_
  refine vx_iconst (pc' := 344) dX11_init_343 rfl ?_
  refine z_putZ (pc' := 347) Z dX11_init_344 rfl fl_TuneDoorModel_161 rfl rfl h2 (hs_app (hs_app (hs_app (hs_app (hs_app (hs_app (hs_app (hs_app (hs_app (hs_app (hs_app (hs_app (hs_app (hs_app (hs_app (hs_app (hs_app (hs_app (hs_app (hs_app (hs_app (hs_app (hs_app (hs_app (hs_app (hs_app (hs_app (hs_app (hs_app (hs_app (hs_app (hs_app hs)))))))))))))))))))))))))))))))) (by decide) (fun Z => ?_)
  refine vx_aload_n (i := 0) (pc' := 348) dX11_init_347 rfl rfl rfl ?_
  refine vx_bipush (pc' := 350) dX11_init_348 rfl (by decide) ?_
  refine z_newa (ty := .int) (t0 := 0) (N := 6) (pc' := 352) Z dX11_init_350 rfl rfl (Or.inl rfl) wm_72 (fun _ => rfl) rfl (by decide) (Nat.le_of_ble_eq_true rfl) (Nat.le_of_ble_eq_true rfl) (fun Z g32 => ?_)
  refine z_putFR (pc' := 355) Z dX11_init_352 rfl ⟨RX11, TX11, 74, rfl, (by decide : 50 < 74), rfl, rfl, wm_1274⟩ rfl rfl h2 (hs_app (hs_app (hs_app (hs_app (hs_app (hs_app (hs_app (hs_app (hs_app (hs_app (hs_app (hs_app (hs_app (hs_app (hs_app (hs_app (hs_app (hs_app (hs_app (hs_app (hs_app (hs_app (hs_app (hs_app (hs_app (hs_app (hs_app (hs_app (hs_app (hs_app (hs_app (hs_app (hs_app hs))))))))))))))))))))))))))))))))) (fun Z => ?_)
  refine vx_aload_n (i := 0) (pc' := 356) dX11_init_355 rfl rfl rfl ?_
  refine vx_sipush (pc' := 359) dX11_init_356 rfl (by decide) ?_
  refine z_newa (ty := .long) (t0 := 1) (N := 1650) (pc' := 361) Z dX11_init_359 rfl rfl (Or.inr (Or.inl rfl)) wm_1447 (fun _ => rfl) rfl (by decide) (Nat.le_of_ble_eq_true rfl) (Nat.le_of_ble_eq_true rfl) (fun Z g33 => ?_)
  refine z_putFR (pc' := 364) Z dX11_init_361 rfl ⟨RX11, TX11, 74, rfl, (by decide : 51 < 74), rfl, rfl, wm_1275⟩ rfl rfl h2 (hs_app (hs_app (hs_app (hs_app (hs_app (hs_app (hs_app (hs_app (hs_app (hs_app (hs_app (hs_app (hs_app (hs_app (hs_app (hs_app (hs_app (hs_app (hs_app (hs_app (hs_app (hs_app (hs_app (hs_app (hs_app (hs_app (hs_app (hs_app (hs_app (hs_app (hs_app (hs_app (hs_app (hs_app hs)))))))))))))))))))))))))))))))))) (fun Z => ?_)
  refine vx_aload_n (i := 0) (pc' := 365) dX11_init_364 rfl rfl rfl ?_
  refine vx_bipush (pc' := 367) dX11_init_365 rfl (by decide) ?_
  refine z_newa (ty := .int) (t0 := 0) (N := 10) (pc' := 369) Z dX11_init_367 rfl rfl (Or.inl rfl) wm_72 (fun _ => rfl) rfl (by decide) (Nat.le_of_ble_eq_true rfl) (Nat.le_of_ble_eq_true rfl) (fun Z g34 => ?_)
  refine z_putFR (pc' := 372) Z dX11_init_369 rfl ⟨RX11, TX11, 74, rfl, (by decide : 52 < 74), rfl, rfl, wm_1276⟩ rfl rfl h2 (hs_app (hs_app (hs_app (hs_app (hs_app (hs_app (hs_app (hs_app (hs_app (hs_app (hs_app (hs_app (hs_app (hs_app (hs_app (hs_app (hs_app (hs_app (hs_app (hs_app (hs_app (hs_app (hs_app (hs_app (hs_app (hs_app (hs_app (hs_app (hs_app (hs_app (hs_app (hs_app (hs_app (hs_app (hs_app hs))))))))))))))))))))))))))))))))))) (fun Z => ?_)
  refine vx_aload_n (i := 0) (pc' := 373) dX11_init_372 rfl rfl rfl ?_
  refine vx_sipush (pc' := 376) dX11_init_373 rfl (by decide) ?_
  refine z_newa (ty := .int) (t0 := 0) (N := 15000) (pc' := 378) Z dX11_init_376 rfl rfl (Or.inl rfl) wm_72 (fun _ => rfl) rfl (by decide) (Nat.le_of_ble_eq_true rfl) (Nat.le_of_ble_eq_true rfl) (fun Z g35 => ?_)
  refine z_putFR (pc' := 381) Z dX11_init_378 rfl ⟨RX11, TX11, 74, rfl, (by decide : 53 < 74), rfl, rfl, wm_1277⟩ rfl rfl h2 (hs_app (hs_app (hs_app (hs_app (hs_app (hs_app (hs_app (hs_app (hs_app (hs_app (hs_app (hs_app (hs_app (hs_app (hs_app (hs_app (hs_app (hs_app (hs_app (hs_app (hs_app (hs_app (hs_app (hs_app (hs_app (hs_app (hs_app (hs_app (hs_app (hs_app (hs_app (hs_app (hs_app (hs_app (hs_app (hs_app hs)))))))))))))))))))))))))))))))))))) (fun Z => ?_)
  refine vx_aload_n (i := 0) (pc' := 382) dX11_init_381 rfl rfl rfl ?_
  refine vx_sipush (pc' := 385) dX11_init_382 rfl (by decide) ?_
  refine z_newa (ty := .int) (t0 := 0) (N := 3000) (pc' := 387) Z dX11_init_385 rfl rfl (Or.inl rfl) wm_72 (fun _ => rfl) rfl (by decide) (Nat.le_of_ble_eq_true rfl) (Nat.le_of_ble_eq_true rfl) (fun Z g36 => ?_)
  refine z_putFR (pc' := 390) Z dX11_init_387 rfl ⟨RX11, TX11, 74, rfl, (by decide : 54 < 74), rfl, rfl, wm_1278⟩ rfl rfl h2 (hs_app (hs_app (hs_app (hs_app (hs_app (hs_app (hs_app (hs_app (hs_app (hs_app (hs_app (hs_app (hs_app (hs_app (hs_app (hs_app (hs_app (hs_app (hs_app (hs_app (hs_app (hs_app (hs_app (hs_app (hs_app (hs_app (hs_app (hs_app (hs_app (hs_app (hs_app (hs_app (hs_app (hs_app (hs_app (hs_app (hs_app hs))))))))))))))))))))))))))))))))))))) (fun Z => ?_)
  refine vx_aload_n (i := 0) (pc' := 391) dX11_init_390 rfl rfl rfl ?_
  refine vx_sipush (pc' := 394) dX11_init_391 rfl (by decide) ?_
  refine z_newa (ty := .int) (t0 := 0) (N := 3000) (pc' := 396) Z dX11_init_394 rfl rfl (Or.inl rfl) wm_72 (fun _ => rfl) rfl (by decide) (Nat.le_of_ble_eq_true rfl) (Nat.le_of_ble_eq_true rfl) (fun Z g37 => ?_)
  refine z_putFR (pc' := 399) Z dX11_init_396 rfl ⟨RX11, TX11, 74, rfl, (by decide : 55 < 74), rfl, rfl, wm_1279⟩ rfl rfl h2 (hs_app (hs_app (hs_app (hs_app (hs_app (hs_app (hs_app (hs_app (hs_app (hs_app (hs_app (hs_app (hs_app (hs_app (hs_app (hs_app (hs_app (hs_app (hs_app (hs_app (hs_app (hs_app (hs_app (hs_app (hs_app (hs_app (hs_app (hs_app (hs_app (hs_app (hs_app (hs_app (hs_app (hs_app (hs_app (hs_app (hs_app (hs_app hs)))))))))))))))))))))))))))))))))))))) (fun Z => ?_)
  refine vx_aload_n (i := 0) (pc' := 400) dX11_init_399 rfl rfl rfl ?_
  refine vx_iconst (pc' := 401) dX11_init_400 rfl ?_
  refine z_newa (ty := .int) (t0 := 0) (N := 4) (pc' := 403) Z dX11_init_401 rfl rfl (Or.inl rfl) wm_72 (fun _ => rfl) rfl (by decide) (Nat.le_of_ble_eq_true rfl) (Nat.le_of_ble_eq_true rfl) (fun Z g38 => ?_)
  refine z_putFR (pc' := 406) Z dX11_init_403 rfl ⟨RX11, TX11, 74, rfl, (by decide : 56 < 74), rfl, rfl, wm_1280⟩ rfl rfl h2 (hs_app (hs_app (hs_app (hs_app (hs_app (hs_app (hs_app (hs_app (hs_app (hs_app (hs_app (hs_app (hs_app (hs_app (hs_app (hs_app (hs_app (hs_app (hs_app (hs_app (hs_app (hs_app (hs_app (hs_app (hs_app (hs_app (hs_app (hs_app (hs_app (hs_app (hs_app (hs_app (hs_app (hs_app (hs_app (hs_app (hs_app (hs_app (hs_app hs))))))))))))))))))))))))))))))))))))))) (fun Z => ?_)
  refine vx_aload_n (i := 0) (pc' := 407) dX11_init_406 rfl rfl rfl ?_
  refine vx_iconst (pc' := 408) dX11_init_407 rfl ?_
  refine z_newa (ty := .int) (t0 := 0) (N := 4) (pc' := 410) Z dX11_init_408 rfl rfl (Or.inl rfl) wm_72 (fun _ => rfl) rfl (by decide) (Nat.le_of_ble_eq_true rfl) (Nat.le_of_ble_eq_true rfl) (fun Z g39 => ?_)
  refine z_putFR (pc' := 413) Z dX11_init_410 rfl ⟨RX11, TX11, 74, rfl, (by decide : 57 < 74), rfl, rfl, wm_1281⟩ rfl rfl h2 (hs_app (hs_app (hs_app (hs_app (hs_app (hs_app (hs_app (hs_app (hs_app (hs_app (hs_app (hs_app (hs_app (hs_app (hs_app (hs_app (hs_app (hs_app (hs_app (hs_app (hs_app (hs_app (hs_app (hs_app (hs_app (hs_app (hs_app (hs_app (hs_app (hs_app (hs_app (hs_app (hs_app (hs_app (hs_app (hs_app (hs_app (hs_app (hs_app (hs_app hs)))))))))))))))))))))))))))))))))))))))) (fun Z => ?_)
  refine vx_aload_n (i := 0) (pc' := 414) dX11_init_413 rfl rfl rfl ?_
  refine vx_iconst (pc' := 415) dX11_init_414 rfl ?_
  refine z_newa (ty := .int) (t0 := 0) (N := 4) (pc' := 417) Z dX11_init_415 rfl rfl (Or.inl rfl) wm_72 (fun _ => rfl) rfl (by decide) (Nat.le_of_ble_eq_true rfl) (Nat.le_of_ble_eq_true rfl) (fun Z g40 => ?_)
  refine z_putFR (pc' := 420) Z dX11_init_417 rfl ⟨RX11, TX11, 74, rfl, (by decide : 58 < 74), rfl, rfl, wm_1282⟩ rfl rfl h2 (hs_app (hs_app (hs_app (hs_app (hs_app (hs_app (hs_app (hs_app (hs_app (hs_app (hs_app (hs_app (hs_app (hs_app (hs_app (hs_app (hs_app (hs_app (hs_app (hs_app (hs_app (hs_app (hs_app (hs_app (hs_app (hs_app (hs_app (hs_app (hs_app (hs_app (hs_app (hs_app (hs_app (hs_app (hs_app (hs_app (hs_app (hs_app (hs_app (hs_app (hs_app hs))))))))))))))))))))))))))))))))))))))))) (fun Z => ?_)
  refine vx_aload_n (i := 0) (pc' := 421) dX11_init_420 rfl rfl rfl ?_
  refine vx_bipush (pc' := 423) dX11_init_421 rfl (by decide) ?_
  refine z_newa (ty := .int) (t0 := 0) (N := 12) (pc' := 425) Z dX11_init_423 rfl rfl (Or.inl rfl) wm_72 (fun _ => rfl) rfl (by decide) (Nat.le_of_ble_eq_true rfl) (Nat.le_of_ble_eq_true rfl) (fun Z g41 => ?_)
  refine z_putFR (pc' := 428) Z dX11_init_425 rfl ⟨RX11, TX11, 74, rfl, (by decide : 59 < 74), rfl, rfl, wm_1283⟩ rfl rfl h2 (hs_app (hs_app (hs_app (hs_app (hs_app (hs_app (hs_app (hs_app (hs_app (hs_app (hs_app (hs_app (hs_app (hs_app (hs_app (hs_app (hs_app (hs_app (hs_app (hs_app (hs_app (hs_app (hs_app (hs_app (hs_app (hs_app (hs_app (hs_app (hs_app (hs_app (hs_app (hs_app (hs_app (hs_app (hs_app (hs_app (hs_app (hs_app (hs_app (hs_app (hs_app (hs_app hs)))))))))))))))))))))))))))))))))))))))))) (fun Z => ?_)
  refine vx_aload_n (i := 0) (pc' := 429) dX11_init_428 rfl rfl rfl ?_
  refine vx_bipush (pc' := 431) dX11_init_429 rfl (by decide) ?_
  refine z_newa (ty := .int) (t0 := 0) (N := 12) (pc' := 433) Z dX11_init_431 rfl rfl (Or.inl rfl) wm_72 (fun _ => rfl) rfl (by decide) (Nat.le_of_ble_eq_true rfl) (Nat.le_of_ble_eq_true rfl) (fun Z g42 => ?_)
  refine z_putFR (pc' := 436) Z dX11_init_433 rfl ⟨RX11, TX11, 74, rfl, (by decide : 60 < 74), rfl, rfl, wm_1284⟩ rfl rfl h2 (hs_app (hs_app (hs_app (hs_app (hs_app (hs_app (hs_app (hs_app (hs_app (hs_app (hs_app (hs_app (hs_app (hs_app (hs_app (hs_app (hs_app (hs_app (hs_app (hs_app (hs_app (hs_app (hs_app (hs_app (hs_app (hs_app (hs_app (hs_app (hs_app (hs_app (hs_app (hs_app (hs_app (hs_app (hs_app (hs_app (hs_app (hs_app (hs_app (hs_app (hs_app (hs_app (hs_app hs))))))))))))))))))))))))))))))))))))))))))) (fun Z => ?_)
  refine vx_aload_n (i := 0) (pc' := 437) dX11_init_436 rfl rfl rfl ?_
  refine vx_bipush (pc' := 439) dX11_init_437 rfl (by decide) ?_
  refine z_newa (ty := .int) (t0 := 0) (N := 12) (pc' := 441) Z dX11_init_439 rfl rfl (Or.inl rfl) wm_72 (fun _ => rfl) rfl (by decide) (Nat.le_of_ble_eq_true rfl) (Nat.le_of_ble_eq_true rfl) (fun Z g43 => ?_)
  refine z_putFR (pc' := 444) Z dX11_init_441 rfl ⟨RX11, TX11, 74, rfl, (by decide : 61 < 74), rfl, rfl, wm_1285⟩ rfl rfl h2 (hs_app (hs_app (hs_app (hs_app (hs_app (hs_app (hs_app (hs_app (hs_app (hs_app (hs_app (hs_app (hs_app (hs_app (hs_app (hs_app (hs_app (hs_app (hs_app (hs_app (hs_app (hs_app (hs_app (hs_app (hs_app (hs_app (hs_app (hs_app (hs_app (hs_app (hs_app (hs_app (hs_app (hs_app (hs_app (hs_app (hs_app (hs_app (hs_app (hs_app (hs_app (hs_app (hs_app (hs_app hs)))))))))))))))))))))))))))))))))))))))))))) (fun Z => ?_)
  refine vx_aload_n (i := 0) (pc' := 445) dX11_init_444 rfl rfl rfl ?_
  refine vx_iconst (pc' := 446) dX11_init_445 rfl ?_
  refine z_newa (ty := .int) (t0 := 0) (N := 4) (pc' := 448) Z dX11_init_446 rfl rfl (Or.inl rfl) wm_72 (fun _ => rfl) rfl (by decide) (Nat.le_of_ble_eq_true rfl) (Nat.le_of_ble_eq_true rfl) (fun Z g44 => ?_)
  refine z_putFR (pc' := 451) Z dX11_init_448 rfl ⟨RX11, TX11, 74, rfl, (by decide : 62 < 74), rfl, rfl, wm_1286⟩ rfl rfl h2 (hs_app (hs_app (hs_app (hs_app (hs_app (hs_app (hs_app (hs_app (hs_app (hs_app (hs_app (hs_app (hs_app (hs_app (hs_app (hs_app (hs_app (hs_app (hs_app (hs_app (hs_app (hs_app (hs_app (hs_app (hs_app (hs_app (hs_app (hs_app (hs_app (hs_app (hs_app (hs_app (hs_app (hs_app (hs_app (hs_app (hs_app (hs_app (hs_app (hs_app (hs_app (hs_app (hs_app (hs_app (hs_app hs))))))))))))))))))))))))))))))))))))))))))))) (fun Z => ?_)
  refine vx_aload_n (i := 0) (pc' := 452) dX11_init_451 rfl rfl rfl ?_
  refine vx_iconst (pc' := 453) dX11_init_452 rfl ?_
  refine z_newa (ty := .int) (t0 := 0) (N := 4) (pc' := 455) Z dX11_init_453 rfl rfl (Or.inl rfl) wm_72 (fun _ => rfl) rfl (by decide) (Nat.le_of_ble_eq_true rfl) (Nat.le_of_ble_eq_true rfl) (fun Z g45 => ?_)
  refine z_putFR (pc' := 458) Z dX11_init_455 rfl ⟨RX11, TX11, 74, rfl, (by decide : 63 < 74), rfl, rfl, wm_1287⟩ rfl rfl h2 (hs_app (hs_app (hs_app (hs_app (hs_app (hs_app (hs_app (hs_app (hs_app (hs_app (hs_app (hs_app (hs_app (hs_app (hs_app (hs_app (hs_app (hs_app (hs_app (hs_app (hs_app (hs_app (hs_app (hs_app (hs_app (hs_app (hs_app (hs_app (hs_app (hs_app (hs_app (hs_app (hs_app (hs_app (hs_app (hs_app (hs_app (hs_app (hs_app (hs_app (hs_app (hs_app (hs_app (hs_app (hs_app (hs_app hs)))))))))))))))))))))))))))))))))))))))))))))) (fun Z => ?_)
  refine vx_aload_n (i := 0) (pc' := 459) dX11_init_458 rfl rfl rfl ?_
  refine vx_iconst (pc' := 460) dX11_init_459 rfl ?_
  refine z_newa (ty := .int) (t0 := 0) (N := 4) (pc' := 462) Z dX11_init_460 rfl rfl (Or.inl rfl) wm_72 (fun _ => rfl) rfl (by decide) (Nat.le_of_ble_eq_true rfl) (Nat.le_of_ble_eq_true rfl) (fun Z g46 => ?_)
  refine z_putFR (pc' := 465) Z dX11_init_462 rfl ⟨RX11, TX11, 74, rfl, (by decide : 64 < 74), rfl, rfl, wm_1288⟩ rfl rfl h2 (hs_app (hs_app (hs_app (hs_app (hs_app (hs_app (hs_app (hs_app (hs_app (hs_app (hs_app (hs_app (hs_app (hs_app (hs_app (hs_app (hs_app (hs_app (hs_app (hs_app (hs_app (hs_app (hs_app (hs_app (hs_app (hs_app (hs_app (hs_app (hs_app (hs_app (hs_app (hs_app (hs_app (hs_app (hs_app (hs_app (hs_app (hs_app (hs_app (hs_app (hs_app (hs_app (hs_app (hs_app (hs_app (hs_app (hs_app hs))))))))))))))))))))))))))))))))))))))))))))))) (fun Z => ?_)
  refine vx_aload_n (i := 0) (pc' := 466) dX11_init_465 rfl rfl rfl ?_
  refine vx_iconst (pc' := 467) dX11_init_466 rfl ?_
  refine z_newa (ty := .int) (t0 := 0) (N := 5) (pc' := 469) Z dX11_init_467 rfl rfl (Or.inl rfl) wm_72 (fun _ => rfl) rfl (by decide) (Nat.le_of_ble_eq_true rfl) (Nat.le_of_ble_eq_true rfl) (fun Z g47 => ?_)
  refine z_putFR (pc' := 472) Z dX11_init_469 rfl ⟨RX11, TX11, 74, rfl, (by decide : 65 < 74), rfl, rfl, wm_1289⟩ rfl rfl h2 (hs_app (hs_app (hs_app (hs_app (hs_app (hs_app (hs_app (hs_app (hs_app (hs_app (hs_app (hs_app (hs_app (hs_app (hs_app (hs_app (hs_app (hs_app (hs_app (hs_app (hs_app (hs_app (hs_app (hs_app (hs_app (hs_app (hs_app (hs_app (hs_app (hs_app (hs_app (hs_app (hs_app (hs_app (hs_app (hs_app (hs_app (hs_app (hs_app (hs_app (hs_app (hs_app (hs_app (hs_app (hs_app (hs_app (hs_app (hs_app hs)))))))))))))))))))))))))))))))))))))))))))))))) (fun Z => ?_)
  refine vx_aload_n (i := 0) (pc' := 473) dX11_init_472 rfl rfl rfl ?_
  refine vx_iconst (pc' := 474) dX11_init_473 rfl ?_
  refine z_putI (pc' := 477) Z dX11_init_474 rfl fl_TuneDoorModel_213 rfl rfl h2 (hs_app (hs_app (hs_app (hs_app (hs_app (hs_app (hs_app (hs_app (hs_app (hs_app (hs_app (hs_app (hs_app (hs_app (hs_app (hs_app (hs_app (hs_app (hs_app (hs_app (hs_app (hs_app (hs_app (hs_app (hs_app (hs_app (hs_app (hs_app (hs_app (hs_app (hs_app (hs_app (hs_app (hs_app (hs_app (hs_app (hs_app (hs_app (hs_app (hs_app (hs_app (hs_app (hs_app (hs_app (hs_app (hs_app (hs_app (hs_app hs)))))))))))))))))))))))))))))))))))))))))))))))) ⟨by decide, by decide⟩ (fun Z => ?_)
  refine vx_aload_n (i := 0) (pc' := 478) dX11_init_477 rfl rfl rfl ?_
  refine vx_iconst (pc' := 479) dX11_init_478 rfl ?_
  refine z_newa (ty := .int) (t0 := 0) (N := 4) (pc' := 481) Z dX11_init_479 rfl rfl (Or.inl rfl) wm_72 (fun _ => rfl) rfl (by decide) (Nat.le_of_ble_eq_true rfl) (Nat.le_of_ble_eq_true rfl) (fun Z g48 => ?_)
  refine z_putFR (pc' := 484) Z dX11_init_481 rfl ⟨RX11, TX11, 74, rfl, (by decide : 67 < 74), rfl, rfl, wm_1291⟩ rfl rfl h2 (hs_app (hs_app (hs_app (hs_app (hs_app (hs_app (hs_app (hs_app (hs_app (hs_app (hs_app (hs_app (hs_app (hs_app (hs_app (hs_app (hs_app (hs_app (hs_app (hs_app (hs_app (hs_app (hs_app (hs_app (hs_app (hs_app (hs_app (hs_app (hs_app (hs_app (hs_app (hs_app (hs_app (hs_app (hs_app (hs_app (hs_app (hs_app (hs_app (hs_app (hs_app (hs_app (hs_app (hs_app (hs_app (hs_app (hs_app (hs_app (hs_app hs))))))))))))))))))))))))))))))))))))))))))))))))) (fun Z => ?_)
  refine vx_aload_n (i := 0) (pc' := 485) dX11_init_484 rfl rfl rfl ?_
  refine vx_bipush (pc' := 487) dX11_init_485 rfl (by decide) ?_
  refine z_newa (ty := .int) (t0 := 0) (N := 12) (pc' := 489) Z dX11_init_487 rfl rfl (Or.inl rfl) wm_72 (fun _ => rfl) rfl (by decide) (Nat.le_of_ble_eq_true rfl) (Nat.le_of_ble_eq_true rfl) (fun Z g49 => ?_)
  refine z_putFR (pc' := 492) Z dX11_init_489 rfl ⟨RX11, TX11, 74, rfl, (by decide : 68 < 74), rfl, rfl, wm_1292⟩ rfl rfl h2 (hs_app (hs_app (hs_app (hs_app (hs_app (hs_app (hs_app (hs_app (hs_app (hs_app (hs_app (hs_app (hs_app (hs_app (hs_app (hs_app (hs_app (hs_app (hs_app (hs_app (hs_app (hs_app (hs_app (hs_app (hs_app (hs_app (hs_app (hs_app (hs_app (hs_app (hs_app (hs_app (hs_app (hs_app (hs_app (hs_app (hs_app (hs_app (hs_app (hs_app (hs_app (hs_app (hs_app (hs_app (hs_app (hs_app (hs_app (hs_app (hs_app (hs_app hs)))))))))))))))))))))))))))))))))))))))))))))))))) (fun Z => ?_)
  refine vx_aload_n (i := 0) (pc' := 493) dX11_init_492 rfl rfl rfl ?_
  refine vx_bipush (pc' := 495) dX11_init_493 rfl (by decide) ?_
  refine z_newa (ty := .int) (t0 := 0) (N := 12) (pc' := 497) Z dX11_init_495 rfl rfl (Or.inl rfl) wm_72 (fun _ => rfl) rfl (by decide) (Nat.le_of_ble_eq_true rfl) (Nat.le_of_ble_eq_true rfl) (fun Z g50 => ?_)
  refine z_putFR (pc' := 500) Z dX11_init_497 rfl ⟨RX11, TX11, 74, rfl, (by decide : 69 < 74), rfl, rfl, wm_1293⟩ rfl rfl h2 (hs_app (hs_app (hs_app (hs_app (hs_app (hs_app (hs_app (hs_app (hs_app (hs_app (hs_app (hs_app (hs_app (hs_app (hs_app (hs_app (hs_app (hs_app (hs_app (hs_app (hs_app (hs_app (hs_app (hs_app (hs_app (hs_app (hs_app (hs_app (hs_app (hs_app (hs_app (hs_app (hs_app (hs_app (hs_app (hs_app (hs_app (hs_app (hs_app (hs_app (hs_app (hs_app (hs_app (hs_app (hs_app (hs_app (hs_app (hs_app (hs_app (hs_app (hs_app hs))))))))))))))))))))))))))))))))))))))))))))))))))) (fun Z => ?_)
  refine vx_aload_n (i := 0) (pc' := 501) dX11_init_500 rfl rfl rfl ?_
  refine vx_bipush (pc' := 503) dX11_init_501 rfl (by decide) ?_
  refine z_newa (ty := .int) (t0 := 0) (N := 12) (pc' := 505) Z dX11_init_503 rfl rfl (Or.inl rfl) wm_72 (fun _ => rfl) rfl (by decide) (Nat.le_of_ble_eq_true rfl) (Nat.le_of_ble_eq_true rfl) (fun Z g51 => ?_)
  refine z_putFR (pc' := 508) Z dX11_init_505 rfl ⟨RX11, TX11, 74, rfl, (by decide : 70 < 74), rfl, rfl, wm_1294⟩ rfl rfl h2 (hs_app (hs_app (hs_app (hs_app (hs_app (hs_app (hs_app (hs_app (hs_app (hs_app (hs_app (hs_app (hs_app (hs_app (hs_app (hs_app (hs_app (hs_app (hs_app (hs_app (hs_app (hs_app (hs_app (hs_app (hs_app (hs_app (hs_app (hs_app (hs_app (hs_app (hs_app (hs_app (hs_app (hs_app (hs_app (hs_app (hs_app (hs_app (hs_app (hs_app (hs_app (hs_app (hs_app (hs_app (hs_app (hs_app (hs_app (hs_app (hs_app (hs_app (hs_app (hs_app hs)))))))))))))))))))))))))))))))))))))))))))))))))))) (fun Z => ?_)
  refine vx_aload_n (i := 0) (pc' := 509) dX11_init_508 rfl rfl rfl ?_
  refine vx_lconst (z := 1) (pc' := 510) dX11_init_509 rfl (by decide) ?_
  refine z_putL (pc' := 513) Z dX11_init_510 rfl fl_TuneDoorModel_228 rfl rfl h2 (hs_app (hs_app (hs_app (hs_app (hs_app (hs_app (hs_app (hs_app (hs_app (hs_app (hs_app (hs_app (hs_app (hs_app (hs_app (hs_app (hs_app (hs_app (hs_app (hs_app (hs_app (hs_app (hs_app (hs_app (hs_app (hs_app (hs_app (hs_app (hs_app (hs_app (hs_app (hs_app (hs_app (hs_app (hs_app (hs_app (hs_app (hs_app (hs_app (hs_app (hs_app (hs_app (hs_app (hs_app (hs_app (hs_app (hs_app (hs_app (hs_app (hs_app (hs_app (hs_app hs)))))))))))))))))))))))))))))))))))))))))))))))))))) (fun Z => ?_)
  refine vx_aload_n (i := 0) (pc' := 514) dX11_init_513 rfl rfl rfl ?_
  refine vx_bipush (pc' := 516) dX11_init_514 rfl (by decide) ?_
  refine z_newa (ty := .int) (t0 := 0) (N := 80) (pc' := 518) Z dX11_init_516 rfl rfl (Or.inl rfl) wm_72 (fun _ => rfl) rfl (by decide) (Nat.le_of_ble_eq_true rfl) (Nat.le_of_ble_eq_true rfl) (fun Z g52 => ?_)
  refine z_putFR (pc' := 521) Z dX11_init_518 rfl ⟨RX11, TX11, 74, rfl, (by decide : 72 < 74), rfl, rfl, wm_1296⟩ rfl rfl h2 (hs_app (hs_app (hs_app (hs_app (hs_app (hs_app (hs_app (hs_app (hs_app (hs_app (hs_app (hs_app (hs_app (hs_app (hs_app (hs_app (hs_app (hs_app (hs_app (hs_app (hs_app (hs_app (hs_app (hs_app (hs_app (hs_app (hs_app (hs_app (hs_app (hs_app (hs_app (hs_app (hs_app (hs_app (hs_app (hs_app (hs_app (hs_app (hs_app (hs_app (hs_app (hs_app (hs_app (hs_app (hs_app (hs_app (hs_app (hs_app (hs_app (hs_app (hs_app (hs_app (hs_app hs))))))))))))))))))))))))))))))))))))))))))))))))))))) (fun Z => ?_)
  refine vx_aload_n (i := 0) (pc' := 522) dX11_init_521 rfl rfl rfl ?_
  refine vx_iconst (pc' := 523) dX11_init_522 rfl ?_
  refine z_putI (pc' := 526) Z dX11_init_523 rfl fl_TuneDoorModel_234 rfl rfl h2 (hs_app (hs_app (hs_app (hs_app (hs_app (hs_app (hs_app (hs_app (hs_app (hs_app (hs_app (hs_app (hs_app (hs_app (hs_app (hs_app (hs_app (hs_app (hs_app (hs_app (hs_app (hs_app (hs_app (hs_app (hs_app (hs_app (hs_app (hs_app (hs_app (hs_app (hs_app (hs_app (hs_app (hs_app (hs_app (hs_app (hs_app (hs_app (hs_app (hs_app (hs_app (hs_app (hs_app (hs_app (hs_app (hs_app (hs_app (hs_app (hs_app (hs_app (hs_app (hs_app (hs_app hs))))))))))))))))))))))))))))))))))))))))))))))))))))) ⟨by decide, by decide⟩ (fun Z => ?_)
  refine vx_aload_n (i := 0) (pc' := 527) dX11_init_526 rfl rfl rfl ?_
  refine z_getR (r := (n + 22)) (pc' := 530) dX11_init_527 rfl fl_TuneDoorModel_115 rfl h2 (hs_app (hs_app (hs_app (hs_app (hs_app (hs_app (hs_app (hs_app (hs_app (hs_app (hs_app (hs_app (hs_app (hs_app (hs_app (hs_app (hs_app (hs_app (hs_app (hs_app (hs_app (hs_app (hs_app (hs_app (hs_app (hs_app (hs_app (hs_app (hs_app (hs_app (hs_app (hs_app (hs_app (hs_app (hs_app (hs_app (hs_app (hs_app (hs_app (hs_app (hs_app (hs_app (hs_app (hs_app (hs_app (hs_app (hs_app (hs_app (hs_app (hs_app (hs_app (hs_app (hs_app hs))))))))))))))))))))))))))))))))))))))))))))))))))))) (by rw [wr_row (by omega), wr_row (by omega), wr_row (by omega), wr_row (by omega), wr_row (by omega), wr_row (by omega), wr_row (by omega), wr_row (by omega), wr_row (by omega), wr_row (by omega), wr_row (by omega), wr_row (by omega), wr_row (by omega), wr_row (by omega), wr_row (by omega), wr_row (by omega), wr_row (by omega), wr_row (by omega), wr_row (by omega), wr_row (by omega), wr_row (by omega), wr_row (by omega), wr_row (by omega), wr_row (by omega), wr_row (by omega), wr_row (by omega), wr_row (by omega), wr_row (by omega), wr_row (by omega), wr_row (by omega), wr_row (by omega), wr_row (by omega), wr_row (by omega), wr_row (by omega), wr_row (by omega), wr_row (by omega), wr_row (by omega), wr_row (by omega), wr_row (by omega), wr_same]) ?_
  refine vx_iconst (pc' := 531) dX11_init_530 rfl ?_
  refine vx_iconst (pc' := 532) dX11_init_531 rfl ?_
  refine z_iast (pc' := 533) Z dX11_init_532 rfl (by omega) (hs_app (hs_app (hs_app (hs_app (hs_app (hs_app (hs_app (hs_app (hs_app (hs_app (hs_app (hs_app (hs_app (hs_app (hs_app (hs_app (hs_app (hs_app (hs_app (hs_app (hs_app (hs_app (hs_app (hs_app (hs_app (hs_app (hs_app (hs_app (hs_app (hs_app g22)))))))))))))))))))))))))))))) (by decide) (by decide) (by decide) ⟨by decide, by decide⟩ (fun Z => ?_)
  refine vx_aload_n (i := 0) (pc' := 534) dX11_init_533 rfl rfl rfl ?_
  refine z_getR (r := (n + 23)) (pc' := 537) dX11_init_534 rfl fl_TuneDoorModel_118 rfl h2 (hs_app (hs_app (hs_app (hs_app (hs_app (hs_app (hs_app (hs_app (hs_app (hs_app (hs_app (hs_app (hs_app (hs_app (hs_app (hs_app (hs_app (hs_app (hs_app (hs_app (hs_app (hs_app (hs_app (hs_app (hs_app (hs_app (hs_app (hs_app (hs_app (hs_app (hs_app (hs_app (hs_app (hs_app (hs_app (hs_app (hs_app (hs_app (hs_app (hs_app (hs_app (hs_app (hs_app (hs_app (hs_app (hs_app (hs_app (hs_app (hs_app (hs_app (hs_app (hs_app (hs_app hs))))))))))))))))))))))))))))))))))))))))))))))))))))) (by rw [wr_obj (by omega), wr_row (by omega), wr_row (by omega), wr_row (by omega), wr_row (by omega), wr_row (by omega), wr_row (by omega), wr_row (by omega), wr_row (by omega), wr_row (by omega), wr_row (by omega), wr_row (by omega), wr_row (by omega), wr_row (by omega), wr_row (by omega), wr_row (by omega), wr_row (by omega), wr_row (by omega), wr_row (by omega), wr_row (by omega), wr_row (by omega), wr_row (by omega), wr_row (by omega), wr_row (by omega), wr_row (by omega), wr_row (by omega), wr_row (by omega), wr_row (by omega), wr_row (by omega), wr_row (by omega), wr_row (by omega), wr_row (by omega), wr_row (by omega), wr_row (by omega), wr_row (by omega), wr_row (by omega), wr_row (by omega), wr_row (by omega), wr_row (by omega), wr_same]) ?_
  refine vx_iconst (pc' := 538) dX11_init_537 rfl ?_
  refine vx_iconst (pc' := 539) dX11_init_538 rfl ?_
  refine z_iast (pc' := 540) Z dX11_init_539 rfl (by omega) (hs_app (hs_app (hs_app (hs_app (hs_app (hs_app (hs_app (hs_app (hs_app (hs_app (hs_app (hs_app (hs_app (hs_app (hs_app (hs_app (hs_app (hs_app (hs_app (hs_app (hs_app (hs_app (hs_app (hs_app (hs_app (hs_app (hs_app (hs_app (hs_app g23))))))))))))))))))))))))))))) (by decide) (by decide) (by decide) ⟨by decide, by decide⟩ (fun Z => ?_)
  refine vx_ret dX11_init_540 rfl (Nat.le_of_ble_eq_true rfl) (Nat.le_of_ble_eq_true rfl) ?_
  simp only [List.append_assoc, List.cons_append, List.nil_append] at Z ⊢
  exact k1 Z
end Ctor
