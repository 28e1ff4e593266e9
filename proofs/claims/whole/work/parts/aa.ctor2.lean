/-! the constructors that call others -/
section Ctor2
variable {X : State → Prop} {E : mm_Env} {Sh : List mm_Kd} {σ : mm_Mem} {Q : mm_Q} {o n : Nat}
theorem k_X2_init (hXO : XO E X) (hXD : ∀ s, X s → va_AO "TuneDoor$Door" s) (hXP : ∀ s, X s → va_AO "TuneDoor$Person" s) (Z : SZ n Sh σ) (h2 : 2 ≤ o) (hs : Sh[o]? = some (.inr 2)) (k1 : SZ (n + 33) (Sh ++ [.inl (.int, 3), .inl (.int, 3), .inl (.int, 3), .inl (.object "TuneDoor$Door", 4), .inl (.object "TuneDoor$Person", 4), .inr 5, .inl (.int, 1600), .inl (.int, 3), .inl (.int, 18), .inl (.int, 18), .inl (.int, 18), .inl (.int, 6), .inl (.int, 64), .inr 0, .inl (.int, 3), .inl (.int, 3), .inl (.int, 3), .inr 0, .inl (.int, 3), .inl (.int, 3), .inl (.int, 3), .inr 0, .inl (.int, 3), .inl (.int, 3), .inl (.int, 3), .inr 0, .inl (.int, 3), .inl (.int, 3), .inl (.int, 3), .inr 3, .inr 3, .inr 3, .inr 3]) (wr (wr (wr (wr (wr (wr (wr (wr (wr (wr (wr (wr (wr (wr (wr (wr (wr (wr (wr (wr (wr (wr (wr (wr (wr (wr (wr (wr (wr (wr (wr (wr (wr (wr (wr σ o 5 1) o 6 1) o 7 ((n : Nat) : Int)) o 8 (((n + 1) : Nat) : Int)) o 9 (((n + 2) : Nat) : Int)) o 10 (((n + 3) : Nat) : Int)) o 11 (((n + 4) : Nat) : Int)) (n + 5) 0 (((n + 6) : Nat) : Int)) (n + 5) 2 (((n + 7) : Nat) : Int)) (n + 5) 3 (((n + 8) : Nat) : Int)) (n + 5) 4 (((n + 9) : Nat) : Int)) (n + 5) 5 (((n + 10) : Nat) : Int)) (n + 5) 6 (((n + 11) : Nat) : Int)) (n + 5) 7 (((n + 12) : Nat) : Int)) o 12 (((n + 5) : Nat) : Int)) (n + 13) 8 (((n + 14) : Nat) : Int)) (n + 13) 9 (((n + 15) : Nat) : Int)) (n + 13) 10 (((n + 16) : Nat) : Int)) (n + 3) 0 (((n + 13) : Nat) : Int)) (n + 17) 8 (((n + 18) : Nat) : Int)) (n + 17) 9 (((n + 19) : Nat) : Int)) (n + 17) 10 (((n + 20) : Nat) : Int)) (n + 3) 1 (((n + 17) : Nat) : Int)) (n + 21) 8 (((n + 22) : Nat) : Int)) (n + 21) 9 (((n + 23) : Nat) : Int)) (n + 21) 10 (((n + 24) : Nat) : Int)) (n + 3) 2 (((n + 21) : Nat) : Int)) (n + 25) 8 (((n + 26) : Nat) : Int)) (n + 25) 9 (((n + 27) : Nat) : Int)) (n + 25) 10 (((n + 28) : Nat) : Int)) (n + 3) 3 (((n + 25) : Nat) : Int)) (n + 4) 0 (((n + 29) : Nat) : Int)) (n + 4) 1 (((n + 30) : Nat) : Int)) (n + 4) 2 (((n + 31) : Nat) : Int)) (n + 4) 3 (((n + 32) : Nat) : Int)) → Q none (Sh ++ [.inl (.int, 3), .inl (.int, 3), .inl (.int, 3), .inl (.object "TuneDoor$Door", 4), .inl (.object "TuneDoor$Person", 4), .inr 5, .inl (.int, 1600), .inl (.int, 3), .inl (.int, 18), .inl (.int, 18), .inl (.int, 18), .inl (.int, 6), .inl (.int, 64), .inr 0, .inl (.int, 3), .inl (.int, 3), .inl (.int, 3), .inr 0, .inl (.int, 3), .inl (.int, 3), .inl (.int, 3), .inr 0, .inl (.int, 3), .inl (.int, 3), .inl (.int, 3), .inr 0, .inl (.int, 3), .inl (.int, 3), .inl (.int, 3), .inr 3, .inr 3, .inr 3, .inr 3]) (wr (wr (wr (wr (wr (wr (wr (wr (wr (wr (wr (wr (wr (wr (wr (wr (wr (wr (wr (wr (wr (wr (wr (wr (wr (wr (wr (wr (wr (wr (wr (wr (wr (wr (wr σ o 5 1) o 6 1) o 7 ((n : Nat) : Int)) o 8 (((n + 1) : Nat) : Int)) o 9 (((n + 2) : Nat) : Int)) o 10 (((n + 3) : Nat) : Int)) o 11 (((n + 4) : Nat) : Int)) (n + 5) 0 (((n + 6) : Nat) : Int)) (n + 5) 2 (((n + 7) : Nat) : Int)) (n + 5) 3 (((n + 8) : Nat) : Int)) (n + 5) 4 (((n + 9) : Nat) : Int)) (n + 5) 5 (((n + 10) : Nat) : Int)) (n + 5) 6 (((n + 11) : Nat) : Int)) (n + 5) 7 (((n + 12) : Nat) : Int)) o 12 (((n + 5) : Nat) : Int)) (n + 13) 8 (((n + 14) : Nat) : Int)) (n + 13) 9 (((n + 15) : Nat) : Int)) (n + 13) 10 (((n + 16) : Nat) : Int)) (n + 3) 0 (((n + 13) : Nat) : Int)) (n + 17) 8 (((n + 18) : Nat) : Int)) (n + 17) 9 (((n + 19) : Nat) : Int)) (n + 17) 10 (((n + 20) : Nat) : Int)) (n + 3) 1 (((n + 17) : Nat) : Int)) (n + 21) 8 (((n + 22) : Nat) : Int)) (n + 21) 9 (((n + 23) : Nat) : Int)) (n + 21) 10 (((n + 24) : Nat) : Int)) (n + 3) 2 (((n + 21) : Nat) : Int)) (n + 25) 8 (((n + 26) : Nat) : Int)) (n + 25) 9 (((n + 27) : Nat) : Int)) (n + 25) 10 (((n + 28) : Nat) : Int)) (n + 3) 3 (((n + 25) : Nat) : Int)) (n + 4) 0 (((n + 29) : Nat) : Int)) (n + 4) 1 (((n + 30) : Nat) : Int)) (n + 4) 2 (((n + 31) : Nat) : Int)) (n + 4) 3 (((n + 32) : Nat) : Int))) : vmX X E 2 33 1865 qX2_init [vR o] Sh σ Q := by
  have ho : o < n := by rw [← Z.1]; exact (List.getElem?_eq_some_iff.mp hs).1
  refine vmX_of rfl (Nat.le_of_ble_eq_true rfl) [some (vR o), none] rfl ?_
  refine vx_aload_n (i := 0) (pc' := 1) dX2_init_0 rfl rfl rfl ?_
  refine vx_obj (pc' := 4) dX2_init_1 rfl wm_33 (by omega) (by decide) (by decide) ?_
  refine vx_aload_n (i := 0) (pc' := 5) dX2_init_4 rfl rfl rfl ?_
  refine vx_iconst (pc' := 6) dX2_init_5 rfl ?_
  refine z_putI (pc' := 9) Z dX2_init_6 rfl fl_TuneDoor_House_9 rfl rfl h2 hs ⟨by decide, by decide⟩ (fun Z => ?_)
  refine vx_aload_n (i := 0) (pc' := 10) dX2_init_9 rfl rfl rfl ?_
  refine vx_iconst (pc' := 11) dX2_init_10 rfl ?_
  refine z_putI (pc' := 14) Z dX2_init_11 rfl fl_TuneDoor_House_15 rfl rfl h2 hs ⟨by decide, by decide⟩ (fun Z => ?_)
  refine vx_aload_n (i := 0) (pc' := 15) dX2_init_14 rfl rfl rfl ?_
  refine vx_iconst (pc' := 16) dX2_init_15 rfl ?_
  refine z_newa (ty := .int) (t0 := 0) (N := 3) (pc' := 18) Z dX2_init_16 rfl rfl (Or.inl rfl) wm_72 (fun _ => rfl) rfl (by decide) (Nat.le_of_ble_eq_true rfl) (Nat.le_of_ble_eq_true rfl) (fun Z g0 => ?_)
  refine z_putFR (pc' := 21) Z dX2_init_18 rfl ⟨RX2, TX2, 13, rfl, (by decide : 7 < 13), rfl, rfl, wm_199⟩ rfl rfl h2 (hs_app hs) (fun Z => ?_)
  refine vx_aload_n (i := 0) (pc' := 22) dX2_init_21 rfl rfl rfl ?_
  refine vx_iconst (pc' := 23) dX2_init_22 rfl ?_
  refine z_newa (ty := .int) (t0 := 0) (N := 3) (pc' := 25) Z dX2_init_23 rfl rfl (Or.inl rfl) wm_72 (fun _ => rfl) rfl (by decide) (Nat.le_of_ble_eq_true rfl) (Nat.le_of_ble_eq_true rfl) (fun Z g1 => ?_)
  refine z_putFR (pc' := 28) Z dX2_init_25 rfl ⟨RX2, TX2, 13, rfl, (by decide : 8 < 13), rfl, rfl, wm_202⟩ rfl rfl h2 (hs_app (hs_app hs)) (fun Z => ?_)
  refine vx_aload_n (i := 0) (pc' := 29) dX2_init_28 rfl rfl rfl ?_
  refine vx_iconst (pc' := 30) dX2_init_29 rfl ?_
  refine z_newa (ty := .int) (t0 := 0) (N := 3) (pc' := 32) Z dX2_init_30 rfl rfl (Or.inl rfl) wm_72 (fun _ => rfl) rfl (by decide) (Nat.le_of_ble_eq_true rfl) (Nat.le_of_ble_eq_true rfl) (fun Z g2 => ?_)
  refine z_putFR (pc' := 35) Z dX2_init_32 rfl ⟨RX2, TX2, 13, rfl, (by decide : 9 < 13), rfl, rfl, wm_205⟩ rfl rfl h2 (hs_app (hs_app (hs_app hs))) (fun Z => ?_)
  refine vx_aload_n (i := 0) (pc' := 36) dX2_init_35 rfl rfl rfl ?_
  refine vx_iconst (pc' := 37) dX2_init_36 rfl ?_
  refine z_anew (t0 := 3) (N := 4) (pc' := 40) Z dX2_init_37 rfl wm_34 hXD (fun _ => rfl) rfl (by decide) (Nat.le_of_ble_eq_true rfl) (Nat.le_of_ble_eq_true rfl) (fun Z g3 => ?_)
  refine z_putFR (pc' := 43) Z dX2_init_40 rfl ⟨RX2, TX2, 13, rfl, (by decide : 10 < 13), rfl, rfl, wm_208⟩ rfl rfl h2 (hs_app (hs_app (hs_app (hs_app hs)))) (fun Z => ?_)
  refine vx_aload_n (i := 0) (pc' := 44) dX2_init_43 rfl rfl rfl ?_
  refine vx_iconst (pc' := 45) dX2_init_44 rfl ?_
  refine z_anew (t0 := 4) (N := 4) (pc' := 48) Z dX2_init_45 rfl wm_36 hXP (fun _ => rfl) rfl (by decide) (Nat.le_of_ble_eq_true rfl) (Nat.le_of_ble_eq_true rfl) (fun Z g4 => ?_)
  refine z_putFR (pc' := 51) Z dX2_init_48 rfl ⟨RX2, TX2, 13, rfl, (by decide : 11 < 13), rfl, rfl, wm_211⟩ rfl rfl h2 (hs_app (hs_app (hs_app (hs_app (hs_app hs))))) (fun Z => ?_)
  refine vx_aload_n (i := 0) (pc' := 52) dX2_init_51 rfl rfl rfl ?_
  refine z_new (c := 5) (pc' := 55) Z dX2_init_52 rfl rfl wm_38 wm_39 wm_3 (Nat.le_of_ble_eq_true rfl) (Nat.le_of_ble_eq_true rfl) (fun Z g5 => ?_)
  refine vx_dup (pc' := 56) dX2_init_55 rfl (fun _ hh => by cases hh) ?_
  refine vx_invIN hXO (d := 1) (mc' := 7) (ms' := 1727) (As := []) (st := [vR (n + 5), vR o]) (pc' := 59) dX2_init_56 rfl gX5_init wm_40 (by omega) wm_41 rfl rfl rfl (Nat.le_of_ble_eq_true rfl) (Nat.le_of_ble_eq_true rfl) (Nat.le_of_ble_eq_true rfl) (Nat.le_of_ble_eq_true rfl) (Nat.le_of_ble_eq_true rfl) (k_X5_init Z (by omega) g5 (fun Z => ?_))
  refine z_putFR (pc' := 62) Z dX2_init_59 rfl ⟨RX2, TX2, 13, rfl, (by decide : 12 < 13), rfl, rfl, wm_214⟩ rfl rfl h2 (hs_app (hs_app (hs_app (hs_app (hs_app (hs_app (hs_app hs))))))) (fun Z => ?_)
  refine vx_iconst (pc' := 63) dX2_init_62 rfl ?_
  refine vx_istore_n (i := 1) (pc' := 64) dX2_init_63 rfl rfl (by decide) rfl ?_
  refine vx_iload_n (i := 1) (pc' := 65) dX2_init_64 rfl rfl rfl ?_
  refine vx_iconst (pc' := 66) dX2_init_65 rfl ?_
  refine vx_icmp_ge (tgt := 88) (pc' := 69) dX2_init_66 rfl (by decide) ⟨by decide, by decide⟩ ⟨by decide, by decide⟩ (fun hb => absurd hb (by decide)) (fun _ => ?_)
  refine vx_aload_n (i := 0) (pc' := 70) dX2_init_69 rfl rfl rfl ?_
  refine z_getR (r := (n + 3)) (pc' := 73) dX2_init_70 rfl fl_TuneDoor_House_30 rfl h2 (hs_app (hs_app (hs_app (hs_app (hs_app (hs_app (hs_app hs))))))) (by rw [wr_row (by omega), wr_obj (by omega), wr_obj (by omega), wr_obj (by omega), wr_obj (by omega), wr_obj (by omega), wr_obj (by omega), wr_obj (by omega), wr_row (by omega), wr_same]) ?_
  refine vx_iload_n (i := 1) (pc' := 74) dX2_init_73 rfl rfl rfl ?_
  refine z_new (c := 0) (pc' := 77) Z dX2_init_74 rfl rfl wm_34 wm_73 wm_4 (Nat.le_of_ble_eq_true rfl) (Nat.le_of_ble_eq_true rfl) (fun Z g13 => ?_)
  refine vx_dup (pc' := 78) dX2_init_77 rfl (fun _ hh => by cases hh) ?_
  refine vx_invIN hXO (d := 1) (mc' := 3) (ms' := 9) (As := []) (st := [vR (n + 13), vI 0, vR (n + 3)]) (pc' := 81) dX2_init_78 rfl gX0_init wm_74 (by omega) wm_75 rfl rfl rfl (Nat.le_of_ble_eq_true rfl) (Nat.le_of_ble_eq_true rfl) (Nat.le_of_ble_eq_true rfl) (Nat.le_of_ble_eq_true rfl) (Nat.le_of_ble_eq_true rfl) (k_X0_init Z (by omega) g13 (fun Z => ?_))
  refine z_aast (t0 := 3) (pc' := 82) Z dX2_init_81 rfl (by omega) (hs_app (hs_app (hs_app (hs_app (hs_app g3))))) (by omega) (hs_app g13) rfl (fun _ => rfl) (by decide) (by decide) (by decide) (fun Z => ?_)
  refine vx_iinc (i := 1) (pc' := 85) dX2_init_82 rfl rfl (by decide) rfl ?_
  refine vx_goto (tgt := 64) dX2_init_85 (by decide) ?_
  refine vx_iload_n (i := 1) (pc' := 65) dX2_init_64 rfl rfl rfl ?_
  refine vx_iconst (pc' := 66) dX2_init_65 rfl ?_
  refine vx_icmp_ge (tgt := 88) (pc' := 69) dX2_init_66 rfl (by decide) ⟨by decide, by decide⟩ ⟨by decide, by decide⟩ (fun hb => absurd hb (by decide)) (fun _ => ?_)
  refine vx_aload_n (i := 0) (pc' := 70) dX2_init_69 rfl rfl rfl ?_
  refine z_getR (r := (n + 3)) (pc' := 73) dX2_init_70 rfl fl_TuneDoor_House_30 rfl h2 (hs_app (hs_app (hs_app (hs_app (hs_app (hs_app (hs_app (hs_app (hs_app hs))))))))) (by rw [wr_obj (by omega), wr_obj (by omega), wr_obj (by omega), wr_obj (by omega), wr_row (by omega), wr_obj (by omega), wr_obj (by omega), wr_obj (by omega), wr_obj (by omega), wr_obj (by omega), wr_obj (by omega), wr_obj (by omega), wr_row (by omega), wr_same]) ?_
  refine vx_iload_n (i := 1) (pc' := 74) dX2_init_73 rfl rfl rfl ?_
  refine z_new (c := 0) (pc' := 77) Z dX2_init_74 rfl rfl wm_34 wm_73 wm_4 (Nat.le_of_ble_eq_true rfl) (Nat.le_of_ble_eq_true rfl) (fun Z g17 => ?_)
  refine vx_dup (pc' := 78) dX2_init_77 rfl (fun _ hh => by cases hh) ?_
  refine vx_invIN hXO (d := 1) (mc' := 3) (ms' := 9) (As := []) (st := [vR (n + 17), vI 1, vR (n + 3)]) (pc' := 81) dX2_init_78 rfl gX0_init wm_74 (by omega) wm_75 rfl rfl rfl (Nat.le_of_ble_eq_true rfl) (Nat.le_of_ble_eq_true rfl) (Nat.le_of_ble_eq_true rfl) (Nat.le_of_ble_eq_true rfl) (Nat.le_of_ble_eq_true rfl) (k_X0_init Z (by omega) g17 (fun Z => ?_))
  refine z_aast (t0 := 3) (pc' := 82) Z dX2_init_81 rfl (by omega) (hs_app (hs_app (hs_app (hs_app (hs_app (hs_app (hs_app g3))))))) (by omega) (hs_app g17) rfl (fun _ => rfl) (by decide) (by decide) (by decide) (fun Z => ?_)
  refine vx_iinc (i := 1) (pc' := 85) dX2_init_82 rfl rfl (by decide) rfl ?_
  refine vx_goto (tgt := 64) dX2_init_85 (by decide) ?_
  refine vx_iload_n (i := 1) (pc' := 65) dX2_init_64 rfl rfl rfl ?_
  refine vx_iconst (pc' := 66) dX2_init_65 rfl ?_
  refine vx_icmp_ge (tgt := 88) (pc' := 69) dX2_init_66 rfl (by decide) ⟨by decide, by decide⟩ ⟨by decide, by decide⟩ (fun hb => absurd hb (by decide)) (fun _ => ?_)
  refine vx_aload_n (i := 0) (pc' := 70) dX2_init_69 rfl rfl rfl ?_
  refine z_getR (r := (n + 3)) (pc' := 73) dX2_init_70 rfl fl_TuneDoor_House_30 rfl h2 (hs_app (hs_app (hs_app (hs_app (hs_app (hs_app (hs_app (hs_app (hs_app (hs_app (hs_app hs))))))))))) (by rw [wr_obj (by omega), wr_obj (by omega), wr_obj (by omega), wr_obj (by omega), wr_obj (by omega), wr_obj (by omega), wr_obj (by omega), wr_obj (by omega), wr_row (by omega), wr_obj (by omega), wr_obj (by omega), wr_obj (by omega), wr_obj (by omega), wr_obj (by omega), wr_obj (by omega), wr_obj (by omega), wr_row (by omega), wr_same]) ?_
  refine vx_iload_n (i := 1) (pc' := 74) dX2_init_73 rfl rfl rfl ?_
  refine z_new (c := 0) (pc' := 77) Z dX2_init_74 rfl rfl wm_34 wm_73 wm_4 (Nat.le_of_ble_eq_true rfl) (Nat.le_of_ble_eq_true rfl) (fun Z g21 => ?_)
  refine vx_dup (pc' := 78) dX2_init_77 rfl (fun _ hh => by cases hh) ?_
  refine vx_invIN hXO (d := 1) (mc' := 3) (ms' := 9) (As := []) (st := [vR (n + 21), vI 2, vR (n + 3)]) (pc' := 81) dX2_init_78 rfl gX0_init wm_74 (by omega) wm_75 rfl rfl rfl (Nat.le_of_ble_eq_true rfl) (Nat.le_of_ble_eq_true rfl) (Nat.le_of_ble_eq_true rfl) (Nat.le_of_ble_eq_true rfl) (Nat.le_of_ble_eq_true rfl) (k_X0_init Z (by omega) g21 (fun Z => ?_))
  refine z_aast (t0 := 3) (pc' := 82) Z dX2_init_81 rfl (by omega) (hs_app (hs_app (hs_app (hs_app (hs_app (hs_app (hs_app (hs_app (hs_app g3))))))))) (by omega) (hs_app g21) rfl (fun _ => rfl) (by decide) (by decide) (by decide) (fun Z => ?_)
  refine vx_iinc (i := 1) (pc' := 85) dX2_init_82 rfl rfl (by decide) rfl ?_
  refine vx_goto (tgt := 64) dX2_init_85 (by decide) ?_
  refine vx_iload_n (i := 1) (pc' := 65) dX2_init_64 rfl rfl rfl ?_
  refine vx_iconst (pc' := 66) dX2_init_65 rfl ?_
  refine vx_icmp_ge (tgt := 88) (pc' := 69) dX2_init_66 rfl (by decide) ⟨by decide, by decide⟩ ⟨by decide, by decide⟩ (fun hb => absurd hb (by decide)) (fun _ => ?_)
  refine vx_aload_n (i := 0) (pc' := 70) dX2_init_69 rfl rfl rfl ?_
  refine z_getR (r := (n + 3)) (pc' := 73) dX2_init_70 rfl fl_TuneDoor_House_30 rfl h2 (hs_app (hs_app (hs_app (hs_app (hs_app (hs_app (hs_app (hs_app (hs_app (hs_app (hs_app (hs_app (hs_app hs))))))))))))) (by rw [wr_obj (by omega), wr_obj (by omega), wr_obj (by omega), wr_obj (by omega), wr_obj (by omega), wr_obj (by omega), wr_obj (by omega), wr_obj (by omega), wr_obj (by omega), wr_obj (by omega), wr_obj (by omega), wr_obj (by omega), wr_row (by omega), wr_obj (by omega), wr_obj (by omega), wr_obj (by omega), wr_obj (by omega), wr_obj (by omega), wr_obj (by omega), wr_obj (by omega), wr_row (by omega), wr_same]) ?_
  refine vx_iload_n (i := 1) (pc' := 74) dX2_init_73 rfl rfl rfl ?_
  refine z_new (c := 0) (pc' := 77) Z dX2_init_74 rfl rfl wm_34 wm_73 wm_4 (Nat.le_of_ble_eq_true rfl) (Nat.le_of_ble_eq_true rfl) (fun Z g25 => ?_)
  refine vx_dup (pc' := 78) dX2_init_77 rfl (fun _ hh => by cases hh) ?_
  refine vx_invIN hXO (d := 1) (mc' := 3) (ms' := 9) (As := []) (st := [vR (n + 25), vI 3, vR (n + 3)]) (pc' := 81) dX2_init_78 rfl gX0_init wm_74 (by omega) wm_75 rfl rfl rfl (Nat.le_of_ble_eq_true rfl) (Nat.le_of_ble_eq_true rfl) (Nat.le_of_ble_eq_true rfl) (Nat.le_of_ble_eq_true rfl) (Nat.le_of_ble_eq_true rfl) (k_X0_init Z (by omega) g25 (fun Z => ?_))
  refine z_aast (t0 := 3) (pc' := 82) Z dX2_init_81 rfl (by omega) (hs_app (hs_app (hs_app (hs_app (hs_app (hs_app (hs_app (hs_app (hs_app (hs_app (hs_app g3))))))))))) (by omega) (hs_app g25) rfl (fun _ => rfl) (by decide) (by decide) (by decide) (fun Z => ?_)
  refine vx_iinc (i := 1) (pc' := 85) dX2_init_82 rfl rfl (by decide) rfl ?_
  refine vx_goto (tgt := 64) dX2_init_85 (by decide) ?_
  refine vx_iload_n (i := 1) (pc' := 65) dX2_init_64 rfl rfl rfl ?_
  refine vx_iconst (pc' := 66) dX2_init_65 rfl ?_
  refine vx_icmp_ge (tgt := 88) (pc' := 69) dX2_init_66 rfl (by decide) ⟨by decide, by decide⟩ ⟨by decide, by decide⟩ (fun _ => ?_) (fun hb => absurd hb (by decide))
  refine vx_iconst (pc' := 89) dX2_init_88 rfl ?_
  refine vx_istore_n (i := 1) (pc' := 90) dX2_init_89 rfl rfl (by decide) rfl ?_
  refine vx_iload_n (i := 1) (pc' := 91) dX2_init_90 rfl rfl rfl ?_
  refine vx_iconst (pc' := 92) dX2_init_91 rfl ?_
  refine vx_icmp_ge (tgt := 114) (pc' := 95) dX2_init_92 rfl (by decide) ⟨by decide, by decide⟩ ⟨by decide, by decide⟩ (fun hb => absurd hb (by decide)) (fun _ => ?_)
  refine vx_aload_n (i := 0) (pc' := 96) dX2_init_95 rfl rfl rfl ?_
  refine z_getR (r := (n + 4)) (pc' := 99) dX2_init_96 rfl fl_TuneDoor_House_36 rfl h2 (hs_app (hs_app (hs_app (hs_app (hs_app (hs_app (hs_app (hs_app (hs_app (hs_app (hs_app (hs_app (hs_app (hs_app (hs_app hs))))))))))))))) (by rw [wr_obj (by omega), wr_obj (by omega), wr_obj (by omega), wr_obj (by omega), wr_obj (by omega), wr_obj (by omega), wr_obj (by omega), wr_obj (by omega), wr_obj (by omega), wr_obj (by omega), wr_obj (by omega), wr_obj (by omega), wr_obj (by omega), wr_obj (by omega), wr_obj (by omega), wr_obj (by omega), wr_row (by omega), wr_obj (by omega), wr_obj (by omega), wr_obj (by omega), wr_obj (by omega), wr_obj (by omega), wr_obj (by omega), wr_obj (by omega), wr_same]) ?_
  refine vx_iload_n (i := 1) (pc' := 100) dX2_init_99 rfl rfl rfl ?_
  refine z_new (c := 3) (pc' := 103) Z dX2_init_100 rfl rfl wm_36 wm_133 wm_5 (Nat.le_of_ble_eq_true rfl) (Nat.le_of_ble_eq_true rfl) (fun Z g29 => ?_)
  refine vx_dup (pc' := 104) dX2_init_103 rfl (fun _ hh => by cases hh) ?_
  refine vx_invIN hXO (d := 1) (mc' := 0) (ms' := 0) (As := []) (st := [vR (n + 29), vI 0, vR (n + 4)]) (pc' := 107) dX2_init_104 rfl gX3_init wm_134 (by omega) wm_135 rfl rfl rfl (Nat.le_of_ble_eq_true rfl) (Nat.le_of_ble_eq_true rfl) (Nat.le_of_ble_eq_true rfl) (Nat.le_of_ble_eq_true rfl) (Nat.le_of_ble_eq_true rfl) (k_X3_init Z (by omega) g29 (fun Z => ?_))
  refine z_aast (t0 := 4) (pc' := 108) Z dX2_init_107 rfl (by omega) (hs_app (hs_app (hs_app (hs_app (hs_app (hs_app (hs_app (hs_app (hs_app (hs_app (hs_app g4))))))))))) (by omega) g29 rfl (fun _ => rfl) (by decide) (by decide) (by decide) (fun Z => ?_)
  refine vx_iinc (i := 1) (pc' := 111) dX2_init_108 rfl rfl (by decide) rfl ?_
  refine vx_goto (tgt := 90) dX2_init_111 (by decide) ?_
  refine vx_iload_n (i := 1) (pc' := 91) dX2_init_90 rfl rfl rfl ?_
  refine vx_iconst (pc' := 92) dX2_init_91 rfl ?_
  refine vx_icmp_ge (tgt := 114) (pc' := 95) dX2_init_92 rfl (by decide) ⟨by decide, by decide⟩ ⟨by decide, by decide⟩ (fun hb => absurd hb (by decide)) (fun _ => ?_)
  refine vx_aload_n (i := 0) (pc' := 96) dX2_init_95 rfl rfl rfl ?_
  refine z_getR (r := (n + 4)) (pc' := 99) dX2_init_96 rfl fl_TuneDoor_House_36 rfl h2 (hs_app (hs_app (hs_app (hs_app (hs_app (hs_app (hs_app (hs_app (hs_app (hs_app (hs_app (hs_app (hs_app (hs_app (hs_app (hs_app hs)))))))))))))))) (by rw [wr_obj (by omega), wr_obj (by omega), wr_obj (by omega), wr_obj (by omega), wr_obj (by omega), wr_obj (by omega), wr_obj (by omega), wr_obj (by omega), wr_obj (by omega), wr_obj (by omega), wr_obj (by omega), wr_obj (by omega), wr_obj (by omega), wr_obj (by omega), wr_obj (by omega), wr_obj (by omega), wr_obj (by omega), wr_row (by omega), wr_obj (by omega), wr_obj (by omega), wr_obj (by omega), wr_obj (by omega), wr_obj (by omega), wr_obj (by omega), wr_obj (by omega), wr_same]) ?_
  refine vx_iload_n (i := 1) (pc' := 100) dX2_init_99 rfl rfl rfl ?_
  refine z_new (c := 3) (pc' := 103) Z dX2_init_100 rfl rfl wm_36 wm_133 wm_5 (Nat.le_of_ble_eq_true rfl) (Nat.le_of_ble_eq_true rfl) (fun Z g30 => ?_)
  refine vx_dup (pc' := 104) dX2_init_103 rfl (fun _ hh => by cases hh) ?_
  refine vx_invIN hXO (d := 1) (mc' := 0) (ms' := 0) (As := []) (st := [vR (n + 30), vI 1, vR (n + 4)]) (pc' := 107) dX2_init_104 rfl gX3_init wm_134 (by omega) wm_135 rfl rfl rfl (Nat.le_of_ble_eq_true rfl) (Nat.le_of_ble_eq_true rfl) (Nat.le_of_ble_eq_true rfl) (Nat.le_of_ble_eq_true rfl) (Nat.le_of_ble_eq_true rfl) (k_X3_init Z (by omega) g30 (fun Z => ?_))
  refine z_aast (t0 := 4) (pc' := 108) Z dX2_init_107 rfl (by omega) (hs_app (hs_app (hs_app (hs_app (hs_app (hs_app (hs_app (hs_app (hs_app (hs_app (hs_app (hs_app g4)))))))))))) (by omega) g30 rfl (fun _ => rfl) (by decide) (by decide) (by decide) (fun Z => ?_)
  refine vx_iinc (i := 1) (pc' := 111) dX2_init_108 rfl rfl (by decide) rfl ?_
  refine vx_goto (tgt := 90) dX2_init_111 (by decide) ?_
  refine vx_iload_n (i := 1) (pc' := 91) dX2_init_90 rfl rfl rfl ?_
  refine vx_iconst (pc' := 92) dX2_init_91 rfl ?_
  refine vx_icmp_ge (tgt := 114) (pc' := 95) dX2_init_92 rfl (by decide) ⟨by decide, by decide⟩ ⟨by decide, by decide⟩ (fun hb => absurd hb (by decide)) (fun _ => ?_)
  refine vx_aload_n (i := 0) (pc' := 96) dX2_init_95 rfl rfl rfl ?_
  refine z_getR (r := (n + 4)) (pc' := 99) dX2_init_96 rfl fl_TuneDoor_House_36 rfl h2 (hs_app (hs_app (hs_app (hs_app (hs_app (hs_app (hs_app (hs_app (hs_app (hs_app (hs_app (hs_app (hs_app (hs_app (hs_app (hs_app (hs_app hs))))))))))))))))) (by rw [wr_obj (by omega), wr_obj (by omega), wr_obj (by omega), wr_obj (by omega), wr_obj (by omega), wr_obj (by omega), wr_obj (by omega), wr_obj (by omega), wr_obj (by omega), wr_obj (by omega), wr_obj (by omega), wr_obj (by omega), wr_obj (by omega), wr_obj (by omega), wr_obj (by omega), wr_obj (by omega), wr_obj (by omega), wr_obj (by omega), wr_row (by omega), wr_obj (by omega), wr_obj (by omega), wr_obj (by omega), wr_obj (by omega), wr_obj (by omega), wr_obj (by omega), wr_obj (by omega), wr_same]) ?_
  refine vx_iload_n (i := 1) (pc' := 100) dX2_init_99 rfl rfl rfl ?_
  refine z_new (c := 3) (pc' := 103) Z dX2_init_100 rfl rfl wm_36 wm_133 wm_5 (Nat.le_of_ble_eq_true rfl) (Nat.le_of_ble_eq_true rfl) (fun Z g31 => ?_)
  refine vx_dup (pc' := 104) dX2_init_103 rfl (fun _ hh => by cases hh) ?_
  refine vx_invIN hXO (d := 1) (mc' := 0) (ms' := 0) (As := []) (st := [vR (n + 31), vI 2, vR (n + 4)]) (pc' := 107) dX2_init_104 rfl gX3_init wm_134 (by omega) wm_135 rfl rfl rfl (Nat.le_of_ble_eq_true rfl) (Nat.le_of_ble_eq_true rfl) (Nat.le_of_ble_eq_true rfl) (Nat.le_of_ble_eq_true rfl) (Nat.le_of_ble_eq_true rfl) (k_X3_init Z (by omega) g31 (fun Z => ?_))
  refine z_aast (t0 := 4) (pc' := 108) Z dX2_init_107 rfl (by omega) (hs_app (hs_app (hs_app (hs_app (hs_app (hs_app (hs_app (hs_app (hs_app (hs_app (hs_app (hs_app (hs_app g4))))))))))))) (by omega) g31 rfl (fun _ => rfl) (by decide) (by decide) (by decide) (fun Z => ?_)
  refine vx_iinc (i := 1) (pc' := 111) dX2_init_108 rfl rfl (by decide) rfl ?_
  refine vx_goto (tgt := 90) dX2_init_111 (by decide) ?_
  refine vx_iload_n (i := 1) (pc' := 91) dX2_init_90 rfl rfl rfl ?_
  refine vx_iconst (pc' := 92) dX2_init_91 rfl ?_
  refine vx_icmp_ge (tgt := 114) (pc' := 95) dX2_init_92 rfl (by decide) ⟨by decide, by decide⟩ ⟨by decide, by decide⟩ (fun hb => absurd hb (by decide)) (fun _ => ?_)
  refine vx_aload_n (i := 0) (pc' := 96) dX2_init_95 rfl rfl rfl ?_
  refine z_getR (r := (n + 4)) (pc' := 99) dX2_init_96 rfl fl_TuneDoor_House_36 rfl h2 (hs_app (hs_app (hs_app (hs_app (hs_app (hs_app (hs_app (hs_app (hs_app (hs_app (hs_app (hs_app (hs_app (hs_app (hs_app (hs_app (hs_app (hs_app hs)))))))))))))))))) (by rw [wr_obj (by omega), wr_obj (by omega), wr_obj (by omega), wr_obj (by omega), wr_obj (by omega), wr_obj (by omega), wr_obj (by omega), wr_obj (by omega), wr_obj (by omega), wr_obj (by omega), wr_obj (by omega), wr_obj (by omega), wr_obj (by omega), wr_obj (by omega), wr_obj (by omega), wr_obj (by omega), wr_obj (by omega), wr_obj (by omega), wr_obj (by omega), wr_row (by omega), wr_obj (by omega), wr_obj (by omega), wr_obj (by omega), wr_obj (by omega), wr_obj (by omega), wr_obj (by omega), wr_obj (by omega), wr_same]) ?_
  refine vx_iload_n (i := 1) (pc' := 100) dX2_init_99 rfl rfl rfl ?_
  refine z_new (c := 3) (pc' := 103) Z dX2_init_100 rfl rfl wm_36 wm_133 wm_5 (Nat.le_of_ble_eq_true rfl) (Nat.le_of_ble_eq_true rfl) (fun Z g32 => ?_)
  refine vx_dup (pc' := 104) dX2_init_103 rfl (fun _ hh => by cases hh) ?_
  refine vx_invIN hXO (d := 1) (mc' := 0) (ms' := 0) (As := []) (st := [vR (n + 32), vI 3, vR (n + 4)]) (pc' := 107) dX2_init_104 rfl gX3_init wm_134 (by omega) wm_135 rfl rfl rfl (Nat.le_of_ble_eq_true rfl) (Nat.le_of_ble_eq_true rfl) (Nat.le_of_ble_eq_true rfl) (Nat.le_of_ble_eq_true rfl) (Nat.le_of_ble_eq_true rfl) (k_X3_init Z (by omega) g32 (fun Z => ?_))
  refine z_aast (t0 := 4) (pc' := 108) Z dX2_init_107 rfl (by omega) (hs_app (hs_app (hs_app (hs_app (hs_app (hs_app (hs_app (hs_app (hs_app (hs_app (hs_app (hs_app (hs_app (hs_app g4)))))))))))))) (by omega) g32 rfl (fun _ => rfl) (by decide) (by decide) (by decide) (fun Z => ?_)
  refine vx_iinc (i := 1) (pc' := 111) dX2_init_108 rfl rfl (by decide) rfl ?_
  refine vx_goto (tgt := 90) dX2_init_111 (by decide) ?_
  refine vx_iload_n (i := 1) (pc' := 91) dX2_init_90 rfl rfl rfl ?_
  refine vx_iconst (pc' := 92) dX2_init_91 rfl ?_
  refine vx_icmp_ge (tgt := 114) (pc' := 95) dX2_init_92 rfl (by decide) ⟨by decide, by decide⟩ ⟨by decide, by decide⟩ (fun _ => ?_) (fun hb => absurd hb (by decide))
  refine vx_ret dX2_init_114 rfl (Nat.le_of_ble_eq_true rfl) (Nat.le_of_ble_eq_true rfl) ?_
  simp only [List.append_assoc, List.cons_append, List.nil_append] at Z ⊢
  exact k1 Z
theorem k_X8_init (hXO : XO E X) (hXD : ∀ s, X s → va_AO "TuneDoor$Door" s) {a0 : Nat} (Z : SZ n Sh σ) (h2 : 2 ≤ o) (hs : Sh[o]? = some (.inr 8)) (k1 : SZ (n + 37) (Sh ++ [.inl (.object "TuneDoor$Door", 9), .inr 0, .inl (.int, 3), .inl (.int, 3), .inl (.int, 3), .inr 0, .inl (.int, 3), .inl (.int, 3), .inl (.int, 3), .inr 0, .inl (.int, 3), .inl (.int, 3), .inl (.int, 3), .inr 0, .inl (.int, 3), .inl (.int, 3), .inl (.int, 3), .inr 0, .inl (.int, 3), .inl (.int, 3), .inl (.int, 3), .inr 0, .inl (.int, 3), .inl (.int, 3), .inl (.int, 3), .inr 0, .inl (.int, 3), .inl (.int, 3), .inl (.int, 3), .inr 0, .inl (.int, 3), .inl (.int, 3), .inl (.int, 3), .inr 0, .inl (.int, 3), .inl (.int, 3), .inl (.int, 3)]) (wr (wr (wr (wr (wr (wr (wr (wr (wr (wr (wr (wr (wr (wr (wr (wr (wr (wr (wr (wr (wr (wr (wr (wr (wr (wr (wr (wr (wr (wr (wr (wr (wr (wr (wr (wr (wr (wr σ o 1 ((n : Nat) : Int)) o 0 ((a0 : Nat) : Int)) (n + 1) 8 (((n + 2) : Nat) : Int)) (n + 1) 9 (((n + 3) : Nat) : Int)) (n + 1) 10 (((n + 4) : Nat) : Int)) n 0 (((n + 1) : Nat) : Int)) (n + 5) 8 (((n + 6) : Nat) : Int)) (n + 5) 9 (((n + 7) : Nat) : Int)) (n + 5) 10 (((n + 8) : Nat) : Int)) n 1 (((n + 5) : Nat) : Int)) (n + 9) 8 (((n + 10) : Nat) : Int)) (n + 9) 9 (((n + 11) : Nat) : Int)) (n + 9) 10 (((n + 12) : Nat) : Int)) n 2 (((n + 9) : Nat) : Int)) (n + 13) 8 (((n + 14) : Nat) : Int)) (n + 13) 9 (((n + 15) : Nat) : Int)) (n + 13) 10 (((n + 16) : Nat) : Int)) n 3 (((n + 13) : Nat) : Int)) (n + 17) 8 (((n + 18) : Nat) : Int)) (n + 17) 9 (((n + 19) : Nat) : Int)) (n + 17) 10 (((n + 20) : Nat) : Int)) n 4 (((n + 17) : Nat) : Int)) (n + 21) 8 (((n + 22) : Nat) : Int)) (n + 21) 9 (((n + 23) : Nat) : Int)) (n + 21) 10 (((n + 24) : Nat) : Int)) n 5 (((n + 21) : Nat) : Int)) (n + 25) 8 (((n + 26) : Nat) : Int)) (n + 25) 9 (((n + 27) : Nat) : Int)) (n + 25) 10 (((n + 28) : Nat) : Int)) n 6 (((n + 25) : Nat) : Int)) (n + 29) 8 (((n + 30) : Nat) : Int)) (n + 29) 9 (((n + 31) : Nat) : Int)) (n + 29) 10 (((n + 32) : Nat) : Int)) n 7 (((n + 29) : Nat) : Int)) (n + 33) 8 (((n + 34) : Nat) : Int)) (n + 33) 9 (((n + 35) : Nat) : Int)) (n + 33) 10 (((n + 36) : Nat) : Int)) n 8 (((n + 33) : Nat) : Int)) → Q none (Sh ++ [.inl (.object "TuneDoor$Door", 9), .inr 0, .inl (.int, 3), .inl (.int, 3), .inl (.int, 3), .inr 0, .inl (.int, 3), .inl (.int, 3), .inl (.int, 3), .inr 0, .inl (.int, 3), .inl (.int, 3), .inl (.int, 3), .inr 0, .inl (.int, 3), .inl (.int, 3), .inl (.int, 3), .inr 0, .inl (.int, 3), .inl (.int, 3), .inl (.int, 3), .inr 0, .inl (.int, 3), .inl (.int, 3), .inl (.int, 3), .inr 0, .inl (.int, 3), .inl (.int, 3), .inl (.int, 3), .inr 0, .inl (.int, 3), .inl (.int, 3), .inl (.int, 3), .inr 0, .inl (.int, 3), .inl (.int, 3), .inl (.int, 3)]) (wr (wr (wr (wr (wr (wr (wr (wr (wr (wr (wr (wr (wr (wr (wr (wr (wr (wr (wr (wr (wr (wr (wr (wr (wr (wr (wr (wr (wr (wr (wr (wr (wr (wr (wr (wr (wr (wr σ o 1 ((n : Nat) : Int)) o 0 ((a0 : Nat) : Int)) (n + 1) 8 (((n + 2) : Nat) : Int)) (n + 1) 9 (((n + 3) : Nat) : Int)) (n + 1) 10 (((n + 4) : Nat) : Int)) n 0 (((n + 1) : Nat) : Int)) (n + 5) 8 (((n + 6) : Nat) : Int)) (n + 5) 9 (((n + 7) : Nat) : Int)) (n + 5) 10 (((n + 8) : Nat) : Int)) n 1 (((n + 5) : Nat) : Int)) (n + 9) 8 (((n + 10) : Nat) : Int)) (n + 9) 9 (((n + 11) : Nat) : Int)) (n + 9) 10 (((n + 12) : Nat) : Int)) n 2 (((n + 9) : Nat) : Int)) (n + 13) 8 (((n + 14) : Nat) : Int)) (n + 13) 9 (((n + 15) : Nat) : Int)) (n + 13) 10 (((n + 16) : Nat) : Int)) n 3 (((n + 13) : Nat) : Int)) (n + 17) 8 (((n + 18) : Nat) : Int)) (n + 17) 9 (((n + 19) : Nat) : Int)) (n + 17) 10 (((n + 20) : Nat) : Int)) n 4 (((n + 17) : Nat) : Int)) (n + 21) 8 (((n + 22) : Nat) : Int)) (n + 21) 9 (((n + 23) : Nat) : Int)) (n + 21) 10 (((n + 24) : Nat) : Int)) n 5 (((n + 21) : Nat) : Int)) (n + 25) 8 (((n + 26) : Nat) : Int)) (n + 25) 9 (((n + 27) : Nat) : Int)) (n + 25) 10 (((n + 28) : Nat) : Int)) n 6 (((n + 25) : Nat) : Int)) (n + 29) 8 (((n + 30) : Nat) : Int)) (n + 29) 9 (((n + 31) : Nat) : Int)) (n + 29) 10 (((n + 32) : Nat) : Int)) n 7 (((n + 29) : Nat) : Int)) (n + 33) 8 (((n + 34) : Nat) : Int)) (n + 33) 9 (((n + 35) : Nat) : Int)) (n + 33) 10 (((n + 36) : Nat) : Int)) n 8 (((n + 33) : Nat) : Int))) : vmX X E 2 37 189 qX8_init [vR o, vR a0] Sh σ Q := by
  have ho : o < n := by rw [← Z.1]; exact (List.getElem?_eq_some_iff.mp hs).1
  refine vmX_of rfl (Nat.le_of_ble_eq_true rfl) [some (vR o), some (vR a0), none] rfl ?_
  refine vx_aload_n (i := 0) (pc' := 1) dX8_init_0 rfl rfl rfl ?_
  refine vx_obj (pc' := 4) dX8_init_1 rfl wm_401 (by omega) (by decide) (by decide) ?_
  refine vx_aload_n (i := 0) (pc' := 5) dX8_init_4 rfl rfl rfl ?_
  refine vx_bipush (pc' := 7) dX8_init_5 rfl (by decide) ?_
  refine z_anew (t0 := 3) (N := 9) (pc' := 10) Z dX8_init_7 rfl wm_402 hXD (fun _ => rfl) rfl (by decide) (Nat.le_of_ble_eq_true rfl) (Nat.le_of_ble_eq_true rfl) (fun Z g0 => ?_)
  refine z_putFR (pc' := 13) Z dX8_init_10 rfl ⟨RX8, TX8, 5, rfl, (by decide : 1 < 5), rfl, rfl, wm_405⟩ rfl rfl h2 (hs_app hs) (fun Z => ?_)
  refine vx_aload_n (i := 0) (pc' := 14) dX8_init_13 rfl rfl rfl ?_
  refine vx_aload_n (i := 1) (pc' := 15) dX8_init_14 rfl rfl rfl ?_
  refine z_putFR (pc' := 18) Z dX8_init_15 rfl ⟨RX8, TX8, 5, rfl, (by decide : 0 < 5), rfl, rfl, wm_404⟩ rfl rfl h2 (hs_app hs) (fun Z => ?_)
  refine vx_iconst (pc' := 19) dX8_init_18 rfl ?_
  refine vx_istore_n (i := 2) (pc' := 20) dX8_init_19 rfl rfl (by decide) rfl ?_
  refine vx_iload_n (i := 2) (pc' := 21) dX8_init_20 rfl rfl rfl ?_
  refine vx_bipush (pc' := 23) dX8_init_21 rfl (by decide) ?_
  refine vx_icmp_gt (tgt := 45) (pc' := 26) dX8_init_23 rfl (by decide) ⟨by decide, by decide⟩ ⟨by decide, by decide⟩ (fun hb => absurd hb (by decide)) (fun _ => ?_)
  refine vx_aload_n (i := 0) (pc' := 27) dX8_init_26 rfl rfl rfl ?_
  refine z_getR (r := n) (pc' := 30) dX8_init_27 rfl fl_TuneDoor_Ways_11 rfl h2 (hs_app hs) (by rw [wr_row (by omega), wr_same]) ?_
  refine vx_iload_n (i := 2) (pc' := 31) dX8_init_30 rfl rfl rfl ?_
  refine z_new (c := 0) (pc' := 34) Z dX8_init_31 rfl rfl wm_402 wm_73 wm_4 (Nat.le_of_ble_eq_true rfl) (Nat.le_of_ble_eq_true rfl) (fun Z g1 => ?_)
  refine vx_dup (pc' := 35) dX8_init_34 rfl (fun _ hh => by cases hh) ?_
  refine vx_invIN hXO (d := 1) (mc' := 3) (ms' := 9) (As := []) (st := [vR (n + 1), vI 0, vR n]) (pc' := 38) dX8_init_35 rfl gX0_init wm_403 (by omega) wm_75 rfl rfl rfl (Nat.le_of_ble_eq_true rfl) (Nat.le_of_ble_eq_true rfl) (Nat.le_of_ble_eq_true rfl) (Nat.le_of_ble_eq_true rfl) (Nat.le_of_ble_eq_true rfl) (k_X0_init Z (by omega) g1 (fun Z => ?_))
  refine z_aast (t0 := 3) (pc' := 39) Z dX8_init_38 rfl (by omega) (hs_app (hs_app g0)) (by omega) (hs_app g1) rfl (fun _ => rfl) (by decide) (by decide) (by decide) (fun Z => ?_)
  refine vx_iinc (i := 2) (pc' := 42) dX8_init_39 rfl rfl (by decide) rfl ?_
  refine vx_goto (tgt := 20) dX8_init_42 (by decide) ?_
  refine vx_iload_n (i := 2) (pc' := 21) dX8_init_20 rfl rfl rfl ?_
  refine vx_bipush (pc' := 23) dX8_init_21 rfl (by decide) ?_
  refine vx_icmp_gt (tgt := 45) (pc' := 26) dX8_init_23 rfl (by decide) ⟨by decide, by decide⟩ ⟨by decide, by decide⟩ (fun hb => absurd hb (by decide)) (fun _ => ?_)
  refine vx_aload_n (i := 0) (pc' := 27) dX8_init_26 rfl rfl rfl ?_
  refine z_getR (r := n) (pc' := 30) dX8_init_27 rfl fl_TuneDoor_Ways_11 rfl h2 (hs_app (hs_app (hs_app hs))) (by rw [wr_obj (by omega), wr_obj (by omega), wr_obj (by omega), wr_obj (by omega), wr_row (by omega), wr_same]) ?_
  refine vx_iload_n (i := 2) (pc' := 31) dX8_init_30 rfl rfl rfl ?_
  refine z_new (c := 0) (pc' := 34) Z dX8_init_31 rfl rfl wm_402 wm_73 wm_4 (Nat.le_of_ble_eq_true rfl) (Nat.le_of_ble_eq_true rfl) (fun Z g5 => ?_)
  refine vx_dup (pc' := 35) dX8_init_34 rfl (fun _ hh => by cases hh) ?_
  refine vx_invIN hXO (d := 1) (mc' := 3) (ms' := 9) (As := []) (st := [vR (n + 5), vI 1, vR n]) (pc' := 38) dX8_init_35 rfl gX0_init wm_403 (by omega) wm_75 rfl rfl rfl (Nat.le_of_ble_eq_true rfl) (Nat.le_of_ble_eq_true rfl) (Nat.le_of_ble_eq_true rfl) (Nat.le_of_ble_eq_true rfl) (Nat.le_of_ble_eq_true rfl) (k_X0_init Z (by omega) g5 (fun Z => ?_))
  refine z_aast (t0 := 3) (pc' := 39) Z dX8_init_38 rfl (by omega) (hs_app (hs_app (hs_app (hs_app g0)))) (by omega) (hs_app g5) rfl (fun _ => rfl) (by decide) (by decide) (by decide) (fun Z => ?_)
  refine vx_iinc (i := 2) (pc' := 42) dX8_init_39 rfl rfl (by decide) rfl ?_
  refine vx_goto (tgt := 20) dX8_init_42 (by decide) ?_
  refine vx_iload_n (i := 2) (pc' := 21) dX8_init_20 rfl rfl rfl ?_
  refine vx_bipush (pc' := 23) dX8_init_21 rfl (by decide) ?_
  refine vx_icmp_gt (tgt := 45) (pc' := 26) dX8_init_23 rfl (by decide) ⟨by decide, by decide⟩ ⟨by decide, by decide⟩ (fun hb => absurd hb (by decide)) (fun _ => ?_)
  refine vx_aload_n (i := 0) (pc' := 27) dX8_init_26 rfl rfl rfl ?_
  refine z_getR (r := n) (pc' := 30) dX8_init_27 rfl fl_TuneDoor_Ways_11 rfl h2 (hs_app (hs_app (hs_app (hs_app (hs_app hs))))) (by rw [wr_obj (by omega), wr_obj (by omega), wr_obj (by omega), wr_obj (by omega), wr_obj (by omega), wr_obj (by omega), wr_obj (by omega), wr_obj (by omega), wr_row (by omega), wr_same]) ?_
  refine vx_iload_n (i := 2) (pc' := 31) dX8_init_30 rfl rfl rfl ?_
  refine z_new (c := 0) (pc' := 34) Z dX8_init_31 rfl rfl wm_402 wm_73 wm_4 (Nat.le_of_ble_eq_true rfl) (Nat.le_of_ble_eq_true rfl) (fun Z g9 => ?_)
  refine vx_dup (pc' := 35) dX8_init_34 rfl (fun _ hh => by cases hh) ?_
  refine vx_invIN hXO (d := 1) (mc' := 3) (ms' := 9) (As := []) (st := [vR (n + 9), vI 2, vR n]) (pc' := 38) dX8_init_35 rfl gX0_init wm_403 (by omega) wm_75 rfl rfl rfl (Nat.le_of_ble_eq_true rfl) (Nat.le_of_ble_eq_true rfl) (Nat.le_of_ble_eq_true rfl) (Nat.le_of_ble_eq_true rfl) (Nat.le_of_ble_eq_true rfl) (k_X0_init Z (by omega) g9 (fun Z => ?_))
  refine z_aast (t0 := 3) (pc' := 39) Z dX8_init_38 rfl (by omega) (hs_app (hs_app (hs_app (hs_app (hs_app (hs_app g0)))))) (by omega) (hs_app g9) rfl (fun _ => rfl) (by decide) (by decide) (by decide) (fun Z => ?_)
  refine vx_iinc (i := 2) (pc' := 42) dX8_init_39 rfl rfl (by decide) rfl ?_
  refine vx_goto (tgt := 20) dX8_init_42 (by decide) ?_
  refine vx_iload_n (i := 2) (pc' := 21) dX8_init_20 rfl rfl rfl ?_
  refine vx_bipush (pc' := 23) dX8_init_21 rfl (by decide) ?_
  refine vx_icmp_gt (tgt := 45) (pc' := 26) dX8_init_23 rfl (by decide) ⟨by decide, by decide⟩ ⟨by decide, by decide⟩ (fun hb => absurd hb (by decide)) (fun _ => ?_)
  refine vx_aload_n (i := 0) (pc' := 27) dX8_init_26 rfl rfl rfl ?_
  refine z_getR (r := n) (pc' := 30) dX8_init_27 rfl fl_TuneDoor_Ways_11 rfl h2 (hs_app (hs_app (hs_app (hs_app (hs_app (hs_app (hs_app hs))))))) (by rw [wr_obj (by omega), wr_obj (by omega), wr_obj (by omega), wr_obj (by omega), wr_obj (by omega), wr_obj (by omega), wr_obj (by omega), wr_obj (by omega), wr_obj (by omega), wr_obj (by omega), wr_obj (by omega), wr_obj (by omega), wr_row (by omega), wr_same]) ?_
  refine vx_iload_n (i := 2) (pc' := 31) dX8_init_30 rfl rfl rfl ?_
  refine z_new (c := 0) (pc' := 34) Z dX8_init_31 rfl rfl wm_402 wm_73 wm_4 (Nat.le_of_ble_eq_true rfl) (Nat.le_of_ble_eq_true rfl) (fun Z g13 => ?_)
  refine vx_dup (pc' := 35) dX8_init_34 rfl (fun _ hh => by cases hh) ?_
  refine vx_invIN hXO (d := 1) (mc' := 3) (ms' := 9) (As := []) (st := [vR (n + 13), vI 3, vR n]) (pc' := 38) dX8_init_35 rfl gX0_init wm_403 (by omega) wm_75 rfl rfl rfl (Nat.le_of_ble_eq_true rfl) (Nat.le_of_ble_eq_true rfl) (Nat.le_of_ble_eq_true rfl) (Nat.le_of_ble_eq_true rfl) (Nat.le_of_ble_eq_true rfl) (k_X0_init Z (by omega) g13 (fun Z => ?_))
  refine z_aast (t0 := 3) (pc' := 39) Z dX8_init_38 rfl (by omega) (hs_app (hs_app (hs_app (hs_app (hs_app (hs_app (hs_app (hs_app g0)))))))) (by omega) (hs_app g13) rfl (fun _ => rfl) (by decide) (by decide) (by decide) (fun Z => ?_)
  refine vx_iinc (i := 2) (pc' := 42) dX8_init_39 rfl rfl (by decide) rfl ?_
  refine vx_goto (tgt := 20) dX8_init_42 (by decide) ?_
  refine vx_iload_n (i := 2) (pc' := 21) dX8_init_20 rfl rfl rfl ?_
  refine vx_bipush (pc' := 23) dX8_init_21 rfl (by decide) ?_
  refine vx_icmp_gt (tgt := 45) (pc' := 26) dX8_init_23 rfl (by decide) ⟨by decide, by decide⟩ ⟨by decide, by decide⟩ (fun hb => absurd hb (by decide)) (fun _ => ?_)
  refine vx_aload_n (i := 0) (pc' := 27) dX8_init_26 rfl rfl rfl ?_
  refine z_getR (r := n) (pc' := 30) dX8_init_27 rfl fl_TuneDoor_Ways_11 rfl h2 (hs_app (hs_app (hs_app (hs_app (hs_app (hs_app (hs_app (hs_app (hs_app hs))))))))) (by rw [wr_obj (by omega), wr_obj (by omega), wr_obj (by omega), wr_obj (by omega), wr_obj (by omega), wr_obj (by omega), wr_obj (by omega), wr_obj (by omega), wr_obj (by omega), wr_obj (by omega), wr_obj (by omega), wr_obj (by omega), wr_obj (by omega), wr_obj (by omega), wr_obj (by omega), wr_obj (by omega), wr_row (by omega), wr_same]) ?_
  refine vx_iload_n (i := 2) (pc' := 31) dX8_init_30 rfl rfl rfl ?_
  refine z_new (c := 0) (pc' := 34) Z dX8_init_31 rfl rfl wm_402 wm_73 wm_4 (Nat.le_of_ble_eq_true rfl) (Nat.le_of_ble_eq_true rfl) (fun Z g17 => ?_)
  refine vx_dup (pc' := 35) dX8_init_34 rfl (fun _ hh => by cases hh) ?_
  refine vx_invIN hXO (d := 1) (mc' := 3) (ms' := 9) (As := []) (st := [vR (n + 17), vI 4, vR n]) (pc' := 38) dX8_init_35 rfl gX0_init wm_403 (by omega) wm_75 rfl rfl rfl (Nat.le_of_ble_eq_true rfl) (Nat.le_of_ble_eq_true rfl) (Nat.le_of_ble_eq_true rfl) (Nat.le_of_ble_eq_true rfl) (Nat.le_of_ble_eq_true rfl) (k_X0_init Z (by omega) g17 (fun Z => ?_))
  refine z_aast (t0 := 3) (pc' := 39) Z dX8_init_38 rfl (by omega) (hs_app (hs_app (hs_app (hs_app (hs_app (hs_app (hs_app (hs_app (hs_app (hs_app g0)))))))))) (by omega) (hs_app g17) rfl (fun _ => rfl) (by decide) (by decide) (by decide) (fun Z => ?_)
  refine vx_iinc (i := 2) (pc' := 42) dX8_init_39 rfl rfl (by decide) rfl ?_
  refine vx_goto (tgt := 20) dX8_init_42 (by decide) ?_
  refine vx_iload_n (i := 2) (pc' := 21) dX8_init_20 rfl rfl rfl ?_
  refine vx_bipush (pc' := 23) dX8_init_21 rfl (by decide) ?_
  refine vx_icmp_gt (tgt := 45) (pc' := 26) dX8_init_23 rfl (by decide) ⟨by decide, by decide⟩ ⟨by decide, by decide⟩ (fun hb => absurd hb (by decide)) (fun _ => ?_)
  refine vx_aload_n (i := 0) (pc' := 27) dX8_init_26 rfl rfl rfl ?_
  refine z_getR (r := n) (pc' := 30) dX8_init_27 rfl fl_TuneDoor_Ways_11 rfl h2 (hs_app (hs_app (hs_app (hs_app (hs_app (hs_app (hs_app (hs_app (hs_app (hs_app (hs_app hs))))))))))) (by rw [wr_obj (by omega), wr_obj (by omega), wr_obj (by omega), wr_obj (by omega), wr_obj (by omega), wr_obj (by omega), wr_obj (by omega), wr_obj (by omega), wr_obj (by omega), wr_obj (by omega), wr_obj (by omega), wr_obj (by omega), wr_obj (by omega), wr_obj (by omega), wr_obj (by omega), wr_obj (by omega), wr_obj (by omega), wr_obj (by omega), wr_obj (by omega), wr_obj (by omega), wr_row (by omega), wr_same]) ?_
  refine vx_iload_n (i := 2) (pc' := 31) dX8_init_30 rfl rfl rfl ?_
  refine z_new (c := 0) (pc' := 34) Z dX8_init_31 rfl rfl wm_402 wm_73 wm_4 (Nat.le_of_ble_eq_true rfl) (Nat.le_of_ble_eq_true rfl) (fun Z g21 => ?_)
  refine vx_dup (pc' := 35) dX8_init_34 rfl (fun _ hh => by cases hh) ?_
  refine vx_invIN hXO (d := 1) (mc' := 3) (ms' := 9) (As := []) (st := [vR (n + 21), vI 5, vR n]) (pc' := 38) dX8_init_35 rfl gX0_init wm_403 (by omega) wm_75 rfl rfl rfl (Nat.le_of_ble_eq_true rfl) (Nat.le_of_ble_eq_true rfl) (Nat.le_of_ble_eq_true rfl) (Nat.le_of_ble_eq_true rfl) (Nat.le_of_ble_eq_true rfl) (k_X0_init Z (by omega) g21 (fun Z => ?_))
  refine z_aast (t0 := 3) (pc' := 39) Z dX8_init_38 rfl (by omega) (hs_app (hs_app (hs_app (hs_app (hs_app (hs_app (hs_app (hs_app (hs_app (hs_app (hs_app (hs_app g0)))))))))))) (by omega) (hs_app g21) rfl (fun _ => rfl) (by decide) (by decide) (by decide) (fun Z => ?_)
  refine vx_iinc (i := 2) (pc' := 42) dX8_init_39 rfl rfl (by decide) rfl ?_
  refine vx_goto (tgt := 20) dX8_init_42 (by decide) ?_
  refine vx_iload_n (i := 2) (pc' := 21) dX8_init_20 rfl rfl rfl ?_
  refine vx_bipush (pc' := 23) dX8_init_21 rfl (by decide) ?_
  refine vx_icmp_gt (tgt := 45) (pc' := 26) dX8_init_23 rfl (by decide) ⟨by decide, by decide⟩ ⟨by decide, by decide⟩ (fun hb => absurd hb (by decide)) (fun _ => ?_)
  refine vx_aload_n (i := 0) (pc' := 27) dX8_init_26 rfl rfl rfl ?_
  refine z_getR (r := n) (pc' := 30) dX8_init_27 rfl fl_TuneDoor_Ways_11 rfl h2 (hs_app (hs_app (hs_app (hs_app (hs_app (hs_app (hs_app (hs_app (hs_app (hs_app (hs_app (hs_app (hs_app hs))))))))))))) (by rw [wr_obj (by omega), wr_obj (by omega), wr_obj (by omega), wr_obj (by omega), wr_obj (by omega), wr_obj (by omega), wr_obj (by omega), wr_obj (by omega), wr_obj (by omega), wr_obj (by omega), wr_obj (by omega), wr_obj (by omega), wr_obj (by omega), wr_obj (by omega), wr_obj (by omega), wr_obj (by omega), wr_obj (by omega), wr_obj (by omega), wr_obj (by omega), wr_obj (by omega), wr_obj (by omega), wr_obj (by omega), wr_obj (by omega), wr_obj (by omega), wr_row (by omega), wr_same]) ?_
  refine vx_iload_n (i := 2) (pc' := 31) dX8_init_30 rfl rfl rfl ?_
  refine z_new (c := 0) (pc' := 34) Z dX8_init_31 rfl rfl wm_402 wm_73 wm_4 (Nat.le_of_ble_eq_true rfl) (Nat.le_of_ble_eq_true rfl) (fun Z g25 => ?_)
  refine vx_dup (pc' := 35) dX8_init_34 rfl (fun _ hh => by cases hh) ?_
  refine vx_invIN hXO (d := 1) (mc' := 3) (ms' := 9) (As := []) (st := [vR (n + 25), vI 6, vR n]) (pc' := 38) dX8_init_35 rfl gX0_init wm_403 (by omega) wm_75 rfl rfl rfl (Nat.le_of_ble_eq_true rfl) (Nat.le_of_ble_eq_true rfl) (Nat.le_of_ble_eq_true rfl) (Nat.le_of_ble_eq_true rfl) (Nat.le_of_ble_eq_true rfl) (k_X0_init Z (by omega) g25 (fun Z => ?_))
  refine z_aast (t0 := 3) (pc' := 39) Z dX8_init_38 rfl (by omega) (hs_app (hs_app (hs_app (hs_app (hs_app (hs_app (hs_app (hs_app (hs_app (hs_app (hs_app (hs_app (hs_app (hs_app g0)))))))))))))) (by omega) (hs_app g25) rfl (fun _ => rfl) (by decide) (by decide) (by decide) (fun Z => ?_)
  refine vx_iinc (i := 2) (pc' := 42) dX8_init_39 rfl rfl (by decide) rfl ?_
  refine vx_goto (tgt := 20) dX8_init_42 (by decide) ?_
  refine vx_iload_n (i := 2) (pc' := 21) dX8_init_20 rfl rfl rfl ?_
  refine vx_bipush (pc' := 23) dX8_init_21 rfl (by decide) ?_
  refine vx_icmp_gt (tgt := 45) (pc' := 26) dX8_init_23 rfl (by decide) ⟨by decide, by decide⟩ ⟨by decide, by decide⟩ (fun hb => absurd hb (by decide)) (fun _ => ?_)
  refine vx_aload_n (i := 0) (pc' := 27) dX8_init_26 rfl rfl rfl ?_
  refine z_getR (r := n) (pc' := 30) dX8_init_27 rfl fl_TuneDoor_Ways_11 rfl h2 (hs_app (hs_app (hs_app (hs_app (hs_app (hs_app (hs_app (hs_app (hs_app (hs_app (hs_app (hs_app (hs_app (hs_app (hs_app hs))))))))))))))) (by rw [wr_obj (by omega), wr_obj (by omega), wr_obj (by omega), wr_obj (by omega), wr_obj (by omega), wr_obj (by omega), wr_obj (by omega), wr_obj (by omega), wr_obj (by omega), wr_obj (by omega), wr_obj (by omega), wr_obj (by omega), wr_obj (by omega), wr_obj (by omega), wr_obj (by omega), wr_obj (by omega), wr_obj (by omega), wr_obj (by omega), wr_obj (by omega), wr_obj (by omega), wr_obj (by omega), wr_obj (by omega), wr_obj (by omega), wr_obj (by omega), wr_obj (by omega), wr_obj (by omega), wr_obj (by omega), wr_obj (by omega), wr_row (by omega), wr_same]) ?_
  refine vx_iload_n (i := 2) (pc' := 31) dX8_init_30 rfl rfl rfl ?_
  refine z_new (c := 0) (pc' := 34) Z dX8_init_31 rfl rfl wm_402 wm_73 wm_4 (Nat.le_of_ble_eq_true rfl) (Nat.le_of_ble_eq_true rfl) (fun Z g29 => ?_)
  refine vx_dup (pc' := 35) dX8_init_34 rfl (fun _ hh => by cases hh) ?_
  refine vx_invIN hXO (d := 1) (mc' := 3) (ms' := 9) (As := []) (st := [vR (n + 29), vI 7, vR n]) (pc' := 38) dX8_init_35 rfl gX0_init wm_403 (by omega) wm_75 rfl rfl rfl (Nat.le_of_ble_eq_true rfl) (Nat.le_of_ble_eq_true rfl) (Nat.le_of_ble_eq_true rfl) (Nat.le_of_ble_eq_true rfl) (Nat.le_of_ble_eq_true rfl) (k_X0_init Z (by omega) g29 (fun Z => ?_))
  refine z_aast (t0 := 3) (pc' := 39) Z dX8_init_38 rfl (by omega) (hs_app (hs_app (hs_app (hs_app (hs_app (hs_app (hs_app (hs_app (hs_app (hs_app (hs_app (hs_app (hs_app (hs_app (hs_app (hs_app g0)))))))))))))))) (by omega) (hs_app g29) rfl (fun _ => rfl) (by decide) (by decide) (by decide) (fun Z => ?_)
  refine vx_iinc (i := 2) (pc' := 42) dX8_init_39 rfl rfl (by decide) rfl ?_
  refine vx_goto (tgt := 20) dX8_init_42 (by decide) ?_
  refine vx_iload_n (i := 2) (pc' := 21) dX8_init_20 rfl rfl rfl ?_
  refine vx_bipush (pc' := 23) dX8_init_21 rfl (by decide) ?_
  refine vx_icmp_gt (tgt := 45) (pc' := 26) dX8_init_23 rfl (by decide) ⟨by decide, by decide⟩ ⟨by decide, by decide⟩ (fun hb => absurd hb (by decide)) (fun _ => ?_)
  refine vx_aload_n (i := 0) (pc' := 27) dX8_init_26 rfl rfl rfl ?_
  refine z_getR (r := n) (pc' := 30) dX8_init_27 rfl fl_TuneDoor_Ways_11 rfl h2 (hs_app (hs_app (hs_app (hs_app (hs_app (hs_app (hs_app (hs_app (hs_app (hs_app (hs_app (hs_app (hs_app (hs_app (hs_app (hs_app (hs_app hs))))))))))))))))) (by rw [wr_obj (by omega), wr_obj (by omega), wr_obj (by omega), wr_obj (by omega), wr_obj (by omega), wr_obj (by omega), wr_obj (by omega), wr_obj (by omega), wr_obj (by omega), wr_obj (by omega), wr_obj (by omega), wr_obj (by omega), wr_obj (by omega), wr_obj (by omega), wr_obj (by omega), wr_obj (by omega), wr_obj (by omega), wr_obj (by omega), wr_obj (by omega), wr_obj (by omega), wr_obj (by omega), wr_obj (by omega), wr_obj (by omega), wr_obj (by omega), wr_obj (by omega), wr_obj (by omega), wr_obj (by omega), wr_obj (by omega), wr_obj (by omega), wr_obj (by omega), wr_obj (by omega), wr_obj (by omega), wr_row (by omega), wr_same]) ?_
  refine vx_iload_n (i := 2) (pc' := 31) dX8_init_30 rfl rfl rfl ?_
  refine z_new (c := 0) (pc' := 34) Z dX8_init_31 rfl rfl wm_402 wm_73 wm_4 (Nat.le_of_ble_eq_true rfl) (Nat.le_of_ble_eq_true rfl) (fun Z g33 => ?_)
  refine vx_dup (pc' := 35) dX8_init_34 rfl (fun _ hh => by cases hh) ?_
  refine vx_invIN hXO (d := 1) (mc' := 3) (ms' := 9) (As := []) (st := [vR (n + 33), vI 8, vR n]) (pc' := 38) dX8_init_35 rfl gX0_init wm_403 (by omega) wm_75 rfl rfl rfl (Nat.le_of_ble_eq_true rfl) (Nat.le_of_ble_eq_true rfl) (Nat.le_of_ble_eq_true rfl) (Nat.le_of_ble_eq_true rfl) (Nat.le_of_ble_eq_true rfl) (k_X0_init Z (by omega) g33 (fun Z => ?_))
  refine z_aast (t0 := 3) (pc' := 39) Z dX8_init_38 rfl (by omega) (hs_app (hs_app (hs_app (hs_app (hs_app (hs_app (hs_app (hs_app (hs_app (hs_app (hs_app (hs_app (hs_app (hs_app (hs_app (hs_app (hs_app (hs_app g0)))))))))))))))))) (by omega) (hs_app g33) rfl (fun _ => rfl) (by decide) (by decide) (by decide) (fun Z => ?_)
  refine vx_iinc (i := 2) (pc' := 42) dX8_init_39 rfl rfl (by decide) rfl ?_
  refine vx_goto (tgt := 20) dX8_init_42 (by decide) ?_
  refine vx_iload_n (i := 2) (pc' := 21) dX8_init_20 rfl rfl rfl ?_
  refine vx_bipush (pc' := 23) dX8_init_21 rfl (by decide) ?_
  refine vx_icmp_gt (tgt := 45) (pc' := 26) dX8_init_23 rfl (by decide) ⟨by decide, by decide⟩ ⟨by decide, by decide⟩ (fun _ => ?_) (fun hb => absurd hb (by decide))
  refine vx_ret dX8_init_45 rfl (Nat.le_of_ble_eq_true rfl) (Nat.le_of_ble_eq_true rfl) ?_
  simp only [List.append_assoc, List.cons_append, List.nil_append] at Z ⊢
  exact k1 Z
end Ctor2
