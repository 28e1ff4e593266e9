set_option maxRecDepth 20000 in
theorem bX3_begin_0 {E : mm_Env} {d : Nat} {τ : mm_Mem} {Q : mm_Q0} {ths : Nat} {a0 : Int} (k_ths : KD ths = some (.inr 3)) (h : inR a0 ∧ Q none (wr (wr (wr (wr τ ths 0 a0) ths 5 0) ths 6 0) ths 7 0)) : V0 E d qX3_begin 0 [some (vR ths), some (vI a0)] [] τ Q := by
  refine u_aload_n (i := 0) (pc' := 1) dX3_begin_0 rfl rfl rfl ?_
  refine u_iload_n (i := 1) (pc' := 2) dX3_begin_1 rfl rfl rfl ?_
  obtain ⟨c1, h⟩ := h
  refine u_putI (pc' := 5) dX3_begin_2 rfl fl_TuneDoor_Person_7 rfl rfl (by decide) (kPerson k_ths) k_ths c1 ?_
  refine u_aload_n (i := 0) (pc' := 6) dX3_begin_5 rfl rfl rfl ?_
  refine u_iconst (pc' := 7) dX3_begin_6 rfl ?_
  refine u_putI (pc' := 10) dX3_begin_7 rfl fl_TuneDoor_Person_13 rfl rfl (by decide) (kPerson k_ths) k_ths ⟨by decide, by decide⟩ ?_
  refine u_aload_n (i := 0) (pc' := 11) dX3_begin_10 rfl rfl rfl ?_
  refine u_iconst (pc' := 12) dX3_begin_11 rfl ?_
  refine u_putI (pc' := 15) dX3_begin_12 rfl fl_TuneDoor_Person_16 rfl rfl (by decide) (kPerson k_ths) k_ths ⟨by decide, by decide⟩ ?_
  refine u_aload_n (i := 0) (pc' := 16) dX3_begin_15 rfl rfl rfl ?_
  refine u_iconst (pc' := 17) dX3_begin_16 rfl ?_
  refine u_putI (pc' := 20) dX3_begin_17 rfl fl_TuneDoor_Person_19 rfl rfl (by decide) (kPerson k_ths) k_ths ⟨by decide, by decide⟩ ?_
  exact u_ret dX3_begin_20 rfl h
theorem mX3_begin {E : mm_Env} {d : Nat} {τ : mm_Mem} {Q : mm_Q0} {ths : Nat} {a0 : Int} (k_ths : KD ths = some (.inr 3)) (h : inR a0 ∧ Q none (wr (wr (wr (wr τ ths 0 a0) ths 5 0) ths 6 0) ths 7 0)) : M0 E d qX3_begin [vR ths, vI a0] τ Q := M0_of rfl (Nat.le_of_ble_eq_true rfl) [some (vR ths), some (vI a0)] rfl (bX3_begin_0 k_ths h)
