/-! Tokens' constructor -/
def tkW : List Nat := [0, 0, 0, 0, 0, 0, 1, 1, 1, 1, 1, 2, 2, 2, 2, 2, 3, 3, 3, 3, 3, 4, 4, 4, 4, 4, 4, 5, 5, 5, 5, 5, 6, 6, 6, 6, 6, 7, 7, 7, 7, 7, 8, 8, 8, 8, 8, 8, 8, 9, 9, 9, 9, 9, 9, 9, 10, 10, 10, 10, 10, 11, 11, 11, 11, 12, 12, 12, 12, 12, 12, 13, 13, 13, 13, 13, 13, 13, 14, 14, 14, 14, 14, 14, 15, 15, 15, 15, 15, 16, 16, 16, 16, 16, 16, 17, 17, 17, 17, 17, 18, 18, 18, 19, 19, 19, 19, 20, 20, 20, 20, 21, 21, 21, 21, 22, 22, 22, 22, 23, 23, 23, 23, 23, 23, 24, 24, 24, 24, 24, 25, 25, 25, 25, 26, 26, 26, 26, 26, 27, 27, 27, 27, 28, 28, 28, 28, 29]
def tkX : List Int := [0, 14, 463, 14836, 474757, 15192243, 0, 12, 399, 12782, 409031, 0, 20, 661, 21166, 677317, 0, 11, 357, 11429, 365744, 0, 16, 524, 16769, 536611, 17171557, 0, 14, 463, 14836, 474757, 0, 11, 357, 11440, 366100, 0, 4, 143, 4591, 146930, 0, 19, 628, 20114, 643657, 20597027, 659104884, 0, 23, 745, 23854, 763332, 24426639, 781652471, 0, 16, 513, 16425, 525618, 0, 12, 393, 12592, 0, 18, 581, 18611, 595557, 19057844, 0, 16, 517, 16562, 530003, 16960111, 542723566, 0, 12, 399, 12787, 409189, 13094067, 0, 5, 178, 5714, 182867, 0, 23, 751, 24050, 769620, 24627848, 0, 23, 744, 23813, 762030, 0, 15, 498, 0, 1, 46, 1476, 0, 14, 463, 14836, 0, 1, 44, 1420, 0, 19, 629, 20141, 0, 6, 201, 6450, 206419, 6605428, 0, 12, 385, 12339, 394868, 0, 15, 492, 15748, 0, 8, 261, 8370, 267845, 0, 13, 425, 13614, 0, 13, 417, 13368, 0]
theorem tk_step : ∀ j : Nat, j < 147 → tkW.getD j 0 < 29 ∧ inR (tkX.getD j 0) ∧ inR (chI j) ∧ (chI j = 32 → tkW.getD (j + 1) 0 = tkW.getD j 0 + 1 ∧ tkX.getD (j + 1) 0 = 0 ∧ owL.getD (tkW.getD j 0) 0 = tkX.getD j 0) ∧ (chI j ≠ 32 → tkW.getD (j + 1) 0 = tkW.getD j 0 ∧ tkX.getD (j + 1) 0 = mm_shl (tkX.getD j 0) 5 + chI j - 96) := by decide +kernel
theorem tk_end : tkW.getD 147 0 = 29 := by decide +kernel
theorem k_letter {X : State → Prop} {E : mm_Env} {Sh : List mm_Kd} {σ : mm_Mem} {Q : mm_Q} {a0 a1 : Int} (h : Q (some (vI (mm_shl a0 5 + a1 - 96))) Sh σ) : vmX X E 1 0 0 qX6_withLetter [vI a0, vI a1] Sh σ Q := by
  refine vm.x (vm_of rfl (Nat.le_of_ble_eq_true rfl) [some (vI a0), some (vI a1)] rfl ?_)
  refine vv_iload_n (i := 0) (pc' := 1) dX6_withLetter_0 rfl rfl rfl ?_
  refine vv_iconst (pc' := 2) dX6_withLetter_1 rfl ?_
  refine vv_ishl (pc' := 3) dX6_withLetter_2 rfl ?_
  refine vv_iload_n (i := 1) (pc' := 4) dX6_withLetter_3 rfl rfl rfl ?_
  refine vv_iadd (pc' := 5) dX6_withLetter_4 rfl ?_
  refine vv_bipush (pc' := 7) dX6_withLetter_5 rfl (by decide) ?_
  refine vv_isub (pc' := 8) dX6_withLetter_7 rfl ?_
  exact vv_iret dX6_withLetter_8 rfl (Nat.le_refl _) (Nat.le_refl _) h
section Tok
variable {X : State → Prop} {E : mm_Env} {a v : Nat} {r : Value}
theorem tk_one (hXO : XO E X) (hXS : ∀ s, X s → SF E a v r s) (hr : r = .null ∨ ∃ t, r = .ref t) {Sh : List mm_Kd} {σ : mm_Mem} {Q : mm_Q} {o n N : Nat} {j : Nat} (hj : j < 147) (h2 : 2 ≤ o) (hs : Sh[o]? = some (.inr 6)) (hn2 : 2 ≤ n) (hne : o ≠ n) (hs2 : Sh[n]? = some (.inl (.int, 29))) (ho4 : σ o 4 = ((n : Nat) : Int)) (Z : SZ N Sh (oxW σ n (tkW.getD j 0)))
    (k : SZ N Sh (oxW σ n (tkW.getD (j + 1) 0)) → vx X E (mm_rm 8 4 4832) qX6_init 4 4832 4 4832 Sh 45 [some (vR o), some (vI (tkX.getD (j + 1) 0)), some (vI ((tkW.getD (j + 1) 0 : Nat) : Int)), some (vI ((j + 1 : Nat) : Int)), none] [] (oxW σ n (tkW.getD (j + 1) 0)) Q) :
    vx X E (mm_rm 8 4 4832) qX6_init 4 4832 4 4832 Sh 45 [some (vR o), some (vI (tkX.getD j 0)), some (vI ((tkW.getD j 0 : Nat) : Int)), some (vI (j : Int)), none] [] (oxW σ n (tkW.getD j 0)) Q := by
  obtain ⟨t1, t2, t3, t4, t5⟩ := tk_step j hj
  have hw : inR ((tkW.getD j 0 : Nat) : Int) := ⟨by omega, by omega⟩
  refine vx_iload_n (i := 3) (pc' := 46) dX6_init_45 rfl rfl rfl ?_
  refine vx_slen hXO hXS (by decide) (by decide) (Nat.le_refl _) (Nat.le_refl _) ?_
  refine vx_icmp_ge (tgt := 103) (pc' := 54) dX6_init_51 rfl (by decide) ⟨by omega, by omega⟩ ⟨by decide, by decide⟩ (fun hb => absurd hb (by omega)) (fun _ => ?_)
  refine vx_iload_n (i := 2) (pc' := 55) dX6_init_54 rfl rfl rfl ?_
  refine vx_bipush (pc' := 57) dX6_init_55 rfl (by decide) ?_
  refine vx_icmp_ge (tgt := 103) (pc' := 60) dX6_init_57 rfl (by decide) hw ⟨by decide, by decide⟩ (fun hb => absurd hb (by omega)) (fun _ => ?_)
  refine vx_schar hj rfl hXO hXS hr (by decide) (by decide) (Nat.le_refl _) (Nat.le_refl _) ?_
  refine vx_istore (i := 4) (pc' := 68) dX6_init_66 rfl (by decide) rfl ?_
  refine vx_iload (i := 4) (pc' := 70) dX6_init_68 rfl rfl ?_
  refine vx_bipush (pc' := 72) dX6_init_70 rfl (by decide) ?_
  refine vx_icmp_ne (tgt := 90) (pc' := 75) dX6_init_72 rfl (by decide) t3 ⟨by decide, by decide⟩ (fun hb => ?_) (fun hb => ?_)
  · obtain ⟨u1, u2⟩ := t5 hb
    refine vx_iload_n (i := 1) (pc' := 91) dX6_init_90 rfl rfl rfl ?_
    refine vx_iload (i := 4) (pc' := 93) dX6_init_91 rfl rfl ?_
    refine vx_invS hXO (d := 1) (mc' := 0) (ms' := 0) (As := [vI (tkX.getD j 0), vI (chI j)]) (st := []) (pc' := 96) dX6_init_93 rfl gX6_withLetter wm_300 wm_301 rfl (by decide) (by decide) (by decide) (by decide) (by decide) (k_letter ?_)
    refine vx_istore_n (i := 1) (pc' := 97) dX6_init_96 rfl rfl (by decide) rfl ?_
    refine vx_iinc (i := 3) (pc' := 100) dX6_init_97 rfl rfl (by decide) rfl ?_
    refine vx_goto (tgt := 45) dX6_init_100 (by decide) ?_
    rw [← u1] at Z
    have h9 := k Z
    rw [u1, u2] at h9
    exact vx_less (ls' := [some (vR o), some (vI (mm_shl (tkX.getD j 0) 5 + chI j - 96)), some (vI ((tkW.getD j 0 : Nat) : Int)), some (vI ((j + 1 : Nat) : Int)), none]) ⟨rfl, rfl, rfl, rfl, trivial⟩ h9
  · obtain ⟨u1, u2, u3⟩ := t4 hb
    refine vx_aload_n (i := 0) (pc' := 76) dX6_init_75 rfl rfl rfl ?_
    refine z_getR (r := n) (pc' := 79) dX6_init_76 rfl fl_TuneDoor_Tokens_21 rfl h2 hs (by rw [oxW_obj hne]; exact ho4) ?_
    refine vx_iload_n (i := 2) (pc' := 80) dX6_init_79 rfl rfl rfl ?_
    refine vx_iload_n (i := 1) (pc' := 81) dX6_init_80 rfl rfl rfl ?_
    refine z_iast (pc' := 82) Z dX6_init_81 rfl hn2 hs2 (by omega) (by omega) (by decide) t2 (fun Z => ?_)
    refine vx_iinc (i := 2) (pc' := 85) dX6_init_82 rfl rfl (by decide) rfl ?_
    refine vx_iconst (pc' := 86) dX6_init_85 rfl ?_
    refine vx_istore_n (i := 1) (pc' := 87) dX6_init_86 rfl rfl (by decide) rfl ?_
    refine vx_goto (tgt := 97) dX6_init_87 (by decide) ?_
    refine vx_iinc (i := 3) (pc' := 100) dX6_init_97 rfl rfl (by decide) rfl ?_
    refine vx_goto (tgt := 45) dX6_init_100 (by decide) ?_
    have e9 : wr (oxW σ n (tkW.getD j 0)) n ((tkW.getD j 0 : Nat) : Int).toNat (tkX.getD j 0) = oxW σ n (tkW.getD j 0 + 1) := by
      rw [Int.toNat_natCast, ← u3]; rfl
    rw [e9] at Z ⊢
    rw [← u1] at Z
    have h9 := k Z
    rw [u1, u2] at h9
    exact vx_less (ls' := [some (vR o), some (vI 0), some (vI ((tkW.getD j 0 + 1 : Nat) : Int)), some (vI ((j + 1 : Nat) : Int)), none]) ⟨rfl, rfl, rfl, rfl, trivial⟩ h9
theorem tk_loop (hXO : XO E X) (hXS : ∀ s, X s → SF E a v r s) (hr : r = .null ∨ ∃ t, r = .ref t) {Sh : List mm_Kd} {σ : mm_Mem} {Q : mm_Q} {o n N : Nat} (h2 : 2 ≤ o) (hs : Sh[o]? = some (.inr 6)) (hn2 : 2 ≤ n) (hne : o ≠ n) (hs2 : Sh[n]? = some (.inl (.int, 29))) (ho4 : σ o 4 = ((n : Nat) : Int)) (k1 : SZ N Sh (oxW σ n 29) → Q none Sh (oxW σ n 29)) :
    ∀ (i j : Nat), j + i = 147 → SZ N Sh (oxW σ n (tkW.getD j 0)) → vx X E (mm_rm 8 4 4832) qX6_init 4 4832 4 4832 Sh 45 [some (vR o), some (vI (tkX.getD j 0)), some (vI ((tkW.getD j 0 : Nat) : Int)), some (vI (j : Int)), none] [] (oxW σ n (tkW.getD j 0)) Q := by
  intro i
  induction i with
  | zero =>
    intro j hj Z
    have hj : j = 147 := by omega
    subst hj
    refine vx_iload_n (i := 3) (pc' := 46) dX6_init_45 rfl rfl rfl ?_
    refine vx_slen hXO hXS (by decide) (by decide) (Nat.le_refl _) (Nat.le_refl _) ?_
    refine vx_icmp_ge (tgt := 103) (pc' := 54) dX6_init_51 rfl (by decide) ⟨by decide, by decide⟩ ⟨by decide, by decide⟩ (fun _ => ?_) (fun hb => absurd (by decide) hb)
    refine vx_ret dX6_init_103 rfl (Nat.le_refl _) (Nat.le_refl _) ?_
    rw [tk_end] at Z ⊢
    exact k1 Z
  | succ i ih =>
    intro j hj Z
    exact tk_one hXO hXS hr (by omega) h2 hs hn2 hne hs2 ho4 Z (fun Z => ih (j + 1) (by omega) Z)
theorem k_X6_init (hXO : XO E X) (hXS : ∀ s, X s → SF E a v r s) (hr : r = .null ∨ ∃ t, r = .ref t) {Sh : List mm_Kd} {σ : mm_Mem} {Q : mm_Q} {o n : Nat} (Z : SZ n Sh σ) (h2 : 2 ≤ o) (hs : Sh[o]? = some (.inr 6)) (k1 : SZ (n + 4) (Sh ++ [.inl (.int, 1601), .inl (.int, 1601), .inl (.int, 1601), .inl (.int, 29)]) (oxW (wr (wr (wr (wr σ o 0 ((n : Nat) : Int)) o 1 (((n + 1) : Nat) : Int)) o 2 (((n + 2) : Nat) : Int)) o 4 (((n + 3) : Nat) : Int)) (n + 3) 29) → Q none (Sh ++ [.inl (.int, 1601), .inl (.int, 1601), .inl (.int, 1601), .inl (.int, 29)]) (oxW (wr (wr (wr (wr σ o 0 ((n : Nat) : Int)) o 1 (((n + 1) : Nat) : Int)) o 2 (((n + 2) : Nat) : Int)) o 4 (((n + 3) : Nat) : Int)) (n + 3) 29)) : vmX X E 8 4 4832 qX6_init [vR o] Sh σ Q := by
  have ho : o < n := by rw [← Z.1]; exact (List.getElem?_eq_some_iff.mp hs).1
  refine vmX_of rfl (Nat.le_of_ble_eq_true rfl) [some (vR o), none, none, none, none] rfl ?_
  refine vx_aload_n (i := 0) (pc' := 1) dX6_init_0 rfl rfl rfl ?_
  refine vx_obj (pc' := 4) dX6_init_1 rfl wm_250 (by omega) (by decide) (by decide) ?_
  refine vx_aload_n (i := 0) (pc' := 5) dX6_init_4 rfl rfl rfl ?_
  refine vx_sipush (pc' := 8) dX6_init_5 rfl (by decide) ?_
  refine z_newa (ty := .int) (t0 := 0) (N := 1601) (pc' := 10) Z dX6_init_8 rfl rfl (Or.inl rfl) wm_72 (fun _ => rfl) rfl (by decide) (Nat.le_of_ble_eq_true rfl) (Nat.le_of_ble_eq_true rfl) (fun Z g0 => ?_)
  refine z_putFR (pc' := 13) Z dX6_init_10 rfl ⟨RX6, TX6, 6, rfl, (by decide : 0 < 6), rfl, rfl, wm_303⟩ rfl rfl h2 (hs_app hs) (fun Z => ?_)
  refine vx_aload_n (i := 0) (pc' := 14) dX6_init_13 rfl rfl rfl ?_
  refine vx_sipush (pc' := 17) dX6_init_14 rfl (by decide) ?_
  refine z_newa (ty := .int) (t0 := 0) (N := 1601) (pc' := 19) Z dX6_init_17 rfl rfl (Or.inl rfl) wm_72 (fun _ => rfl) rfl (by decide) (Nat.le_of_ble_eq_true rfl) (Nat.le_of_ble_eq_true rfl) (fun Z g1 => ?_)
  refine z_putFR (pc' := 22) Z dX6_init_19 rfl ⟨RX6, TX6, 6, rfl, (by decide : 1 < 6), rfl, rfl, wm_305⟩ rfl rfl h2 (hs_app (hs_app hs)) (fun Z => ?_)
  refine vx_aload_n (i := 0) (pc' := 23) dX6_init_22 rfl rfl rfl ?_
  refine vx_sipush (pc' := 26) dX6_init_23 rfl (by decide) ?_
  refine z_newa (ty := .int) (t0 := 0) (N := 1601) (pc' := 28) Z dX6_init_26 rfl rfl (Or.inl rfl) wm_72 (fun _ => rfl) rfl (by decide) (Nat.le_of_ble_eq_true rfl) (Nat.le_of_ble_eq_true rfl) (fun Z g2 => ?_)
  refine z_putFR (pc' := 31) Z dX6_init_28 rfl ⟨RX6, TX6, 6, rfl, (by decide : 2 < 6), rfl, rfl, wm_307⟩ rfl rfl h2 (hs_app (hs_app (hs_app hs))) (fun Z => ?_)
  refine vx_aload_n (i := 0) (pc' := 32) dX6_init_31 rfl rfl rfl ?_
  refine vx_bipush (pc' := 34) dX6_init_32 rfl (by decide) ?_
  refine z_newa (ty := .int) (t0 := 0) (N := 29) (pc' := 36) Z dX6_init_34 rfl rfl (Or.inl rfl) wm_72 (fun _ => rfl) rfl (by decide) (Nat.le_of_ble_eq_true rfl) (Nat.le_of_ble_eq_true rfl) (fun Z g3 => ?_)
  refine z_putFR (pc' := 39) Z dX6_init_36 rfl ⟨RX6, TX6, 6, rfl, (by decide : 4 < 6), rfl, rfl, wm_311⟩ rfl rfl h2 (hs_app (hs_app (hs_app (hs_app hs)))) (fun Z => ?_)
  refine vx_iconst (pc' := 40) dX6_init_39 rfl ?_
  refine vx_istore_n (i := 1) (pc' := 41) dX6_init_40 rfl rfl (by decide) rfl ?_
  refine vx_iconst (pc' := 42) dX6_init_41 rfl ?_
  refine vx_istore_n (i := 2) (pc' := 43) dX6_init_42 rfl rfl (by decide) rfl ?_
  refine vx_iconst (pc' := 44) dX6_init_43 rfl ?_
  refine vx_istore_n (i := 3) (pc' := 45) dX6_init_44 rfl rfl (by decide) rfl ?_
  simp only [List.append_assoc, List.cons_append, List.nil_append] at Z g3 ⊢
  have h9 := tk_loop (Q := Q) (Sh := Sh ++ [.inl (.int, 1601), .inl (.int, 1601), .inl (.int, 1601), .inl (.int, 29)]) (σ := (wr (wr (wr (wr σ o 0 ((n : Nat) : Int)) o 1 (((n + 1) : Nat) : Int)) o 2 (((n + 2) : Nat) : Int)) o 4 (((n + 3) : Nat) : Int))) (o := o) (n := n + 3) (N := n + 4) hXO hXS hr h2 (hs_app hs) (by omega) (by omega) g3 wr_same k1 147 0 rfl Z
  exact h9
end Tok
