/-! the law: its loop -/
/-- the law's own frame, behind the constructors: in the claim's room, some of it used -/
def VL (E : mm_Env) (q : mm_Y) (pc : Nat) (ls : List (Option mm_PV)) (st : List mm_PV) (τ : mm_Mem) (Q : mm_Q0) : Prop := vv E room_1 q 600000 7302250 1000 200000 (mm_SH E.2.2.2.2) pc ls st (fm τ) (mm_QQ E Q)
section LawRows
variable {E : mm_Env} {q : mm_Y} {pc pc' : Nat} {ls : List (Option mm_PV)} {st : List mm_PV} {τ : mm_Mem} {Q : mm_Q0}
theorem M0_vl {d : Nat} {q' : mm_Y} {As : List mm_PV} {st : List mm_PV} (h : M0 E d q' As τ (fun v τ' => VL E q pc' ls (v.toList ++ st) τ' Q)) : vm E d 0 0 q' As (mm_SH E.2.2.2.2) (fm τ) (fun v Sh' σ' => vv E room_1 q 600000 7302250 (1000 + 0) (200000 + 0) Sh' pc' ls (v.toList ++ st) σ' (mm_QQ E Q)) :=
  vm.mono h (fun v Sh' σ' hh => by
    obtain ⟨rfl, τ', rfl, h2⟩ := hh
    exact h2)
theorem l_iload_n {k9 : Fin 4} {i : Nat} {z : Int} (hd : decode q.2.1 pc = .ok (.iload_n k9, 1)) (hp : pc + 1 = pc') (hi : (k9 : Nat) = i) (hl : ls[i]? = some (some (vI z))) (k : VL E q pc' ls (vI z :: st) τ Q) : VL E q pc ls (st) τ Q := vv_iload_n hd hp hi hl k
theorem l_slen (hd : decode q.2.1 pc = .ok (.arraylength, 1)) (hp : pc + 1 = pc') (kk : VL E q pc' ls (vI (E.2.2.2.2 : Int) :: st) τ Q) : VL E q pc ls (vR 1 :: st) τ Q := vv_slen hd hp kk
theorem l_sld {j : Int} (hd : decode q.2.1 pc = .ok (.iaload, 1)) (hp : pc + 1 = pc') (hj : 0 ≤ j) (hj2 : j < E.2.2.2.2) (hn : E.2.2.2.2 ≤ 2147483647) (kk : VL E q pc' ls (vI (τ 1 j.toNat) :: st) τ Q) : VL E q pc ls (vI j :: vR 1 :: st) τ Q := by
  have e : fm τ 1 j.toNat = τ 1 j.toNat := fm_none rfl
  exact vv_sld hd hp hj hj2 hn (by rw [e]; exact kk)
theorem l_bipush {n : Int} (hd : decode q.2.1 pc = .ok (.bipush n, 2)) (hp : pc + 2 = pc') (hv : (Int8.ofInt n).toInt32 = Int32.ofInt n) (k : VL E q pc' ls (vI n :: st) τ Q) : VL E q pc ls (st) τ Q := vv_bipush hd hp hv k
theorem l_isub {a b : Int} (hd : decode q.2.1 pc = .ok (.isub, 1)) (hp : pc + 1 = pc') (k : VL E q pc' ls (vI (a - b) :: st) τ Q) : VL E q pc ls (vI b :: vI a :: st) τ Q := vv_isub hd hp k
theorem l_icmp_gt {a b : Int} {off : Int} {tgt : Nat} (hd : decode q.2.1 pc = .ok (.if_icmp .gt off, 3)) (hp : pc + 3 = pc') (ht : (pc : Int) + off = (tgt : Int)) (ha : inR a) (hb : inR b) (kt : b < a → VL E q tgt ls st τ Q) (kf : ¬ b < a → VL E q pc' ls st τ Q) : VL E q pc ls (vI b :: vI a :: st) τ Q := vv_icmp_gt hd hp ht ha hb kt kf
theorem l_iand {a b : Int} (hd : decode q.2.1 pc = .ok (.iand, 1)) (hp : pc + 1 = pc') (k : VL E q pc' ls (vI (mm_and a b) :: st) τ Q) : VL E q pc ls (vI b :: vI a :: st) τ Q := vv_iand hd hp k
theorem l_tableswitch {dflt lo hi : Int} {offs : Array Int} {len : Nat} {a : Int} {dt : Nat} (hd : decode q.2.1 pc = .ok (.tableswitch dflt lo hi offs, len)) (ha : inR a) (hdt : (pc : Int) + dflt = (dt : Int)) (ko : a < lo ∨ hi < a → VL E q dt ls st τ Q) (ki : lo ≤ a → a ≤ hi → ∃ (off : Int) (tgt : Nat), offs[(a - lo).toNat]? = some off ∧ (pc : Int) + off = (tgt : Int) ∧ VL E q tgt ls st τ Q) : VL E q pc ls (vI a :: st) τ Q := vv_tableswitch hd ha hdt ko ki
theorem l_aload_n {k9 : Fin 4} {i : Nat} {o : Nat} (hd : decode q.2.1 pc = .ok (.aload_n k9, 1)) (hp : pc + 1 = pc') (hi : (k9 : Nat) = i) (hl : ls[i]? = some (some (vR o))) (k : VL E q pc' ls (vR o :: st) τ Q) : VL E q pc ls (st) τ Q := vv_aload_n hd hp hi hl k
theorem l_iconst {n : Int} (hd : decode q.2.1 pc = .ok (.iconst n, 1)) (hp : pc + 1 = pc') (k : VL E q pc' ls (vI n :: st) τ Q) : VL E q pc ls (st) τ Q := vv_iconst hd hp k
theorem l_iadd {a b : Int} (hd : decode q.2.1 pc = .ok (.iadd, 1)) (hp : pc + 1 = pc') (k : VL E q pc' ls (vI (a + b) :: st) τ Q) : VL E q pc ls (vI b :: vI a :: st) τ Q := vv_iadd hd hp k
theorem l_if_eq {a : Int} {off : Int} {tgt : Nat} (hd : decode q.2.1 pc = .ok (.ifCond .eq off, 3)) (hp : pc + 3 = pc') (ht : (pc : Int) + off = (tgt : Int)) (ha : inR a) (kt : a = 0 → VL E q tgt ls st τ Q) (kf : ¬ a = 0 → VL E q pc' ls st τ Q) : VL E q pc ls (vI a :: st) τ Q := vv_if_eq hd hp ht ha kt kf
theorem l_goto {off : Int} {tgt : Nat} (hd : decode q.2.1 pc = .ok (.goto off, 3)) (ht : (pc : Int) + off = (tgt : Int)) (k : VL E q tgt ls st τ Q) : VL E q pc ls st τ Q := vv_goto hd ht k
theorem l_less {ls' : List (Option mm_PV)} (h : mm_le ls' ls) (k : VL E q pc ls' st τ Q) : VL E q pc ls st τ Q := vv_less h k
theorem l_icmp_eq {a b : Int} {off : Int} {tgt : Nat} (hd : decode q.2.1 pc = .ok (.if_icmp .eq off, 3)) (hp : pc + 3 = pc') (ht : (pc : Int) + off = (tgt : Int)) (ha : inR a) (hb : inR b) (kt : a = b → VL E q tgt ls st τ Q) (kf : ¬ a = b → VL E q pc' ls st τ Q) : VL E q pc ls (vI b :: vI a :: st) τ Q := vv_icmp_eq hd hp ht ha hb kt kf
theorem l_lcmp {a b : Int} (hd : decode q.2.1 pc = .ok (.lcmp, 1)) (hp : pc + 1 = pc') (ha : inL a) (hb : inL b) (k : VL E q pc' ls (vI (mm_cmp a b) :: st) τ Q) : VL E q pc ls (vL b :: vL a :: st) τ Q := vv_lcmp hd hp ha hb k
theorem l_iinc {i : Nat} {n z : Int} (hd : decode q.2.1 pc = .ok (.iinc i n, 3)) (hp : pc + 3 = pc') (hl : ls[i]? = some (some (vI z))) (hn : i < q.2.2.1) (ok : mm_ok ls i = true) (k : VL E q pc' (ls.set i (some (vI (z + n)))) (st) τ Q) : VL E q pc ls (st) τ Q := vv_iinc hd hp hl hn ok k
theorem ls_iinc {i : Nat} {n z : Int} {ls' : List (Option mm_PV)} (hd : decode q.2.1 pc = .ok (.iinc i n, 3)) (hp : pc + 3 = pc') (hl : ls[i]? = some (some (vI z))) (hn : i < q.2.2.1) (ok : mm_ok ls i = true) (hls : ls.set i (some (vI (z + n))) = ls') (k : VL E q pc' ls' st τ Q) : VL E q pc ls st τ Q := l_iinc hd hp hl hn ok (hls ▸ k)
theorem l_zret {b : Bool} {z : Int} (hd : decode q.2.1 pc = .ok (.ireturn, 1)) (hr : q.2.2.2 = some .boolean) (hz : z = bI b) (k : Q (some (vB b)) τ) : VL E q pc ls ([vI z]) τ Q := by
  subst hz
  exact vv_zret hd hr (bI_01 b) (by decide) (by decide) ⟨rfl, τ, rfl, k⟩
theorem l_invV {i : Nat} {q' : mm_Y} {As st0 : List mm_PV} {o c : Nat} {C : String} {T : u_T} {N : Nat} (hd : decode q.2.1 pc = .ok (.invokevirtual i, 3)) (hp : pc + 3 = pc') (hg : mm_good q' As.length) (hl : Cond.methodLink q.1.cls i q'.1 ∈ mm_T) (hc : vwCl[c]? = some (C, T, N)) (hcl : q'.1.cls = C) (ho : 2 ≤ o) (hs : KD o = some (.inr c)) (hin : Cond.instanceMethod q'.1 ∈ mm_T) (hse : Cond.selects q'.1.cls q'.1 q'.1 ∈ mm_T) (hs0 : st0 = As.reverse ++ vR o :: st) (hrm : (st.map mm_cw).sum ≤ 8) (kk : M0 E 100 q' (vR o :: As) τ (fun v τ' => VL E q pc' ls (v.toList ++ st) τ' Q)) : VL E q pc ls st0 τ Q :=
  vv_invV hd hp hg hl hc hcl ho (KD_SH _ ho hs) hin hse hs0 (by decide) (by decide) (by decide) (by decide) hrm (M0_vl kk)
theorem VL_up {st st' : List mm_PV} (e : st.map (mm_up E) = st'.map (mm_up E)) (K : VL E q pc ls st' τ Q) : VL E q pc ls st τ Q := by
  intro p l e9 s m args below meth c H locs la QM hC hR hS hL hret
  rw [e]
  exact K p l e9 s m args below meth c H locs la QM hC hR hS hL hret
theorem l_icmp_same {a : Int} {off : Int} {tgt : Nat} (hd : decode q.2.1 pc = .ok (.if_icmp .eq off, 3)) (ht : (pc : Int) + off = (tgt : Int)) (kt : VL E q tgt ls st τ Q) : VL E q pc ls (vI a :: vI a :: st) τ Q := by
  have r : inR (Int32.ofInt a).toInt := ⟨Int32.le_toInt _, Int.le_of_lt_add_one (Int32.toInt_lt _)⟩
  refine VL_up (st' := vI (Int32.ofInt a).toInt :: vI (Int32.ofInt a).toInt :: st) ?_ (l_icmp_eq (pc' := pc + 3) hd rfl ht r r (fun _ => kt) (fun h => absurd rfl h))
  have e0 : Int32.ofInt (Int32.ofInt a).toInt = Int32.ofInt a := Int32.ofInt_toInt _
  simp only [List.map_cons, mm_up, e0]
theorem l_lcmp_same {a : Int} (hd : decode q.2.1 pc = .ok (.lcmp, 1)) (hp : pc + 1 = pc') (kt : VL E q pc' ls (vI 0 :: st) τ Q) : VL E q pc ls (vL a :: vL a :: st) τ Q := by
  have r : inL (Int64.ofInt a).toInt := ⟨Int64.le_toInt _, Int.le_of_lt_add_one (Int64.toInt_lt _)⟩
  refine VL_up (st' := vL (Int64.ofInt a).toInt :: vL (Int64.ofInt a).toInt :: st) ?_ (l_lcmp hd hp r r ?_)
  · have e0 : Int64.ofInt (Int64.ofInt a).toInt = Int64.ofInt a := Int64.ofInt_toInt _
    simp only [List.map_cons, mm_up, e0]
  · rw [mm_cmp_0.mpr rfl]; exact kt
end LawRows
set_option maxRecDepth 20000 in
theorem bL_law_18 {E : mm_Env} {τ : mm_Mem} {Q : mm_Q0} (hL : E.2.2.2.2 ≤ 2147483647) {x3 : Int} (h : inR x3 ∧ inR ((E.2.2.2.2 : Int) - 6) ∧ ((((E.2.2.2.2 : Int) - 6) < x3 → Q (some (vB true)) τ) ∧ (¬ ((E.2.2.2.2 : Int) - 6) < x3 → 0 ≤ x3 ∧ x3 < (E.2.2.2.2 : Int) ∧ inR (mm_and (τ 1 x3.toNat) 63) ∧ (((mm_and (τ 1 x3.toNat) 63) < 0 ∨ 37 < (mm_and (τ 1 x3.toNat) 63) → VL E qL_law 1417 [some (vR 1), some (vR 2), some (vR 140), some (vI x3)] [] τ Q) ∧ ((mm_and (τ 1 x3.toNat) 63) = 0 → VL E qL_law 200 [some (vR 1), some (vR 2), some (vR 140), some (vI x3)] [] τ Q) ∧ ((mm_and (τ 1 x3.toNat) 63) = 1 → VL E qL_law 263 [some (vR 1), some (vR 2), some (vR 140), some (vI x3)] [] τ Q) ∧ ((mm_and (τ 1 x3.toNat) 63) = 2 → VL E qL_law 286 [some (vR 1), some (vR 2), some (vR 140), some (vI x3)] [] τ Q) ∧ ((mm_and (τ 1 x3.toNat) 63) = 3 → VL E qL_law 299 [some (vR 1), some (vR 2), some (vR 140), some (vI x3)] [] τ Q) ∧ ((mm_and (τ 1 x3.toNat) 63) = 4 → VL E qL_law 322 [some (vR 1), some (vR 2), some (vR 140), some (vI x3)] [] τ Q) ∧ ((mm_and (τ 1 x3.toNat) 63) = 5 → VL E qL_law 345 [some (vR 1), some (vR 2), some (vR 140), some (vI x3)] [] τ Q) ∧ ((mm_and (τ 1 x3.toNat) 63) = 6 → VL E qL_law 388 [some (vR 1), some (vR 2), some (vR 140), some (vI x3)] [] τ Q) ∧ ((mm_and (τ 1 x3.toNat) 63) = 7 → VL E qL_law 421 [some (vR 1), some (vR 2), some (vR 140), some (vI x3)] [] τ Q) ∧ ((mm_and (τ 1 x3.toNat) 63) = 8 → VL E qL_law 454 [some (vR 1), some (vR 2), some (vR 140), some (vI x3)] [] τ Q) ∧ ((mm_and (τ 1 x3.toNat) 63) = 9 → VL E qL_law 497 [some (vR 1), some (vR 2), some (vR 140), some (vI x3)] [] τ Q) ∧ ((mm_and (τ 1 x3.toNat) 63) = 10 → VL E qL_law 530 [some (vR 1), some (vR 2), some (vR 140), some (vI x3)] [] τ Q) ∧ ((mm_and (τ 1 x3.toNat) 63) = 11 → VL E qL_law 573 [some (vR 1), some (vR 2), some (vR 140), some (vI x3)] [] τ Q) ∧ ((mm_and (τ 1 x3.toNat) 63) = 12 → VL E qL_law 616 [some (vR 1), some (vR 2), some (vR 140), some (vI x3)] [] τ Q) ∧ ((mm_and (τ 1 x3.toNat) 63) = 13 → VL E qL_law 639 [some (vR 1), some (vR 2), some (vR 140), some (vI x3)] [] τ Q) ∧ ((mm_and (τ 1 x3.toNat) 63) = 14 → VL E qL_law 682 [some (vR 1), some (vR 2), some (vR 140), some (vI x3)] [] τ Q) ∧ ((mm_and (τ 1 x3.toNat) 63) = 15 → VL E qL_law 715 [some (vR 1), some (vR 2), some (vR 140), some (vI x3)] [] τ Q) ∧ ((mm_and (τ 1 x3.toNat) 63) = 16 → VL E qL_law 738 [some (vR 1), some (vR 2), some (vR 140), some (vI x3)] [] τ Q) ∧ ((mm_and (τ 1 x3.toNat) 63) = 17 → VL E qL_law 771 [some (vR 1), some (vR 2), some (vR 140), some (vI x3)] [] τ Q) ∧ ((mm_and (τ 1 x3.toNat) 63) = 18 → VL E qL_law 794 [some (vR 1), some (vR 2), some (vR 140), some (vI x3)] [] τ Q) ∧ ((mm_and (τ 1 x3.toNat) 63) = 19 → VL E qL_law 817 [some (vR 1), some (vR 2), some (vR 140), some (vI x3)] [] τ Q) ∧ ((mm_and (τ 1 x3.toNat) 63) = 20 → VL E qL_law 840 [some (vR 1), some (vR 2), some (vR 140), some (vI x3)] [] τ Q) ∧ ((mm_and (τ 1 x3.toNat) 63) = 21 → VL E qL_law 874 [some (vR 1), some (vR 2), some (vR 140), some (vI x3)] [] τ Q) ∧ ((mm_and (τ 1 x3.toNat) 63) = 22 → VL E qL_law 908 [some (vR 1), some (vR 2), some (vR 140), some (vI x3)] [] τ Q) ∧ ((mm_and (τ 1 x3.toNat) 63) = 23 → VL E qL_law 931 [some (vR 1), some (vR 2), some (vR 140), some (vI x3)] [] τ Q) ∧ ((mm_and (τ 1 x3.toNat) 63) = 24 → VL E qL_law 965 [some (vR 1), some (vR 2), some (vR 140), some (vI x3)] [] τ Q) ∧ ((mm_and (τ 1 x3.toNat) 63) = 25 → VL E qL_law 988 [some (vR 1), some (vR 2), some (vR 140), some (vI x3)] [] τ Q) ∧ ((mm_and (τ 1 x3.toNat) 63) = 26 → VL E qL_law 1041 [some (vR 1), some (vR 2), some (vR 140), some (vI x3)] [] τ Q) ∧ ((mm_and (τ 1 x3.toNat) 63) = 27 → VL E qL_law 1084 [some (vR 1), some (vR 2), some (vR 140), some (vI x3)] [] τ Q) ∧ ((mm_and (τ 1 x3.toNat) 63) = 28 → VL E qL_law 1117 [some (vR 1), some (vR 2), some (vR 140), some (vI x3)] [] τ Q) ∧ ((mm_and (τ 1 x3.toNat) 63) = 29 → VL E qL_law 1160 [some (vR 1), some (vR 2), some (vR 140), some (vI x3)] [] τ Q) ∧ ((mm_and (τ 1 x3.toNat) 63) = 30 → VL E qL_law 1203 [some (vR 1), some (vR 2), some (vR 140), some (vI x3)] [] τ Q) ∧ ((mm_and (τ 1 x3.toNat) 63) = 31 → VL E qL_law 1246 [some (vR 1), some (vR 2), some (vR 140), some (vI x3)] [] τ Q) ∧ ((mm_and (τ 1 x3.toNat) 63) = 32 → VL E qL_law 1299 [some (vR 1), some (vR 2), some (vR 140), some (vI x3)] [] τ Q) ∧ ((mm_and (τ 1 x3.toNat) 63) = 33 → VL E qL_law 1322 [some (vR 1), some (vR 2), some (vR 140), some (vI x3)] [] τ Q) ∧ ((mm_and (τ 1 x3.toNat) 63) = 34 → VL E qL_law 1345 [some (vR 1), some (vR 2), some (vR 140), some (vI x3)] [] τ Q) ∧ ((mm_and (τ 1 x3.toNat) 63) = 35 → VL E qL_law 1358 [some (vR 1), some (vR 2), some (vR 140), some (vI x3)] [] τ Q) ∧ ((mm_and (τ 1 x3.toNat) 63) = 36 → VL E qL_law 1381 [some (vR 1), some (vR 2), some (vR 140), some (vI x3)] [] τ Q) ∧ ((mm_and (τ 1 x3.toNat) 63) = 37 → VL E qL_law 1394 [some (vR 1), some (vR 2), some (vR 140), some (vI x3)] [] τ Q))))) : VL E qL_law 18 [some (vR 1), some (vR 2), some (vR 140), some (vI x3)] [] τ Q := by
  refine l_iload_n (i := 3) (pc' := 19) dL_law_18 rfl rfl rfl ?_
  refine l_aload_n (i := 0) (pc' := 20) dL_law_19 rfl rfl rfl ?_
  refine l_slen (pc' := 21) dL_law_20 rfl ?_
  refine l_bipush (pc' := 23) dL_law_21 rfl (by decide) ?_
  refine l_isub (pc' := 24) dL_law_23 rfl ?_
  obtain ⟨c1, c2, h⟩ := h
  refine l_icmp_gt (tgt := 1423) (pc' := 27) dL_law_24 rfl (by decide) c1 c2 (fun hb => ?_) (fun hb => ?_)
  · have h := h.1 hb
    refine l_iconst (pc' := 1424) dL_law_1423 rfl ?_
    exact l_zret (b := true) dL_law_1424 rfl rfl h
  · have h := h.2 hb
    refine l_aload_n (i := 0) (pc' := 28) dL_law_27 rfl rfl rfl ?_
    refine l_iload_n (i := 3) (pc' := 29) dL_law_28 rfl rfl rfl ?_
    obtain ⟨c3, c4, h⟩ := h
    refine l_sld (pc' := 30) dL_law_29 rfl c3 c4 hL ?_
    refine l_bipush (pc' := 32) dL_law_30 rfl (by decide) ?_
    refine l_iand (pc' := 33) dL_law_32 rfl ?_
    obtain ⟨c5, h⟩ := h
    refine l_tableswitch (dt := 1417) dL_law_33 c5 (by decide) (fun hb => ?_) (fun hb hb2 => ?_)
    · have h := h.1 hb
      exact l_less (ls' := [some (vR 1), some (vR 2), some (vR 140), some (vI x3)]) ⟨rfl, ⟨rfl, ⟨rfl, ⟨rfl, trivial⟩⟩⟩⟩ h
    · have hc : (mm_and (τ 1 x3.toNat) 63) = 0 ∨ (mm_and (τ 1 x3.toNat) 63) = 1 ∨ (mm_and (τ 1 x3.toNat) 63) = 2 ∨ (mm_and (τ 1 x3.toNat) 63) = 3 ∨ (mm_and (τ 1 x3.toNat) 63) = 4 ∨ (mm_and (τ 1 x3.toNat) 63) = 5 ∨ (mm_and (τ 1 x3.toNat) 63) = 6 ∨ (mm_and (τ 1 x3.toNat) 63) = 7 ∨ (mm_and (τ 1 x3.toNat) 63) = 8 ∨ (mm_and (τ 1 x3.toNat) 63) = 9 ∨ (mm_and (τ 1 x3.toNat) 63) = 10 ∨ (mm_and (τ 1 x3.toNat) 63) = 11 ∨ (mm_and (τ 1 x3.toNat) 63) = 12 ∨ (mm_and (τ 1 x3.toNat) 63) = 13 ∨ (mm_and (τ 1 x3.toNat) 63) = 14 ∨ (mm_and (τ 1 x3.toNat) 63) = 15 ∨ (mm_and (τ 1 x3.toNat) 63) = 16 ∨ (mm_and (τ 1 x3.toNat) 63) = 17 ∨ (mm_and (τ 1 x3.toNat) 63) = 18 ∨ (mm_and (τ 1 x3.toNat) 63) = 19 ∨ (mm_and (τ 1 x3.toNat) 63) = 20 ∨ (mm_and (τ 1 x3.toNat) 63) = 21 ∨ (mm_and (τ 1 x3.toNat) 63) = 22 ∨ (mm_and (τ 1 x3.toNat) 63) = 23 ∨ (mm_and (τ 1 x3.toNat) 63) = 24 ∨ (mm_and (τ 1 x3.toNat) 63) = 25 ∨ (mm_and (τ 1 x3.toNat) 63) = 26 ∨ (mm_and (τ 1 x3.toNat) 63) = 27 ∨ (mm_and (τ 1 x3.toNat) 63) = 28 ∨ (mm_and (τ 1 x3.toNat) 63) = 29 ∨ (mm_and (τ 1 x3.toNat) 63) = 30 ∨ (mm_and (τ 1 x3.toNat) 63) = 31 ∨ (mm_and (τ 1 x3.toNat) 63) = 32 ∨ (mm_and (τ 1 x3.toNat) 63) = 33 ∨ (mm_and (τ 1 x3.toNat) 63) = 34 ∨ (mm_and (τ 1 x3.toNat) 63) = 35 ∨ (mm_and (τ 1 x3.toNat) 63) = 36 ∨ (mm_and (τ 1 x3.toNat) 63) = 37 := by omega
      rcases hc with hc | hc | hc | hc | hc | hc | hc | hc | hc | hc | hc | hc | hc | hc | hc | hc | hc | hc | hc | hc | hc | hc | hc | hc | hc | hc | hc | hc | hc | hc | hc | hc | hc | hc | hc | hc | hc | hc
      · have h := h.2.1 hc
        refine ⟨167, 200, by rw [hc]; rfl, by decide, ?_⟩
        exact l_less (ls' := [some (vR 1), some (vR 2), some (vR 140), some (vI x3)]) ⟨rfl, ⟨rfl, ⟨rfl, ⟨rfl, trivial⟩⟩⟩⟩ h
      · have h := h.2.2.1 hc
        refine ⟨230, 263, by rw [hc]; rfl, by decide, ?_⟩
        exact l_less (ls' := [some (vR 1), some (vR 2), some (vR 140), some (vI x3)]) ⟨rfl, ⟨rfl, ⟨rfl, ⟨rfl, trivial⟩⟩⟩⟩ h
      · have h := h.2.2.2.1 hc
        refine ⟨253, 286, by rw [hc]; rfl, by decide, ?_⟩
        exact l_less (ls' := [some (vR 1), some (vR 2), some (vR 140), some (vI x3)]) ⟨rfl, ⟨rfl, ⟨rfl, ⟨rfl, trivial⟩⟩⟩⟩ h
      · have h := h.2.2.2.2.1 hc
        refine ⟨266, 299, by rw [hc]; rfl, by decide, ?_⟩
        exact l_less (ls' := [some (vR 1), some (vR 2), some (vR 140), some (vI x3)]) ⟨rfl, ⟨rfl, ⟨rfl, ⟨rfl, trivial⟩⟩⟩⟩ h
      · have h := h.2.2.2.2.2.1 hc
        refine ⟨289, 322, by rw [hc]; rfl, by decide, ?_⟩
        exact l_less (ls' := [some (vR 1), some (vR 2), some (vR 140), some (vI x3)]) ⟨rfl, ⟨rfl, ⟨rfl, ⟨rfl, trivial⟩⟩⟩⟩ h
      · have h := h.2.2.2.2.2.2.1 hc
        refine ⟨312, 345, by rw [hc]; rfl, by decide, ?_⟩
        exact l_less (ls' := [some (vR 1), some (vR 2), some (vR 140), some (vI x3)]) ⟨rfl, ⟨rfl, ⟨rfl, ⟨rfl, trivial⟩⟩⟩⟩ h
      · have h := h.2.2.2.2.2.2.2.1 hc
        refine ⟨355, 388, by rw [hc]; rfl, by decide, ?_⟩
        exact l_less (ls' := [some (vR 1), some (vR 2), some (vR 140), some (vI x3)]) ⟨rfl, ⟨rfl, ⟨rfl, ⟨rfl, trivial⟩⟩⟩⟩ h
      · have h := h.2.2.2.2.2.2.2.2.1 hc
        refine ⟨388, 421, by rw [hc]; rfl, by decide, ?_⟩
        exact l_less (ls' := [some (vR 1), some (vR 2), some (vR 140), some (vI x3)]) ⟨rfl, ⟨rfl, ⟨rfl, ⟨rfl, trivial⟩⟩⟩⟩ h
      · have h := h.2.2.2.2.2.2.2.2.2.1 hc
        refine ⟨421, 454, by rw [hc]; rfl, by decide, ?_⟩
        exact l_less (ls' := [some (vR 1), some (vR 2), some (vR 140), some (vI x3)]) ⟨rfl, ⟨rfl, ⟨rfl, ⟨rfl, trivial⟩⟩⟩⟩ h
      · have h := h.2.2.2.2.2.2.2.2.2.2.1 hc
        refine ⟨464, 497, by rw [hc]; rfl, by decide, ?_⟩
        exact l_less (ls' := [some (vR 1), some (vR 2), some (vR 140), some (vI x3)]) ⟨rfl, ⟨rfl, ⟨rfl, ⟨rfl, trivial⟩⟩⟩⟩ h
      · have h := h.2.2.2.2.2.2.2.2.2.2.2.1 hc
        refine ⟨497, 530, by rw [hc]; rfl, by decide, ?_⟩
        exact l_less (ls' := [some (vR 1), some (vR 2), some (vR 140), some (vI x3)]) ⟨rfl, ⟨rfl, ⟨rfl, ⟨rfl, trivial⟩⟩⟩⟩ h
      · have h := h.2.2.2.2.2.2.2.2.2.2.2.2.1 hc
        refine ⟨540, 573, by rw [hc]; rfl, by decide, ?_⟩
        exact l_less (ls' := [some (vR 1), some (vR 2), some (vR 140), some (vI x3)]) ⟨rfl, ⟨rfl, ⟨rfl, ⟨rfl, trivial⟩⟩⟩⟩ h
      · have h := h.2.2.2.2.2.2.2.2.2.2.2.2.2.1 hc
        refine ⟨583, 616, by rw [hc]; rfl, by decide, ?_⟩
        exact l_less (ls' := [some (vR 1), some (vR 2), some (vR 140), some (vI x3)]) ⟨rfl, ⟨rfl, ⟨rfl, ⟨rfl, trivial⟩⟩⟩⟩ h
      · have h := h.2.2.2.2.2.2.2.2.2.2.2.2.2.2.1 hc
        refine ⟨606, 639, by rw [hc]; rfl, by decide, ?_⟩
        exact l_less (ls' := [some (vR 1), some (vR 2), some (vR 140), some (vI x3)]) ⟨rfl, ⟨rfl, ⟨rfl, ⟨rfl, trivial⟩⟩⟩⟩ h
      · have h := h.2.2.2.2.2.2.2.2.2.2.2.2.2.2.2.1 hc
        refine ⟨649, 682, by rw [hc]; rfl, by decide, ?_⟩
        exact l_less (ls' := [some (vR 1), some (vR 2), some (vR 140), some (vI x3)]) ⟨rfl, ⟨rfl, ⟨rfl, ⟨rfl, trivial⟩⟩⟩⟩ h
      · have h := h.2.2.2.2.2.2.2.2.2.2.2.2.2.2.2.2.1 hc
        refine ⟨682, 715, by rw [hc]; rfl, by decide, ?_⟩
        exact l_less (ls' := [some (vR 1), some (vR 2), some (vR 140), some (vI x3)]) ⟨rfl, ⟨rfl, ⟨rfl, ⟨rfl, trivial⟩⟩⟩⟩ h
      · have h := h.2.2.2.2.2.2.2.2.2.2.2.2.2.2.2.2.2.1 hc
        refine ⟨705, 738, by rw [hc]; rfl, by decide, ?_⟩
        exact l_less (ls' := [some (vR 1), some (vR 2), some (vR 140), some (vI x3)]) ⟨rfl, ⟨rfl, ⟨rfl, ⟨rfl, trivial⟩⟩⟩⟩ h
      · have h := h.2.2.2.2.2.2.2.2.2.2.2.2.2.2.2.2.2.2.1 hc
        refine ⟨738, 771, by rw [hc]; rfl, by decide, ?_⟩
        exact l_less (ls' := [some (vR 1), some (vR 2), some (vR 140), some (vI x3)]) ⟨rfl, ⟨rfl, ⟨rfl, ⟨rfl, trivial⟩⟩⟩⟩ h
      · have h := h.2.2.2.2.2.2.2.2.2.2.2.2.2.2.2.2.2.2.2.1 hc
        refine ⟨761, 794, by rw [hc]; rfl, by decide, ?_⟩
        exact l_less (ls' := [some (vR 1), some (vR 2), some (vR 140), some (vI x3)]) ⟨rfl, ⟨rfl, ⟨rfl, ⟨rfl, trivial⟩⟩⟩⟩ h
      · have h := h.2.2.2.2.2.2.2.2.2.2.2.2.2.2.2.2.2.2.2.2.1 hc
        refine ⟨784, 817, by rw [hc]; rfl, by decide, ?_⟩
        exact l_less (ls' := [some (vR 1), some (vR 2), some (vR 140), some (vI x3)]) ⟨rfl, ⟨rfl, ⟨rfl, ⟨rfl, trivial⟩⟩⟩⟩ h
      · have h := h.2.2.2.2.2.2.2.2.2.2.2.2.2.2.2.2.2.2.2.2.2.1 hc
        refine ⟨807, 840, by rw [hc]; rfl, by decide, ?_⟩
        exact l_less (ls' := [some (vR 1), some (vR 2), some (vR 140), some (vI x3)]) ⟨rfl, ⟨rfl, ⟨rfl, ⟨rfl, trivial⟩⟩⟩⟩ h
      · have h := h.2.2.2.2.2.2.2.2.2.2.2.2.2.2.2.2.2.2.2.2.2.2.1 hc
        refine ⟨841, 874, by rw [hc]; rfl, by decide, ?_⟩
        exact l_less (ls' := [some (vR 1), some (vR 2), some (vR 140), some (vI x3)]) ⟨rfl, ⟨rfl, ⟨rfl, ⟨rfl, trivial⟩⟩⟩⟩ h
      · have h := h.2.2.2.2.2.2.2.2.2.2.2.2.2.2.2.2.2.2.2.2.2.2.2.1 hc
        refine ⟨875, 908, by rw [hc]; rfl, by decide, ?_⟩
        exact l_less (ls' := [some (vR 1), some (vR 2), some (vR 140), some (vI x3)]) ⟨rfl, ⟨rfl, ⟨rfl, ⟨rfl, trivial⟩⟩⟩⟩ h
      · have h := h.2.2.2.2.2.2.2.2.2.2.2.2.2.2.2.2.2.2.2.2.2.2.2.2.1 hc
        refine ⟨898, 931, by rw [hc]; rfl, by decide, ?_⟩
        exact l_less (ls' := [some (vR 1), some (vR 2), some (vR 140), some (vI x3)]) ⟨rfl, ⟨rfl, ⟨rfl, ⟨rfl, trivial⟩⟩⟩⟩ h
      · have h := h.2.2.2.2.2.2.2.2.2.2.2.2.2.2.2.2.2.2.2.2.2.2.2.2.2.1 hc
        refine ⟨932, 965, by rw [hc]; rfl, by decide, ?_⟩
        exact l_less (ls' := [some (vR 1), some (vR 2), some (vR 140), some (vI x3)]) ⟨rfl, ⟨rfl, ⟨rfl, ⟨rfl, trivial⟩⟩⟩⟩ h
      · have h := h.2.2.2.2.2.2.2.2.2.2.2.2.2.2.2.2.2.2.2.2.2.2.2.2.2.2.1 hc
        refine ⟨955, 988, by rw [hc]; rfl, by decide, ?_⟩
        exact l_less (ls' := [some (vR 1), some (vR 2), some (vR 140), some (vI x3)]) ⟨rfl, ⟨rfl, ⟨rfl, ⟨rfl, trivial⟩⟩⟩⟩ h
      · have h := h.2.2.2.2.2.2.2.2.2.2.2.2.2.2.2.2.2.2.2.2.2.2.2.2.2.2.2.1 hc
        refine ⟨1008, 1041, by rw [hc]; rfl, by decide, ?_⟩
        exact l_less (ls' := [some (vR 1), some (vR 2), some (vR 140), some (vI x3)]) ⟨rfl, ⟨rfl, ⟨rfl, ⟨rfl, trivial⟩⟩⟩⟩ h
      · have h := h.2.2.2.2.2.2.2.2.2.2.2.2.2.2.2.2.2.2.2.2.2.2.2.2.2.2.2.2.1 hc
        refine ⟨1051, 1084, by rw [hc]; rfl, by decide, ?_⟩
        exact l_less (ls' := [some (vR 1), some (vR 2), some (vR 140), some (vI x3)]) ⟨rfl, ⟨rfl, ⟨rfl, ⟨rfl, trivial⟩⟩⟩⟩ h
      · have h := h.2.2.2.2.2.2.2.2.2.2.2.2.2.2.2.2.2.2.2.2.2.2.2.2.2.2.2.2.2.1 hc
        refine ⟨1084, 1117, by rw [hc]; rfl, by decide, ?_⟩
        exact l_less (ls' := [some (vR 1), some (vR 2), some (vR 140), some (vI x3)]) ⟨rfl, ⟨rfl, ⟨rfl, ⟨rfl, trivial⟩⟩⟩⟩ h
      · have h := h.2.2.2.2.2.2.2.2.2.2.2.2.2.2.2.2.2.2.2.2.2.2.2.2.2.2.2.2.2.2.1 hc
        refine ⟨1127, 1160, by rw [hc]; rfl, by decide, ?_⟩
        exact l_less (ls' := [some (vR 1), some (vR 2), some (vR 140), some (vI x3)]) ⟨rfl, ⟨rfl, ⟨rfl, ⟨rfl, trivial⟩⟩⟩⟩ h
      · have h := h.2.2.2.2.2.2.2.2.2.2.2.2.2.2.2.2.2.2.2.2.2.2.2.2.2.2.2.2.2.2.2.1 hc
        refine ⟨1170, 1203, by rw [hc]; rfl, by decide, ?_⟩
        exact l_less (ls' := [some (vR 1), some (vR 2), some (vR 140), some (vI x3)]) ⟨rfl, ⟨rfl, ⟨rfl, ⟨rfl, trivial⟩⟩⟩⟩ h
      · have h := h.2.2.2.2.2.2.2.2.2.2.2.2.2.2.2.2.2.2.2.2.2.2.2.2.2.2.2.2.2.2.2.2.1 hc
        refine ⟨1213, 1246, by rw [hc]; rfl, by decide, ?_⟩
        exact l_less (ls' := [some (vR 1), some (vR 2), some (vR 140), some (vI x3)]) ⟨rfl, ⟨rfl, ⟨rfl, ⟨rfl, trivial⟩⟩⟩⟩ h
      · have h := h.2.2.2.2.2.2.2.2.2.2.2.2.2.2.2.2.2.2.2.2.2.2.2.2.2.2.2.2.2.2.2.2.2.1 hc
        refine ⟨1266, 1299, by rw [hc]; rfl, by decide, ?_⟩
        exact l_less (ls' := [some (vR 1), some (vR 2), some (vR 140), some (vI x3)]) ⟨rfl, ⟨rfl, ⟨rfl, ⟨rfl, trivial⟩⟩⟩⟩ h
      · have h := h.2.2.2.2.2.2.2.2.2.2.2.2.2.2.2.2.2.2.2.2.2.2.2.2.2.2.2.2.2.2.2.2.2.2.1 hc
        refine ⟨1289, 1322, by rw [hc]; rfl, by decide, ?_⟩
        exact l_less (ls' := [some (vR 1), some (vR 2), some (vR 140), some (vI x3)]) ⟨rfl, ⟨rfl, ⟨rfl, ⟨rfl, trivial⟩⟩⟩⟩ h
      · have h := h.2.2.2.2.2.2.2.2.2.2.2.2.2.2.2.2.2.2.2.2.2.2.2.2.2.2.2.2.2.2.2.2.2.2.2.1 hc
        refine ⟨1312, 1345, by rw [hc]; rfl, by decide, ?_⟩
        exact l_less (ls' := [some (vR 1), some (vR 2), some (vR 140), some (vI x3)]) ⟨rfl, ⟨rfl, ⟨rfl, ⟨rfl, trivial⟩⟩⟩⟩ h
      · have h := h.2.2.2.2.2.2.2.2.2.2.2.2.2.2.2.2.2.2.2.2.2.2.2.2.2.2.2.2.2.2.2.2.2.2.2.2.1 hc
        refine ⟨1325, 1358, by rw [hc]; rfl, by decide, ?_⟩
        exact l_less (ls' := [some (vR 1), some (vR 2), some (vR 140), some (vI x3)]) ⟨rfl, ⟨rfl, ⟨rfl, ⟨rfl, trivial⟩⟩⟩⟩ h
      · have h := h.2.2.2.2.2.2.2.2.2.2.2.2.2.2.2.2.2.2.2.2.2.2.2.2.2.2.2.2.2.2.2.2.2.2.2.2.2.1 hc
        refine ⟨1348, 1381, by rw [hc]; rfl, by decide, ?_⟩
        exact l_less (ls' := [some (vR 1), some (vR 2), some (vR 140), some (vI x3)]) ⟨rfl, ⟨rfl, ⟨rfl, ⟨rfl, trivial⟩⟩⟩⟩ h
      · have h := h.2.2.2.2.2.2.2.2.2.2.2.2.2.2.2.2.2.2.2.2.2.2.2.2.2.2.2.2.2.2.2.2.2.2.2.2.2.2 hc
        refine ⟨1361, 1394, by rw [hc]; rfl, by decide, ?_⟩
        exact l_less (ls' := [some (vR 1), some (vR 2), some (vR 140), some (vI x3)]) ⟨rfl, ⟨rfl, ⟨rfl, ⟨rfl, trivial⟩⟩⟩⟩ h
set_option maxRecDepth 20000 in
theorem bL_law_200 {E : mm_Env} {τ : mm_Mem} {Q : mm_Q0} (hL : E.2.2.2.2 ≤ 2147483647) {x3 : Int} (h : 0 ≤ (x3 + 1) ∧ (x3 + 1) < (E.2.2.2.2 : Int) ∧ 0 ≤ (x3 + 2) ∧ (x3 + 2) < (E.2.2.2.2 : Int) ∧ 0 ≤ (x3 + 3) ∧ (x3 + 3) < (E.2.2.2.2 : Int) ∧ 0 ≤ (x3 + 4) ∧ (x3 + 4) < (E.2.2.2.2 : Int) ∧ 0 ≤ (x3 + 5) ∧ (x3 + 5) < (E.2.2.2.2 : Int) ∧ M0 E 100 qX10_feed [vR 2, vI (τ 1 (x3 + 1).toNat), vI (τ 1 (x3 + 2).toNat), vI (τ 1 (x3 + 3).toNat), vI (τ 1 (x3 + 4).toNat), vI (τ 1 (x3 + 5).toNat)] τ (fun v τ11 => ∃ r12 : Int, v = some (vI r12) ∧ 0 ≤ (x3 + 1) ∧ (x3 + 1) < (E.2.2.2.2 : Int) ∧ 0 ≤ (x3 + 2) ∧ (x3 + 2) < (E.2.2.2.2 : Int) ∧ 0 ≤ (x3 + 3) ∧ (x3 + 3) < (E.2.2.2.2 : Int) ∧ 0 ≤ (x3 + 4) ∧ (x3 + 4) < (E.2.2.2.2 : Int) ∧ 0 ≤ (x3 + 5) ∧ (x3 + 5) < (E.2.2.2.2 : Int) ∧ M0 E 100 qX11_feed [vR 140, vI (τ11 1 (x3 + 1).toNat), vI (τ11 1 (x3 + 2).toNat), vI (τ11 1 (x3 + 3).toNat), vI (τ11 1 (x3 + 4).toNat), vI (τ11 1 (x3 + 5).toNat)] τ11 (fun v τ23 => ∃ r24 : Int, v = some (vI r24) ∧ r12 = r24 ∧ VL E qL_law 1417 [some (vR 1), some (vR 2), some (vR 140), some (vI x3)] [] τ23 Q))) : VL E qL_law 200 [some (vR 1), some (vR 2), some (vR 140), some (vI x3)] [] τ Q := by
  refine l_aload_n (i := 1) (pc' := 201) dL_law_200 rfl rfl rfl ?_
  refine l_aload_n (i := 0) (pc' := 202) dL_law_201 rfl rfl rfl ?_
  refine l_iload_n (i := 3) (pc' := 203) dL_law_202 rfl rfl rfl ?_
  refine l_iconst (pc' := 204) dL_law_203 rfl ?_
  refine l_iadd (pc' := 205) dL_law_204 rfl ?_
  obtain ⟨c1, c2, h⟩ := h
  refine l_sld (pc' := 206) dL_law_205 rfl c1 c2 hL ?_
  refine l_aload_n (i := 0) (pc' := 207) dL_law_206 rfl rfl rfl ?_
  refine l_iload_n (i := 3) (pc' := 208) dL_law_207 rfl rfl rfl ?_
  refine l_iconst (pc' := 209) dL_law_208 rfl ?_
  refine l_iadd (pc' := 210) dL_law_209 rfl ?_
  obtain ⟨c3, c4, h⟩ := h
  refine l_sld (pc' := 211) dL_law_210 rfl c3 c4 hL ?_
  refine l_aload_n (i := 0) (pc' := 212) dL_law_211 rfl rfl rfl ?_
  refine l_iload_n (i := 3) (pc' := 213) dL_law_212 rfl rfl rfl ?_
  refine l_iconst (pc' := 214) dL_law_213 rfl ?_
  refine l_iadd (pc' := 215) dL_law_214 rfl ?_
  obtain ⟨c5, c6, h⟩ := h
  refine l_sld (pc' := 216) dL_law_215 rfl c5 c6 hL ?_
  refine l_aload_n (i := 0) (pc' := 217) dL_law_216 rfl rfl rfl ?_
  refine l_iload_n (i := 3) (pc' := 218) dL_law_217 rfl rfl rfl ?_
  refine l_iconst (pc' := 219) dL_law_218 rfl ?_
  refine l_iadd (pc' := 220) dL_law_219 rfl ?_
  obtain ⟨c7, c8, h⟩ := h
  refine l_sld (pc' := 221) dL_law_220 rfl c7 c8 hL ?_
  refine l_aload_n (i := 0) (pc' := 222) dL_law_221 rfl rfl rfl ?_
  refine l_iload_n (i := 3) (pc' := 223) dL_law_222 rfl rfl rfl ?_
  refine l_iconst (pc' := 224) dL_law_223 rfl ?_
  refine l_iadd (pc' := 225) dL_law_224 rfl ?_
  obtain ⟨c9, c10, h⟩ := h
  refine l_sld (pc' := 226) dL_law_225 rfl c9 c10 hL ?_
  refine l_invV (q' := qX10_feed) (As := [vI (τ 1 (x3 + 1).toNat), vI (τ 1 (x3 + 2).toNat), vI (τ 1 (x3 + 3).toNat), vI (τ 1 (x3 + 4).toNat), vI (τ 1 (x3 + 5).toNat)]) (st := []) (pc' := 229) dL_law_226 rfl gX10_feed wm_505 rfl rfl (by decide) kd_2 wm_506 wm_507 rfl (Nat.le_of_ble_eq_true rfl) (M0.mono h (fun v τ11 h => ?_))
  obtain ⟨r12, rfl, h⟩ := h
  show VL E qL_law 229 [some (vR 1), some (vR 2), some (vR 140), some (vI x3)] [vI r12] τ11 Q
  refine l_aload_n (i := 2) (pc' := 230) dL_law_229 rfl rfl rfl ?_
  refine l_aload_n (i := 0) (pc' := 231) dL_law_230 rfl rfl rfl ?_
  refine l_iload_n (i := 3) (pc' := 232) dL_law_231 rfl rfl rfl ?_
  refine l_iconst (pc' := 233) dL_law_232 rfl ?_
  refine l_iadd (pc' := 234) dL_law_233 rfl ?_
  obtain ⟨c13, c14, h⟩ := h
  refine l_sld (pc' := 235) dL_law_234 rfl c13 c14 hL ?_
  refine l_aload_n (i := 0) (pc' := 236) dL_law_235 rfl rfl rfl ?_
  refine l_iload_n (i := 3) (pc' := 237) dL_law_236 rfl rfl rfl ?_
  refine l_iconst (pc' := 238) dL_law_237 rfl ?_
  refine l_iadd (pc' := 239) dL_law_238 rfl ?_
  obtain ⟨c15, c16, h⟩ := h
  refine l_sld (pc' := 240) dL_law_239 rfl c15 c16 hL ?_
  refine l_aload_n (i := 0) (pc' := 241) dL_law_240 rfl rfl rfl ?_
  refine l_iload_n (i := 3) (pc' := 242) dL_law_241 rfl rfl rfl ?_
  refine l_iconst (pc' := 243) dL_law_242 rfl ?_
  refine l_iadd (pc' := 244) dL_law_243 rfl ?_
  obtain ⟨c17, c18, h⟩ := h
  refine l_sld (pc' := 245) dL_law_244 rfl c17 c18 hL ?_
  refine l_aload_n (i := 0) (pc' := 246) dL_law_245 rfl rfl rfl ?_
  refine l_iload_n (i := 3) (pc' := 247) dL_law_246 rfl rfl rfl ?_
  refine l_iconst (pc' := 248) dL_law_247 rfl ?_
  refine l_iadd (pc' := 249) dL_law_248 rfl ?_
  obtain ⟨c19, c20, h⟩ := h
  refine l_sld (pc' := 250) dL_law_249 rfl c19 c20 hL ?_
  refine l_aload_n (i := 0) (pc' := 251) dL_law_250 rfl rfl rfl ?_
  refine l_iload_n (i := 3) (pc' := 252) dL_law_251 rfl rfl rfl ?_
  refine l_iconst (pc' := 253) dL_law_252 rfl ?_
  refine l_iadd (pc' := 254) dL_law_253 rfl ?_
  obtain ⟨c21, c22, h⟩ := h
  refine l_sld (pc' := 255) dL_law_254 rfl c21 c22 hL ?_
  refine l_invV (q' := qX11_feed) (As := [vI (τ11 1 (x3 + 1).toNat), vI (τ11 1 (x3 + 2).toNat), vI (τ11 1 (x3 + 3).toNat), vI (τ11 1 (x3 + 4).toNat), vI (τ11 1 (x3 + 5).toNat)]) (st := [vI r12]) (pc' := 258) dL_law_255 rfl gX11_feed wm_1448 rfl rfl (by decide) kd_140 wm_1449 wm_1450 rfl (Nat.le_of_ble_eq_true rfl) (M0.mono h (fun v τ23 h => ?_))
  obtain ⟨r24, rfl, h⟩ := h
  show VL E qL_law 258 [some (vR 1), some (vR 2), some (vR 140), some (vI x3)] [vI r24, vI r12] τ23 Q
  obtain ⟨he, h⟩ := h
  subst he
  refine l_icmp_same (tgt := 1417) dL_law_258 (by decide) ?_
  exact l_less (ls' := [some (vR 1), some (vR 2), some (vR 140), some (vI x3)]) ⟨rfl, ⟨rfl, ⟨rfl, ⟨rfl, trivial⟩⟩⟩⟩ h
set_option maxRecDepth 20000 in
theorem bL_law_263 {E : mm_Env} {τ : mm_Mem} {Q : mm_Q0} (hL : E.2.2.2.2 ≤ 2147483647) {x3 : Int} (h : 0 ≤ (x3 + 1) ∧ (x3 + 1) < (E.2.2.2.2 : Int) ∧ M0 E 100 qX10_end [vR 2, vI (τ 1 (x3 + 1).toNat)] τ (fun v τ3 => ∃ b4 : Bool, v = some (vB b4) ∧ 0 ≤ (x3 + 1) ∧ (x3 + 1) < (E.2.2.2.2 : Int) ∧ M0 E 100 qX11_end [vR 140, vI (τ3 1 (x3 + 1).toNat)] τ3 (fun v τ7 => ∃ b8 : Bool, v = some (vB b8) ∧ b4 = b8 ∧ VL E qL_law 1417 [some (vR 1), some (vR 2), some (vR 140), some (vI x3)] [] τ7 Q))) : VL E qL_law 263 [some (vR 1), some (vR 2), some (vR 140), some (vI x3)] [] τ Q := by
  refine l_aload_n (i := 1) (pc' := 264) dL_law_263 rfl rfl rfl ?_
  refine l_aload_n (i := 0) (pc' := 265) dL_law_264 rfl rfl rfl ?_
  refine l_iload_n (i := 3) (pc' := 266) dL_law_265 rfl rfl rfl ?_
  refine l_iconst (pc' := 267) dL_law_266 rfl ?_
  refine l_iadd (pc' := 268) dL_law_267 rfl ?_
  obtain ⟨c1, c2, h⟩ := h
  refine l_sld (pc' := 269) dL_law_268 rfl c1 c2 hL ?_
  refine l_invV (q' := qX10_end) (As := [vI (τ 1 (x3 + 1).toNat)]) (st := []) (pc' := 272) dL_law_269 rfl gX10_end wm_513 rfl rfl (by decide) kd_2 wm_514 wm_515 rfl (Nat.le_of_ble_eq_true rfl) (M0.mono h (fun v τ3 h => ?_))
  obtain ⟨b4, rfl, h⟩ := h
  show VL E qL_law 272 [some (vR 1), some (vR 2), some (vR 140), some (vI x3)] [vB b4] τ3 Q
  refine l_aload_n (i := 2) (pc' := 273) dL_law_272 rfl rfl rfl ?_
  refine l_aload_n (i := 0) (pc' := 274) dL_law_273 rfl rfl rfl ?_
  refine l_iload_n (i := 3) (pc' := 275) dL_law_274 rfl rfl rfl ?_
  refine l_iconst (pc' := 276) dL_law_275 rfl ?_
  refine l_iadd (pc' := 277) dL_law_276 rfl ?_
  obtain ⟨c5, c6, h⟩ := h
  refine l_sld (pc' := 278) dL_law_277 rfl c5 c6 hL ?_
  refine l_invV (q' := qX11_end) (As := [vI (τ3 1 (x3 + 1).toNat)]) (st := [vB b4]) (pc' := 281) dL_law_278 rfl gX11_end wm_1460 rfl rfl (by decide) kd_140 wm_1461 wm_1462 rfl (Nat.le_of_ble_eq_true rfl) (M0.mono h (fun v τ7 h => ?_))
  obtain ⟨b8, rfl, h⟩ := h
  show VL E qL_law 281 [some (vR 1), some (vR 2), some (vR 140), some (vI x3)] [vB b8, vB b4] τ7 Q
  obtain ⟨he, h⟩ := h
  subst he
  refine l_icmp_same (tgt := 1417) dL_law_281 (by decide) ?_
  exact l_less (ls' := [some (vR 1), some (vR 2), some (vR 140), some (vI x3)]) ⟨rfl, ⟨rfl, ⟨rfl, ⟨rfl, trivial⟩⟩⟩⟩ h
set_option maxRecDepth 20000 in
theorem bL_law_286 {E : mm_Env} {τ : mm_Mem} {Q : mm_Q0} (hL : E.2.2.2.2 ≤ 2147483647) {x3 : Int} (h : M0 E 100 qX10_house [vR 2] τ (fun v τ1 => ∃ r2 : Int, v = some (vI r2) ∧ M0 E 100 qX11_house [vR 140] τ1 (fun v τ3 => ∃ r4 : Int, v = some (vI r4) ∧ r2 = r4 ∧ VL E qL_law 1417 [some (vR 1), some (vR 2), some (vR 140), some (vI x3)] [] τ3 Q))) : VL E qL_law 286 [some (vR 1), some (vR 2), some (vR 140), some (vI x3)] [] τ Q := by
  refine l_aload_n (i := 1) (pc' := 287) dL_law_286 rfl rfl rfl ?_
  refine l_invV (q' := qX10_house) (As := []) (st := []) (pc' := 290) dL_law_287 rfl gX10_house wm_517 rfl rfl (by decide) kd_2 wm_518 wm_519 rfl (Nat.le_of_ble_eq_true rfl) (M0.mono h (fun v τ1 h => ?_))
  obtain ⟨r2, rfl, h⟩ := h
  show VL E qL_law 290 [some (vR 1), some (vR 2), some (vR 140), some (vI x3)] [vI r2] τ1 Q
  refine l_aload_n (i := 2) (pc' := 291) dL_law_290 rfl rfl rfl ?_
  refine l_invV (q' := qX11_house) (As := []) (st := [vI r2]) (pc' := 294) dL_law_291 rfl gX11_house wm_1464 rfl rfl (by decide) kd_140 wm_1465 wm_1466 rfl (Nat.le_of_ble_eq_true rfl) (M0.mono h (fun v τ3 h => ?_))
  obtain ⟨r4, rfl, h⟩ := h
  show VL E qL_law 294 [some (vR 1), some (vR 2), some (vR 140), some (vI x3)] [vI r4, vI r2] τ3 Q
  obtain ⟨he, h⟩ := h
  subst he
  refine l_icmp_same (tgt := 1417) dL_law_294 (by decide) ?_
  exact l_less (ls' := [some (vR 1), some (vR 2), some (vR 140), some (vI x3)]) ⟨rfl, ⟨rfl, ⟨rfl, ⟨rfl, trivial⟩⟩⟩⟩ h
set_option maxRecDepth 20000 in
theorem bL_law_299 {E : mm_Env} {τ : mm_Mem} {Q : mm_Q0} (hL : E.2.2.2.2 ≤ 2147483647) {x3 : Int} (h : 0 ≤ (x3 + 1) ∧ (x3 + 1) < (E.2.2.2.2 : Int) ∧ M0 E 100 qX10_fault [vR 2, vI (τ 1 (x3 + 1).toNat)] τ (fun v τ3 => ∃ r4 : Int, v = some (vI r4) ∧ 0 ≤ (x3 + 1) ∧ (x3 + 1) < (E.2.2.2.2 : Int) ∧ M0 E 100 qX11_fault [vR 140, vI (τ3 1 (x3 + 1).toNat)] τ3 (fun v τ7 => ∃ r8 : Int, v = some (vI r8) ∧ r4 = r8 ∧ VL E qL_law 1417 [some (vR 1), some (vR 2), some (vR 140), some (vI x3)] [] τ7 Q))) : VL E qL_law 299 [some (vR 1), some (vR 2), some (vR 140), some (vI x3)] [] τ Q := by
  refine l_aload_n (i := 1) (pc' := 300) dL_law_299 rfl rfl rfl ?_
  refine l_aload_n (i := 0) (pc' := 301) dL_law_300 rfl rfl rfl ?_
  refine l_iload_n (i := 3) (pc' := 302) dL_law_301 rfl rfl rfl ?_
  refine l_iconst (pc' := 303) dL_law_302 rfl ?_
  refine l_iadd (pc' := 304) dL_law_303 rfl ?_
  obtain ⟨c1, c2, h⟩ := h
  refine l_sld (pc' := 305) dL_law_304 rfl c1 c2 hL ?_
  refine l_invV (q' := qX10_fault) (As := [vI (τ 1 (x3 + 1).toNat)]) (st := []) (pc' := 308) dL_law_305 rfl gX10_fault wm_816 rfl rfl (by decide) kd_2 wm_817 wm_818 rfl (Nat.le_of_ble_eq_true rfl) (M0.mono h (fun v τ3 h => ?_))
  obtain ⟨r4, rfl, h⟩ := h
  show VL E qL_law 308 [some (vR 1), some (vR 2), some (vR 140), some (vI x3)] [vI r4] τ3 Q
  refine l_aload_n (i := 2) (pc' := 309) dL_law_308 rfl rfl rfl ?_
  refine l_aload_n (i := 0) (pc' := 310) dL_law_309 rfl rfl rfl ?_
  refine l_iload_n (i := 3) (pc' := 311) dL_law_310 rfl rfl rfl ?_
  refine l_iconst (pc' := 312) dL_law_311 rfl ?_
  refine l_iadd (pc' := 313) dL_law_312 rfl ?_
  obtain ⟨c5, c6, h⟩ := h
  refine l_sld (pc' := 314) dL_law_313 rfl c5 c6 hL ?_
  refine l_invV (q' := qX11_fault) (As := [vI (τ3 1 (x3 + 1).toNat)]) (st := [vI r4]) (pc' := 317) dL_law_314 rfl gX11_fault wm_1659 rfl rfl (by decide) kd_140 wm_1660 wm_1661 rfl (Nat.le_of_ble_eq_true rfl) (M0.mono h (fun v τ7 h => ?_))
  obtain ⟨r8, rfl, h⟩ := h
  show VL E qL_law 317 [some (vR 1), some (vR 2), some (vR 140), some (vI x3)] [vI r8, vI r4] τ7 Q
  obtain ⟨he, h⟩ := h
  subst he
  refine l_icmp_same (tgt := 1417) dL_law_317 (by decide) ?_
  exact l_less (ls' := [some (vR 1), some (vR 2), some (vR 140), some (vI x3)]) ⟨rfl, ⟨rfl, ⟨rfl, ⟨rfl, trivial⟩⟩⟩⟩ h
set_option maxRecDepth 20000 in
theorem bL_law_322 {E : mm_Env} {τ : mm_Mem} {Q : mm_Q0} (hL : E.2.2.2.2 ≤ 2147483647) {x3 : Int} (h : 0 ≤ (x3 + 1) ∧ (x3 + 1) < (E.2.2.2.2 : Int) ∧ M0 E 100 qX10_has [vR 2, vI (τ 1 (x3 + 1).toNat)] τ (fun v τ3 => ∃ r4 : Int, v = some (vI r4) ∧ 0 ≤ (x3 + 1) ∧ (x3 + 1) < (E.2.2.2.2 : Int) ∧ M0 E 100 qX11_has [vR 140, vI (τ3 1 (x3 + 1).toNat)] τ3 (fun v τ7 => ∃ r8 : Int, v = some (vI r8) ∧ r4 = r8 ∧ VL E qL_law 1417 [some (vR 1), some (vR 2), some (vR 140), some (vI x3)] [] τ7 Q))) : VL E qL_law 322 [some (vR 1), some (vR 2), some (vR 140), some (vI x3)] [] τ Q := by
  refine l_aload_n (i := 1) (pc' := 323) dL_law_322 rfl rfl rfl ?_
  refine l_aload_n (i := 0) (pc' := 324) dL_law_323 rfl rfl rfl ?_
  refine l_iload_n (i := 3) (pc' := 325) dL_law_324 rfl rfl rfl ?_
  refine l_iconst (pc' := 326) dL_law_325 rfl ?_
  refine l_iadd (pc' := 327) dL_law_326 rfl ?_
  obtain ⟨c1, c2, h⟩ := h
  refine l_sld (pc' := 328) dL_law_327 rfl c1 c2 hL ?_
  refine l_invV (q' := qX10_has) (As := [vI (τ 1 (x3 + 1).toNat)]) (st := []) (pc' := 331) dL_law_328 rfl gX10_has wm_820 rfl rfl (by decide) kd_2 wm_821 wm_822 rfl (Nat.le_of_ble_eq_true rfl) (M0.mono h (fun v τ3 h => ?_))
  obtain ⟨r4, rfl, h⟩ := h
  show VL E qL_law 331 [some (vR 1), some (vR 2), some (vR 140), some (vI x3)] [vI r4] τ3 Q
  refine l_aload_n (i := 2) (pc' := 332) dL_law_331 rfl rfl rfl ?_
  refine l_aload_n (i := 0) (pc' := 333) dL_law_332 rfl rfl rfl ?_
  refine l_iload_n (i := 3) (pc' := 334) dL_law_333 rfl rfl rfl ?_
  refine l_iconst (pc' := 335) dL_law_334 rfl ?_
  refine l_iadd (pc' := 336) dL_law_335 rfl ?_
  obtain ⟨c5, c6, h⟩ := h
  refine l_sld (pc' := 337) dL_law_336 rfl c5 c6 hL ?_
  refine l_invV (q' := qX11_has) (As := [vI (τ3 1 (x3 + 1).toNat)]) (st := [vI r4]) (pc' := 340) dL_law_337 rfl gX11_has wm_1667 rfl rfl (by decide) kd_140 wm_1668 wm_1669 rfl (Nat.le_of_ble_eq_true rfl) (M0.mono h (fun v τ7 h => ?_))
  obtain ⟨r8, rfl, h⟩ := h
  show VL E qL_law 340 [some (vR 1), some (vR 2), some (vR 140), some (vI x3)] [vI r8, vI r4] τ7 Q
  obtain ⟨he, h⟩ := h
  subst he
  refine l_icmp_same (tgt := 1417) dL_law_340 (by decide) ?_
  exact l_less (ls' := [some (vR 1), some (vR 2), some (vR 140), some (vI x3)]) ⟨rfl, ⟨rfl, ⟨rfl, ⟨rfl, trivial⟩⟩⟩⟩ h
set_option maxRecDepth 20000 in
theorem bL_law_345 {E : mm_Env} {τ : mm_Mem} {Q : mm_Q0} (hL : E.2.2.2.2 ≤ 2147483647) {x3 : Int} (h : 0 ≤ (x3 + 1) ∧ (x3 + 1) < (E.2.2.2.2 : Int) ∧ 0 ≤ (x3 + 2) ∧ (x3 + 2) < (E.2.2.2.2 : Int) ∧ 0 ≤ (x3 + 3) ∧ (x3 + 3) < (E.2.2.2.2 : Int) ∧ M0 E 100 qX10_letter [vR 2, vI (τ 1 (x3 + 1).toNat), vI (τ 1 (x3 + 2).toNat), vI (τ 1 (x3 + 3).toNat)] τ (fun v τ7 => ∃ r8 : Int, v = some (vI r8) ∧ 0 ≤ (x3 + 1) ∧ (x3 + 1) < (E.2.2.2.2 : Int) ∧ 0 ≤ (x3 + 2) ∧ (x3 + 2) < (E.2.2.2.2 : Int) ∧ 0 ≤ (x3 + 3) ∧ (x3 + 3) < (E.2.2.2.2 : Int) ∧ M0 E 100 qX11_letter [vR 140, vI (τ7 1 (x3 + 1).toNat), vI (τ7 1 (x3 + 2).toNat), vI (τ7 1 (x3 + 3).toNat)] τ7 (fun v τ15 => ∃ r16 : Int, v = some (vI r16) ∧ r8 = r16 ∧ VL E qL_law 1417 [some (vR 1), some (vR 2), some (vR 140), some (vI x3)] [] τ15 Q))) : VL E qL_law 345 [some (vR 1), some (vR 2), some (vR 140), some (vI x3)] [] τ Q := by
  refine l_aload_n (i := 1) (pc' := 346) dL_law_345 rfl rfl rfl ?_
  refine l_aload_n (i := 0) (pc' := 347) dL_law_346 rfl rfl rfl ?_
  refine l_iload_n (i := 3) (pc' := 348) dL_law_347 rfl rfl rfl ?_
  refine l_iconst (pc' := 349) dL_law_348 rfl ?_
  refine l_iadd (pc' := 350) dL_law_349 rfl ?_
  obtain ⟨c1, c2, h⟩ := h
  refine l_sld (pc' := 351) dL_law_350 rfl c1 c2 hL ?_
  refine l_aload_n (i := 0) (pc' := 352) dL_law_351 rfl rfl rfl ?_
  refine l_iload_n (i := 3) (pc' := 353) dL_law_352 rfl rfl rfl ?_
  refine l_iconst (pc' := 354) dL_law_353 rfl ?_
  refine l_iadd (pc' := 355) dL_law_354 rfl ?_
  obtain ⟨c3, c4, h⟩ := h
  refine l_sld (pc' := 356) dL_law_355 rfl c3 c4 hL ?_
  refine l_aload_n (i := 0) (pc' := 357) dL_law_356 rfl rfl rfl ?_
  refine l_iload_n (i := 3) (pc' := 358) dL_law_357 rfl rfl rfl ?_
  refine l_iconst (pc' := 359) dL_law_358 rfl ?_
  refine l_iadd (pc' := 360) dL_law_359 rfl ?_
  obtain ⟨c5, c6, h⟩ := h
  refine l_sld (pc' := 361) dL_law_360 rfl c5 c6 hL ?_
  refine l_invV (q' := qX10_letter) (As := [vI (τ 1 (x3 + 1).toNat), vI (τ 1 (x3 + 2).toNat), vI (τ 1 (x3 + 3).toNat)]) (st := []) (pc' := 364) dL_law_361 rfl gX10_letter wm_825 rfl rfl (by decide) kd_2 wm_826 wm_827 rfl (Nat.le_of_ble_eq_true rfl) (M0.mono h (fun v τ7 h => ?_))
  obtain ⟨r8, rfl, h⟩ := h
  show VL E qL_law 364 [some (vR 1), some (vR 2), some (vR 140), some (vI x3)] [vI r8] τ7 Q
  refine l_aload_n (i := 2) (pc' := 365) dL_law_364 rfl rfl rfl ?_
  refine l_aload_n (i := 0) (pc' := 366) dL_law_365 rfl rfl rfl ?_
  refine l_iload_n (i := 3) (pc' := 367) dL_law_366 rfl rfl rfl ?_
  refine l_iconst (pc' := 368) dL_law_367 rfl ?_
  refine l_iadd (pc' := 369) dL_law_368 rfl ?_
  obtain ⟨c9, c10, h⟩ := h
  refine l_sld (pc' := 370) dL_law_369 rfl c9 c10 hL ?_
  refine l_aload_n (i := 0) (pc' := 371) dL_law_370 rfl rfl rfl ?_
  refine l_iload_n (i := 3) (pc' := 372) dL_law_371 rfl rfl rfl ?_
  refine l_iconst (pc' := 373) dL_law_372 rfl ?_
  refine l_iadd (pc' := 374) dL_law_373 rfl ?_
  obtain ⟨c11, c12, h⟩ := h
  refine l_sld (pc' := 375) dL_law_374 rfl c11 c12 hL ?_
  refine l_aload_n (i := 0) (pc' := 376) dL_law_375 rfl rfl rfl ?_
  refine l_iload_n (i := 3) (pc' := 377) dL_law_376 rfl rfl rfl ?_
  refine l_iconst (pc' := 378) dL_law_377 rfl ?_
  refine l_iadd (pc' := 379) dL_law_378 rfl ?_
  obtain ⟨c13, c14, h⟩ := h
  refine l_sld (pc' := 380) dL_law_379 rfl c13 c14 hL ?_
  refine l_invV (q' := qX11_letter) (As := [vI (τ7 1 (x3 + 1).toNat), vI (τ7 1 (x3 + 2).toNat), vI (τ7 1 (x3 + 3).toNat)]) (st := [vI r8]) (pc' := 383) dL_law_380 rfl gX11_letter wm_1671 rfl rfl (by decide) kd_140 wm_1672 wm_1673 rfl (Nat.le_of_ble_eq_true rfl) (M0.mono h (fun v τ15 h => ?_))
  obtain ⟨r16, rfl, h⟩ := h
  show VL E qL_law 383 [some (vR 1), some (vR 2), some (vR 140), some (vI x3)] [vI r16, vI r8] τ15 Q
  obtain ⟨he, h⟩ := h
  subst he
  refine l_icmp_same (tgt := 1417) dL_law_383 (by decide) ?_
  exact l_less (ls' := [some (vR 1), some (vR 2), some (vR 140), some (vI x3)]) ⟨rfl, ⟨rfl, ⟨rfl, ⟨rfl, trivial⟩⟩⟩⟩ h
set_option maxRecDepth 20000 in
theorem bL_law_388 {E : mm_Env} {τ : mm_Mem} {Q : mm_Q0} (hL : E.2.2.2.2 ≤ 2147483647) {x3 : Int} (h : 0 ≤ (x3 + 1) ∧ (x3 + 1) < (E.2.2.2.2 : Int) ∧ 0 ≤ (x3 + 2) ∧ (x3 + 2) < (E.2.2.2.2 : Int) ∧ M0 E 100 qX10_door [vR 2, vI (τ 1 (x3 + 1).toNat), vI (τ 1 (x3 + 2).toNat)] τ (fun v τ5 => ∃ r6 : Int, v = some (vI r6) ∧ 0 ≤ (x3 + 1) ∧ (x3 + 1) < (E.2.2.2.2 : Int) ∧ 0 ≤ (x3 + 2) ∧ (x3 + 2) < (E.2.2.2.2 : Int) ∧ M0 E 100 qX11_door_ [vR 140, vI (τ5 1 (x3 + 1).toNat), vI (τ5 1 (x3 + 2).toNat)] τ5 (fun v τ11 => ∃ r12 : Int, v = some (vI r12) ∧ r6 = r12 ∧ VL E qL_law 1417 [some (vR 1), some (vR 2), some (vR 140), some (vI x3)] [] τ11 Q))) : VL E qL_law 388 [some (vR 1), some (vR 2), some (vR 140), some (vI x3)] [] τ Q := by
  refine l_aload_n (i := 1) (pc' := 389) dL_law_388 rfl rfl rfl ?_
  refine l_aload_n (i := 0) (pc' := 390) dL_law_389 rfl rfl rfl ?_
  refine l_iload_n (i := 3) (pc' := 391) dL_law_390 rfl rfl rfl ?_
  refine l_iconst (pc' := 392) dL_law_391 rfl ?_
  refine l_iadd (pc' := 393) dL_law_392 rfl ?_
  obtain ⟨c1, c2, h⟩ := h
  refine l_sld (pc' := 394) dL_law_393 rfl c1 c2 hL ?_
  refine l_aload_n (i := 0) (pc' := 395) dL_law_394 rfl rfl rfl ?_
  refine l_iload_n (i := 3) (pc' := 396) dL_law_395 rfl rfl rfl ?_
  refine l_iconst (pc' := 397) dL_law_396 rfl ?_
  refine l_iadd (pc' := 398) dL_law_397 rfl ?_
  obtain ⟨c3, c4, h⟩ := h
  refine l_sld (pc' := 399) dL_law_398 rfl c3 c4 hL ?_
  refine l_invV (q' := qX10_door) (As := [vI (τ 1 (x3 + 1).toNat), vI (τ 1 (x3 + 2).toNat)]) (st := []) (pc' := 402) dL_law_399 rfl gX10_door wm_845 rfl rfl (by decide) kd_2 wm_846 wm_847 rfl (Nat.le_of_ble_eq_true rfl) (M0.mono h (fun v τ5 h => ?_))
  obtain ⟨r6, rfl, h⟩ := h
  show VL E qL_law 402 [some (vR 1), some (vR 2), some (vR 140), some (vI x3)] [vI r6] τ5 Q
  refine l_aload_n (i := 2) (pc' := 403) dL_law_402 rfl rfl rfl ?_
  refine l_aload_n (i := 0) (pc' := 404) dL_law_403 rfl rfl rfl ?_
  refine l_iload_n (i := 3) (pc' := 405) dL_law_404 rfl rfl rfl ?_
  refine l_iconst (pc' := 406) dL_law_405 rfl ?_
  refine l_iadd (pc' := 407) dL_law_406 rfl ?_
  obtain ⟨c7, c8, h⟩ := h
  refine l_sld (pc' := 408) dL_law_407 rfl c7 c8 hL ?_
  refine l_aload_n (i := 0) (pc' := 409) dL_law_408 rfl rfl rfl ?_
  refine l_iload_n (i := 3) (pc' := 410) dL_law_409 rfl rfl rfl ?_
  refine l_iconst (pc' := 411) dL_law_410 rfl ?_
  refine l_iadd (pc' := 412) dL_law_411 rfl ?_
  obtain ⟨c9, c10, h⟩ := h
  refine l_sld (pc' := 413) dL_law_412 rfl c9 c10 hL ?_
  refine l_invV (q' := qX11_door_) (As := [vI (τ5 1 (x3 + 1).toNat), vI (τ5 1 (x3 + 2).toNat)]) (st := [vI r6]) (pc' := 416) dL_law_413 rfl gX11_door_ wm_1680 rfl rfl (by decide) kd_140 wm_1681 wm_1682 rfl (Nat.le_of_ble_eq_true rfl) (M0.mono h (fun v τ11 h => ?_))
  obtain ⟨r12, rfl, h⟩ := h
  show VL E qL_law 416 [some (vR 1), some (vR 2), some (vR 140), some (vI x3)] [vI r12, vI r6] τ11 Q
  obtain ⟨he, h⟩ := h
  subst he
  refine l_icmp_same (tgt := 1417) dL_law_416 (by decide) ?_
  exact l_less (ls' := [some (vR 1), some (vR 2), some (vR 140), some (vI x3)]) ⟨rfl, ⟨rfl, ⟨rfl, ⟨rfl, trivial⟩⟩⟩⟩ h
set_option maxRecDepth 20000 in
theorem bL_law_421 {E : mm_Env} {τ : mm_Mem} {Q : mm_Q0} (hL : E.2.2.2.2 ≤ 2147483647) {x3 : Int} (h : 0 ≤ (x3 + 1) ∧ (x3 + 1) < (E.2.2.2.2 : Int) ∧ 0 ≤ (x3 + 2) ∧ (x3 + 2) < (E.2.2.2.2 : Int) ∧ M0 E 100 qX10_person [vR 2, vI (τ 1 (x3 + 1).toNat), vI (τ 1 (x3 + 2).toNat)] τ (fun v τ5 => ∃ r6 : Int, v = some (vI r6) ∧ 0 ≤ (x3 + 1) ∧ (x3 + 1) < (E.2.2.2.2 : Int) ∧ 0 ≤ (x3 + 2) ∧ (x3 + 2) < (E.2.2.2.2 : Int) ∧ M0 E 100 qX11_person_ [vR 140, vI (τ5 1 (x3 + 1).toNat), vI (τ5 1 (x3 + 2).toNat)] τ5 (fun v τ11 => ∃ r12 : Int, v = some (vI r12) ∧ r6 = r12 ∧ VL E qL_law 1417 [some (vR 1), some (vR 2), some (vR 140), some (vI x3)] [] τ11 Q))) : VL E qL_law 421 [some (vR 1), some (vR 2), some (vR 140), some (vI x3)] [] τ Q := by
  refine l_aload_n (i := 1) (pc' := 422) dL_law_421 rfl rfl rfl ?_
  refine l_aload_n (i := 0) (pc' := 423) dL_law_422 rfl rfl rfl ?_
  refine l_iload_n (i := 3) (pc' := 424) dL_law_423 rfl rfl rfl ?_
  refine l_iconst (pc' := 425) dL_law_424 rfl ?_
  refine l_iadd (pc' := 426) dL_law_425 rfl ?_
  obtain ⟨c1, c2, h⟩ := h
  refine l_sld (pc' := 427) dL_law_426 rfl c1 c2 hL ?_
  refine l_aload_n (i := 0) (pc' := 428) dL_law_427 rfl rfl rfl ?_
  refine l_iload_n (i := 3) (pc' := 429) dL_law_428 rfl rfl rfl ?_
  refine l_iconst (pc' := 430) dL_law_429 rfl ?_
  refine l_iadd (pc' := 431) dL_law_430 rfl ?_
  obtain ⟨c3, c4, h⟩ := h
  refine l_sld (pc' := 432) dL_law_431 rfl c3 c4 hL ?_
  refine l_invV (q' := qX10_person) (As := [vI (τ 1 (x3 + 1).toNat), vI (τ 1 (x3 + 2).toNat)]) (st := []) (pc' := 435) dL_law_432 rfl gX10_person wm_849 rfl rfl (by decide) kd_2 wm_850 wm_851 rfl (Nat.le_of_ble_eq_true rfl) (M0.mono h (fun v τ5 h => ?_))
  obtain ⟨r6, rfl, h⟩ := h
  show VL E qL_law 435 [some (vR 1), some (vR 2), some (vR 140), some (vI x3)] [vI r6] τ5 Q
  refine l_aload_n (i := 2) (pc' := 436) dL_law_435 rfl rfl rfl ?_
  refine l_aload_n (i := 0) (pc' := 437) dL_law_436 rfl rfl rfl ?_
  refine l_iload_n (i := 3) (pc' := 438) dL_law_437 rfl rfl rfl ?_
  refine l_iconst (pc' := 439) dL_law_438 rfl ?_
  refine l_iadd (pc' := 440) dL_law_439 rfl ?_
  obtain ⟨c7, c8, h⟩ := h
  refine l_sld (pc' := 441) dL_law_440 rfl c7 c8 hL ?_
  refine l_aload_n (i := 0) (pc' := 442) dL_law_441 rfl rfl rfl ?_
  refine l_iload_n (i := 3) (pc' := 443) dL_law_442 rfl rfl rfl ?_
  refine l_iconst (pc' := 444) dL_law_443 rfl ?_
  refine l_iadd (pc' := 445) dL_law_444 rfl ?_
  obtain ⟨c9, c10, h⟩ := h
  refine l_sld (pc' := 446) dL_law_445 rfl c9 c10 hL ?_
  refine l_invV (q' := qX11_person_) (As := [vI (τ5 1 (x3 + 1).toNat), vI (τ5 1 (x3 + 2).toNat)]) (st := [vI r6]) (pc' := 449) dL_law_446 rfl gX11_person_ wm_1700 rfl rfl (by decide) kd_140 wm_1701 wm_1702 rfl (Nat.le_of_ble_eq_true rfl) (M0.mono h (fun v τ11 h => ?_))
  obtain ⟨r12, rfl, h⟩ := h
  show VL E qL_law 449 [some (vR 1), some (vR 2), some (vR 140), some (vI x3)] [vI r12, vI r6] τ11 Q
  obtain ⟨he, h⟩ := h
  subst he
  refine l_icmp_same (tgt := 1417) dL_law_449 (by decide) ?_
  exact l_less (ls' := [some (vR 1), some (vR 2), some (vR 140), some (vI x3)]) ⟨rfl, ⟨rfl, ⟨rfl, ⟨rfl, trivial⟩⟩⟩⟩ h
set_option maxRecDepth 20000 in
theorem bL_law_454 {E : mm_Env} {τ : mm_Mem} {Q : mm_Q0} (hL : E.2.2.2.2 ≤ 2147483647) {x3 : Int} (h : 0 ≤ (x3 + 1) ∧ (x3 + 1) < (E.2.2.2.2 : Int) ∧ 0 ≤ (x3 + 2) ∧ (x3 + 2) < (E.2.2.2.2 : Int) ∧ 0 ≤ (x3 + 3) ∧ (x3 + 3) < (E.2.2.2.2 : Int) ∧ M0 E 100 qX10_note [vR 2, vI (τ 1 (x3 + 1).toNat), vI (τ 1 (x3 + 2).toNat), vI (τ 1 (x3 + 3).toNat)] τ (fun v τ7 => ∃ r8 : Int, v = some (vI r8) ∧ 0 ≤ (x3 + 1) ∧ (x3 + 1) < (E.2.2.2.2 : Int) ∧ 0 ≤ (x3 + 2) ∧ (x3 + 2) < (E.2.2.2.2 : Int) ∧ 0 ≤ (x3 + 3) ∧ (x3 + 3) < (E.2.2.2.2 : Int) ∧ M0 E 100 qX11_note [vR 140, vI (τ7 1 (x3 + 1).toNat), vI (τ7 1 (x3 + 2).toNat), vI (τ7 1 (x3 + 3).toNat)] τ7 (fun v τ15 => ∃ r16 : Int, v = some (vI r16) ∧ r8 = r16 ∧ VL E qL_law 1417 [some (vR 1), some (vR 2), some (vR 140), some (vI x3)] [] τ15 Q))) : VL E qL_law 454 [some (vR 1), some (vR 2), some (vR 140), some (vI x3)] [] τ Q := by
  refine l_aload_n (i := 1) (pc' := 455) dL_law_454 rfl rfl rfl ?_
  refine l_aload_n (i := 0) (pc' := 456) dL_law_455 rfl rfl rfl ?_
  refine l_iload_n (i := 3) (pc' := 457) dL_law_456 rfl rfl rfl ?_
  refine l_iconst (pc' := 458) dL_law_457 rfl ?_
  refine l_iadd (pc' := 459) dL_law_458 rfl ?_
  obtain ⟨c1, c2, h⟩ := h
  refine l_sld (pc' := 460) dL_law_459 rfl c1 c2 hL ?_
  refine l_aload_n (i := 0) (pc' := 461) dL_law_460 rfl rfl rfl ?_
  refine l_iload_n (i := 3) (pc' := 462) dL_law_461 rfl rfl rfl ?_
  refine l_iconst (pc' := 463) dL_law_462 rfl ?_
  refine l_iadd (pc' := 464) dL_law_463 rfl ?_
  obtain ⟨c3, c4, h⟩ := h
  refine l_sld (pc' := 465) dL_law_464 rfl c3 c4 hL ?_
  refine l_aload_n (i := 0) (pc' := 466) dL_law_465 rfl rfl rfl ?_
  refine l_iload_n (i := 3) (pc' := 467) dL_law_466 rfl rfl rfl ?_
  refine l_iconst (pc' := 468) dL_law_467 rfl ?_
  refine l_iadd (pc' := 469) dL_law_468 rfl ?_
  obtain ⟨c5, c6, h⟩ := h
  refine l_sld (pc' := 470) dL_law_469 rfl c5 c6 hL ?_
  refine l_invV (q' := qX10_note) (As := [vI (τ 1 (x3 + 1).toNat), vI (τ 1 (x3 + 2).toNat), vI (τ 1 (x3 + 3).toNat)]) (st := []) (pc' := 473) dL_law_470 rfl gX10_note wm_853 rfl rfl (by decide) kd_2 wm_854 wm_855 rfl (Nat.le_of_ble_eq_true rfl) (M0.mono h (fun v τ7 h => ?_))
  obtain ⟨r8, rfl, h⟩ := h
  show VL E qL_law 473 [some (vR 1), some (vR 2), some (vR 140), some (vI x3)] [vI r8] τ7 Q
  refine l_aload_n (i := 2) (pc' := 474) dL_law_473 rfl rfl rfl ?_
  refine l_aload_n (i := 0) (pc' := 475) dL_law_474 rfl rfl rfl ?_
  refine l_iload_n (i := 3) (pc' := 476) dL_law_475 rfl rfl rfl ?_
  refine l_iconst (pc' := 477) dL_law_476 rfl ?_
  refine l_iadd (pc' := 478) dL_law_477 rfl ?_
  obtain ⟨c9, c10, h⟩ := h
  refine l_sld (pc' := 479) dL_law_478 rfl c9 c10 hL ?_
  refine l_aload_n (i := 0) (pc' := 480) dL_law_479 rfl rfl rfl ?_
  refine l_iload_n (i := 3) (pc' := 481) dL_law_480 rfl rfl rfl ?_
  refine l_iconst (pc' := 482) dL_law_481 rfl ?_
  refine l_iadd (pc' := 483) dL_law_482 rfl ?_
  obtain ⟨c11, c12, h⟩ := h
  refine l_sld (pc' := 484) dL_law_483 rfl c11 c12 hL ?_
  refine l_aload_n (i := 0) (pc' := 485) dL_law_484 rfl rfl rfl ?_
  refine l_iload_n (i := 3) (pc' := 486) dL_law_485 rfl rfl rfl ?_
  refine l_iconst (pc' := 487) dL_law_486 rfl ?_
  refine l_iadd (pc' := 488) dL_law_487 rfl ?_
  obtain ⟨c13, c14, h⟩ := h
  refine l_sld (pc' := 489) dL_law_488 rfl c13 c14 hL ?_
  refine l_invV (q' := qX11_note) (As := [vI (τ7 1 (x3 + 1).toNat), vI (τ7 1 (x3 + 2).toNat), vI (τ7 1 (x3 + 3).toNat)]) (st := [vI r8]) (pc' := 492) dL_law_489 rfl gX11_note wm_1708 rfl rfl (by decide) kd_140 wm_1709 wm_1710 rfl (Nat.le_of_ble_eq_true rfl) (M0.mono h (fun v τ15 h => ?_))
  obtain ⟨r16, rfl, h⟩ := h
  show VL E qL_law 492 [some (vR 1), some (vR 2), some (vR 140), some (vI x3)] [vI r16, vI r8] τ15 Q
  obtain ⟨he, h⟩ := h
  subst he
  refine l_icmp_same (tgt := 1417) dL_law_492 (by decide) ?_
  exact l_less (ls' := [some (vR 1), some (vR 2), some (vR 140), some (vI x3)]) ⟨rfl, ⟨rfl, ⟨rfl, ⟨rfl, trivial⟩⟩⟩⟩ h
set_option maxRecDepth 20000 in
theorem bL_law_497 {E : mm_Env} {τ : mm_Mem} {Q : mm_Q0} (hL : E.2.2.2.2 ≤ 2147483647) {x3 : Int} (h : 0 ≤ (x3 + 1) ∧ (x3 + 1) < (E.2.2.2.2 : Int) ∧ 0 ≤ (x3 + 2) ∧ (x3 + 2) < (E.2.2.2.2 : Int) ∧ M0 E 100 qX10_round [vR 2, vI (τ 1 (x3 + 1).toNat), vI (τ 1 (x3 + 2).toNat)] τ (fun v τ5 => ∃ r6 : Int, v = some (vI r6) ∧ 0 ≤ (x3 + 1) ∧ (x3 + 1) < (E.2.2.2.2 : Int) ∧ 0 ≤ (x3 + 2) ∧ (x3 + 2) < (E.2.2.2.2 : Int) ∧ M0 E 100 qX11_round [vR 140, vI (τ5 1 (x3 + 1).toNat), vI (τ5 1 (x3 + 2).toNat)] τ5 (fun v τ11 => ∃ r12 : Int, v = some (vI r12) ∧ r6 = r12 ∧ VL E qL_law 1417 [some (vR 1), some (vR 2), some (vR 140), some (vI x3)] [] τ11 Q))) : VL E qL_law 497 [some (vR 1), some (vR 2), some (vR 140), some (vI x3)] [] τ Q := by
  refine l_aload_n (i := 1) (pc' := 498) dL_law_497 rfl rfl rfl ?_
  refine l_aload_n (i := 0) (pc' := 499) dL_law_498 rfl rfl rfl ?_
  refine l_iload_n (i := 3) (pc' := 500) dL_law_499 rfl rfl rfl ?_
  refine l_iconst (pc' := 501) dL_law_500 rfl ?_
  refine l_iadd (pc' := 502) dL_law_501 rfl ?_
  obtain ⟨c1, c2, h⟩ := h
  refine l_sld (pc' := 503) dL_law_502 rfl c1 c2 hL ?_
  refine l_aload_n (i := 0) (pc' := 504) dL_law_503 rfl rfl rfl ?_
  refine l_iload_n (i := 3) (pc' := 505) dL_law_504 rfl rfl rfl ?_
  refine l_iconst (pc' := 506) dL_law_505 rfl ?_
  refine l_iadd (pc' := 507) dL_law_506 rfl ?_
  obtain ⟨c3, c4, h⟩ := h
  refine l_sld (pc' := 508) dL_law_507 rfl c3 c4 hL ?_
  refine l_invV (q' := qX10_round) (As := [vI (τ 1 (x3 + 1).toNat), vI (τ 1 (x3 + 2).toNat)]) (st := []) (pc' := 511) dL_law_508 rfl gX10_round wm_876 rfl rfl (by decide) kd_2 wm_877 wm_878 rfl (Nat.le_of_ble_eq_true rfl) (M0.mono h (fun v τ5 h => ?_))
  obtain ⟨r6, rfl, h⟩ := h
  show VL E qL_law 511 [some (vR 1), some (vR 2), some (vR 140), some (vI x3)] [vI r6] τ5 Q
  refine l_aload_n (i := 2) (pc' := 512) dL_law_511 rfl rfl rfl ?_
  refine l_aload_n (i := 0) (pc' := 513) dL_law_512 rfl rfl rfl ?_
  refine l_iload_n (i := 3) (pc' := 514) dL_law_513 rfl rfl rfl ?_
  refine l_iconst (pc' := 515) dL_law_514 rfl ?_
  refine l_iadd (pc' := 516) dL_law_515 rfl ?_
  obtain ⟨c7, c8, h⟩ := h
  refine l_sld (pc' := 517) dL_law_516 rfl c7 c8 hL ?_
  refine l_aload_n (i := 0) (pc' := 518) dL_law_517 rfl rfl rfl ?_
  refine l_iload_n (i := 3) (pc' := 519) dL_law_518 rfl rfl rfl ?_
  refine l_iconst (pc' := 520) dL_law_519 rfl ?_
  refine l_iadd (pc' := 521) dL_law_520 rfl ?_
  obtain ⟨c9, c10, h⟩ := h
  refine l_sld (pc' := 522) dL_law_521 rfl c9 c10 hL ?_
  refine l_invV (q' := qX11_round) (As := [vI (τ5 1 (x3 + 1).toNat), vI (τ5 1 (x3 + 2).toNat)]) (st := [vI r6]) (pc' := 525) dL_law_522 rfl gX11_round wm_1719 rfl rfl (by decide) kd_140 wm_1720 wm_1721 rfl (Nat.le_of_ble_eq_true rfl) (M0.mono h (fun v τ11 h => ?_))
  obtain ⟨r12, rfl, h⟩ := h
  show VL E qL_law 525 [some (vR 1), some (vR 2), some (vR 140), some (vI x3)] [vI r12, vI r6] τ11 Q
  obtain ⟨he, h⟩ := h
  subst he
  refine l_icmp_same (tgt := 1417) dL_law_525 (by decide) ?_
  exact l_less (ls' := [some (vR 1), some (vR 2), some (vR 140), some (vI x3)]) ⟨rfl, ⟨rfl, ⟨rfl, ⟨rfl, trivial⟩⟩⟩⟩ h
set_option maxRecDepth 20000 in
theorem bL_law_530 {E : mm_Env} {τ : mm_Mem} {Q : mm_Q0} (hL : E.2.2.2.2 ≤ 2147483647) {x3 : Int} (h : 0 ≤ (x3 + 1) ∧ (x3 + 1) < (E.2.2.2.2 : Int) ∧ 0 ≤ (x3 + 2) ∧ (x3 + 2) < (E.2.2.2.2 : Int) ∧ 0 ≤ (x3 + 3) ∧ (x3 + 3) < (E.2.2.2.2 : Int) ∧ M0 E 100 qX10_find [vR 2, vI (τ 1 (x3 + 1).toNat), vI (τ 1 (x3 + 2).toNat), vI (τ 1 (x3 + 3).toNat)] τ (fun v τ7 => ∃ r8 : Int, v = some (vI r8) ∧ 0 ≤ (x3 + 1) ∧ (x3 + 1) < (E.2.2.2.2 : Int) ∧ 0 ≤ (x3 + 2) ∧ (x3 + 2) < (E.2.2.2.2 : Int) ∧ 0 ≤ (x3 + 3) ∧ (x3 + 3) < (E.2.2.2.2 : Int) ∧ M0 E 100 qX11_find [vR 140, vI (τ7 1 (x3 + 1).toNat), vI (τ7 1 (x3 + 2).toNat), vI (τ7 1 (x3 + 3).toNat)] τ7 (fun v τ15 => ∃ r16 : Int, v = some (vI r16) ∧ r8 = r16 ∧ VL E qL_law 1417 [some (vR 1), some (vR 2), some (vR 140), some (vI x3)] [] τ15 Q))) : VL E qL_law 530 [some (vR 1), some (vR 2), some (vR 140), some (vI x3)] [] τ Q := by
  refine l_aload_n (i := 1) (pc' := 531) dL_law_530 rfl rfl rfl ?_
  refine l_aload_n (i := 0) (pc' := 532) dL_law_531 rfl rfl rfl ?_
  refine l_iload_n (i := 3) (pc' := 533) dL_law_532 rfl rfl rfl ?_
  refine l_iconst (pc' := 534) dL_law_533 rfl ?_
  refine l_iadd (pc' := 535) dL_law_534 rfl ?_
  obtain ⟨c1, c2, h⟩ := h
  refine l_sld (pc' := 536) dL_law_535 rfl c1 c2 hL ?_
  refine l_aload_n (i := 0) (pc' := 537) dL_law_536 rfl rfl rfl ?_
  refine l_iload_n (i := 3) (pc' := 538) dL_law_537 rfl rfl rfl ?_
  refine l_iconst (pc' := 539) dL_law_538 rfl ?_
  refine l_iadd (pc' := 540) dL_law_539 rfl ?_
  obtain ⟨c3, c4, h⟩ := h
  refine l_sld (pc' := 541) dL_law_540 rfl c3 c4 hL ?_
  refine l_aload_n (i := 0) (pc' := 542) dL_law_541 rfl rfl rfl ?_
  refine l_iload_n (i := 3) (pc' := 543) dL_law_542 rfl rfl rfl ?_
  refine l_iconst (pc' := 544) dL_law_543 rfl ?_
  refine l_iadd (pc' := 545) dL_law_544 rfl ?_
  obtain ⟨c5, c6, h⟩ := h
  refine l_sld (pc' := 546) dL_law_545 rfl c5 c6 hL ?_
  refine l_invV (q' := qX10_find) (As := [vI (τ 1 (x3 + 1).toNat), vI (τ 1 (x3 + 2).toNat), vI (τ 1 (x3 + 3).toNat)]) (st := []) (pc' := 549) dL_law_546 rfl gX10_find wm_888 rfl rfl (by decide) kd_2 wm_889 wm_890 rfl (Nat.le_of_ble_eq_true rfl) (M0.mono h (fun v τ7 h => ?_))
  obtain ⟨r8, rfl, h⟩ := h
  show VL E qL_law 549 [some (vR 1), some (vR 2), some (vR 140), some (vI x3)] [vI r8] τ7 Q
  refine l_aload_n (i := 2) (pc' := 550) dL_law_549 rfl rfl rfl ?_
  refine l_aload_n (i := 0) (pc' := 551) dL_law_550 rfl rfl rfl ?_
  refine l_iload_n (i := 3) (pc' := 552) dL_law_551 rfl rfl rfl ?_
  refine l_iconst (pc' := 553) dL_law_552 rfl ?_
  refine l_iadd (pc' := 554) dL_law_553 rfl ?_
  obtain ⟨c9, c10, h⟩ := h
  refine l_sld (pc' := 555) dL_law_554 rfl c9 c10 hL ?_
  refine l_aload_n (i := 0) (pc' := 556) dL_law_555 rfl rfl rfl ?_
  refine l_iload_n (i := 3) (pc' := 557) dL_law_556 rfl rfl rfl ?_
  refine l_iconst (pc' := 558) dL_law_557 rfl ?_
  refine l_iadd (pc' := 559) dL_law_558 rfl ?_
  obtain ⟨c11, c12, h⟩ := h
  refine l_sld (pc' := 560) dL_law_559 rfl c11 c12 hL ?_
  refine l_aload_n (i := 0) (pc' := 561) dL_law_560 rfl rfl rfl ?_
  refine l_iload_n (i := 3) (pc' := 562) dL_law_561 rfl rfl rfl ?_
  refine l_iconst (pc' := 563) dL_law_562 rfl ?_
  refine l_iadd (pc' := 564) dL_law_563 rfl ?_
  obtain ⟨c13, c14, h⟩ := h
  refine l_sld (pc' := 565) dL_law_564 rfl c13 c14 hL ?_
  refine l_invV (q' := qX11_find) (As := [vI (τ7 1 (x3 + 1).toNat), vI (τ7 1 (x3 + 2).toNat), vI (τ7 1 (x3 + 3).toNat)]) (st := [vI r8]) (pc' := 568) dL_law_565 rfl gX11_find wm_1723 rfl rfl (by decide) kd_140 wm_1724 wm_1725 rfl (Nat.le_of_ble_eq_true rfl) (M0.mono h (fun v τ15 h => ?_))
  obtain ⟨r16, rfl, h⟩ := h
  show VL E qL_law 568 [some (vR 1), some (vR 2), some (vR 140), some (vI x3)] [vI r16, vI r8] τ15 Q
  obtain ⟨he, h⟩ := h
  subst he
  refine l_icmp_same (tgt := 1417) dL_law_568 (by decide) ?_
  exact l_less (ls' := [some (vR 1), some (vR 2), some (vR 140), some (vI x3)]) ⟨rfl, ⟨rfl, ⟨rfl, ⟨rfl, trivial⟩⟩⟩⟩ h
set_option maxRecDepth 20000 in
theorem bL_law_573 {E : mm_Env} {τ : mm_Mem} {Q : mm_Q0} (hL : E.2.2.2.2 ≤ 2147483647) {x3 : Int} (h : 0 ≤ (x3 + 1) ∧ (x3 + 1) < (E.2.2.2.2 : Int) ∧ 0 ≤ (x3 + 2) ∧ (x3 + 2) < (E.2.2.2.2 : Int) ∧ 0 ≤ (x3 + 3) ∧ (x3 + 3) < (E.2.2.2.2 : Int) ∧ M0 E 100 qX10_ear [vR 2, vI (τ 1 (x3 + 1).toNat), vI (τ 1 (x3 + 2).toNat), vI (τ 1 (x3 + 3).toNat)] τ (fun v τ7 => ∃ r8 : Int, v = some (vI r8) ∧ 0 ≤ (x3 + 1) ∧ (x3 + 1) < (E.2.2.2.2 : Int) ∧ 0 ≤ (x3 + 2) ∧ (x3 + 2) < (E.2.2.2.2 : Int) ∧ 0 ≤ (x3 + 3) ∧ (x3 + 3) < (E.2.2.2.2 : Int) ∧ M0 E 100 qX11_ear [vR 140, vI (τ7 1 (x3 + 1).toNat), vI (τ7 1 (x3 + 2).toNat), vI (τ7 1 (x3 + 3).toNat)] τ7 (fun v τ15 => ∃ r16 : Int, v = some (vI r16) ∧ r8 = r16 ∧ VL E qL_law 1417 [some (vR 1), some (vR 2), some (vR 140), some (vI x3)] [] τ15 Q))) : VL E qL_law 573 [some (vR 1), some (vR 2), some (vR 140), some (vI x3)] [] τ Q := by
  refine l_aload_n (i := 1) (pc' := 574) dL_law_573 rfl rfl rfl ?_
  refine l_aload_n (i := 0) (pc' := 575) dL_law_574 rfl rfl rfl ?_
  refine l_iload_n (i := 3) (pc' := 576) dL_law_575 rfl rfl rfl ?_
  refine l_iconst (pc' := 577) dL_law_576 rfl ?_
  refine l_iadd (pc' := 578) dL_law_577 rfl ?_
  obtain ⟨c1, c2, h⟩ := h
  refine l_sld (pc' := 579) dL_law_578 rfl c1 c2 hL ?_
  refine l_aload_n (i := 0) (pc' := 580) dL_law_579 rfl rfl rfl ?_
  refine l_iload_n (i := 3) (pc' := 581) dL_law_580 rfl rfl rfl ?_
  refine l_iconst (pc' := 582) dL_law_581 rfl ?_
  refine l_iadd (pc' := 583) dL_law_582 rfl ?_
  obtain ⟨c3, c4, h⟩ := h
  refine l_sld (pc' := 584) dL_law_583 rfl c3 c4 hL ?_
  refine l_aload_n (i := 0) (pc' := 585) dL_law_584 rfl rfl rfl ?_
  refine l_iload_n (i := 3) (pc' := 586) dL_law_585 rfl rfl rfl ?_
  refine l_iconst (pc' := 587) dL_law_586 rfl ?_
  refine l_iadd (pc' := 588) dL_law_587 rfl ?_
  obtain ⟨c5, c6, h⟩ := h
  refine l_sld (pc' := 589) dL_law_588 rfl c5 c6 hL ?_
  refine l_invV (q' := qX10_ear) (As := [vI (τ 1 (x3 + 1).toNat), vI (τ 1 (x3 + 2).toNat), vI (τ 1 (x3 + 3).toNat)]) (st := []) (pc' := 592) dL_law_589 rfl gX10_ear wm_892 rfl rfl (by decide) kd_2 wm_893 wm_894 rfl (Nat.le_of_ble_eq_true rfl) (M0.mono h (fun v τ7 h => ?_))
  obtain ⟨r8, rfl, h⟩ := h
  show VL E qL_law 592 [some (vR 1), some (vR 2), some (vR 140), some (vI x3)] [vI r8] τ7 Q
  refine l_aload_n (i := 2) (pc' := 593) dL_law_592 rfl rfl rfl ?_
  refine l_aload_n (i := 0) (pc' := 594) dL_law_593 rfl rfl rfl ?_
  refine l_iload_n (i := 3) (pc' := 595) dL_law_594 rfl rfl rfl ?_
  refine l_iconst (pc' := 596) dL_law_595 rfl ?_
  refine l_iadd (pc' := 597) dL_law_596 rfl ?_
  obtain ⟨c9, c10, h⟩ := h
  refine l_sld (pc' := 598) dL_law_597 rfl c9 c10 hL ?_
  refine l_aload_n (i := 0) (pc' := 599) dL_law_598 rfl rfl rfl ?_
  refine l_iload_n (i := 3) (pc' := 600) dL_law_599 rfl rfl rfl ?_
  refine l_iconst (pc' := 601) dL_law_600 rfl ?_
  refine l_iadd (pc' := 602) dL_law_601 rfl ?_
  obtain ⟨c11, c12, h⟩ := h
  refine l_sld (pc' := 603) dL_law_602 rfl c11 c12 hL ?_
  refine l_aload_n (i := 0) (pc' := 604) dL_law_603 rfl rfl rfl ?_
  refine l_iload_n (i := 3) (pc' := 605) dL_law_604 rfl rfl rfl ?_
  refine l_iconst (pc' := 606) dL_law_605 rfl ?_
  refine l_iadd (pc' := 607) dL_law_606 rfl ?_
  obtain ⟨c13, c14, h⟩ := h
  refine l_sld (pc' := 608) dL_law_607 rfl c13 c14 hL ?_
  refine l_invV (q' := qX11_ear) (As := [vI (τ7 1 (x3 + 1).toNat), vI (τ7 1 (x3 + 2).toNat), vI (τ7 1 (x3 + 3).toNat)]) (st := [vI r8]) (pc' := 611) dL_law_608 rfl gX11_ear wm_1731 rfl rfl (by decide) kd_140 wm_1732 wm_1733 rfl (Nat.le_of_ble_eq_true rfl) (M0.mono h (fun v τ15 h => ?_))
  obtain ⟨r16, rfl, h⟩ := h
  show VL E qL_law 611 [some (vR 1), some (vR 2), some (vR 140), some (vI x3)] [vI r16, vI r8] τ15 Q
  obtain ⟨he, h⟩ := h
  subst he
  refine l_icmp_same (tgt := 1417) dL_law_611 (by decide) ?_
  exact l_less (ls' := [some (vR 1), some (vR 2), some (vR 140), some (vI x3)]) ⟨rfl, ⟨rfl, ⟨rfl, ⟨rfl, trivial⟩⟩⟩⟩ h
set_option maxRecDepth 20000 in
theorem bL_law_616 {E : mm_Env} {τ : mm_Mem} {Q : mm_Q0} (hL : E.2.2.2.2 ≤ 2147483647) {x3 : Int} (h : 0 ≤ (x3 + 1) ∧ (x3 + 1) < (E.2.2.2.2 : Int) ∧ M0 E 100 qX10_come [vR 2, vI (τ 1 (x3 + 1).toNat)] τ (fun v τ3 => ∃ r4 : Int, v = some (vI r4) ∧ 0 ≤ (x3 + 1) ∧ (x3 + 1) < (E.2.2.2.2 : Int) ∧ M0 E 100 qX11_come [vR 140, vI (τ3 1 (x3 + 1).toNat)] τ3 (fun v τ7 => ∃ r8 : Int, v = some (vI r8) ∧ r4 = r8 ∧ VL E qL_law 1417 [some (vR 1), some (vR 2), some (vR 140), some (vI x3)] [] τ7 Q))) : VL E qL_law 616 [some (vR 1), some (vR 2), some (vR 140), some (vI x3)] [] τ Q := by
  refine l_aload_n (i := 1) (pc' := 617) dL_law_616 rfl rfl rfl ?_
  refine l_aload_n (i := 0) (pc' := 618) dL_law_617 rfl rfl rfl ?_
  refine l_iload_n (i := 3) (pc' := 619) dL_law_618 rfl rfl rfl ?_
  refine l_iconst (pc' := 620) dL_law_619 rfl ?_
  refine l_iadd (pc' := 621) dL_law_620 rfl ?_
  obtain ⟨c1, c2, h⟩ := h
  refine l_sld (pc' := 622) dL_law_621 rfl c1 c2 hL ?_
  refine l_invV (q' := qX10_come) (As := [vI (τ 1 (x3 + 1).toNat)]) (st := []) (pc' := 625) dL_law_622 rfl gX10_come wm_900 rfl rfl (by decide) kd_2 wm_901 wm_902 rfl (Nat.le_of_ble_eq_true rfl) (M0.mono h (fun v τ3 h => ?_))
  obtain ⟨r4, rfl, h⟩ := h
  show VL E qL_law 625 [some (vR 1), some (vR 2), some (vR 140), some (vI x3)] [vI r4] τ3 Q
  refine l_aload_n (i := 2) (pc' := 626) dL_law_625 rfl rfl rfl ?_
  refine l_aload_n (i := 0) (pc' := 627) dL_law_626 rfl rfl rfl ?_
  refine l_iload_n (i := 3) (pc' := 628) dL_law_627 rfl rfl rfl ?_
  refine l_iconst (pc' := 629) dL_law_628 rfl ?_
  refine l_iadd (pc' := 630) dL_law_629 rfl ?_
  obtain ⟨c5, c6, h⟩ := h
  refine l_sld (pc' := 631) dL_law_630 rfl c5 c6 hL ?_
  refine l_invV (q' := qX11_come) (As := [vI (τ3 1 (x3 + 1).toNat)]) (st := [vI r4]) (pc' := 634) dL_law_631 rfl gX11_come wm_1735 rfl rfl (by decide) kd_140 wm_1736 wm_1737 rfl (Nat.le_of_ble_eq_true rfl) (M0.mono h (fun v τ7 h => ?_))
  obtain ⟨r8, rfl, h⟩ := h
  show VL E qL_law 634 [some (vR 1), some (vR 2), some (vR 140), some (vI x3)] [vI r8, vI r4] τ7 Q
  obtain ⟨he, h⟩ := h
  subst he
  refine l_icmp_same (tgt := 1417) dL_law_634 (by decide) ?_
  exact l_less (ls' := [some (vR 1), some (vR 2), some (vR 140), some (vI x3)]) ⟨rfl, ⟨rfl, ⟨rfl, ⟨rfl, trivial⟩⟩⟩⟩ h
set_option maxRecDepth 20000 in
theorem bL_law_639 {E : mm_Env} {τ : mm_Mem} {Q : mm_Q0} (hL : E.2.2.2.2 ≤ 2147483647) {x3 : Int} (h : 0 ≤ (x3 + 1) ∧ (x3 + 1) < (E.2.2.2.2 : Int) ∧ 0 ≤ (x3 + 2) ∧ (x3 + 2) < (E.2.2.2.2 : Int) ∧ 0 ≤ (x3 + 3) ∧ (x3 + 3) < (E.2.2.2.2 : Int) ∧ M0 E 100 qX10_slip [vR 2, vI (τ 1 (x3 + 1).toNat), vI (τ 1 (x3 + 2).toNat), vI (τ 1 (x3 + 3).toNat)] τ (fun v τ7 => ∃ r8 : Int, v = some (vI r8) ∧ 0 ≤ (x3 + 1) ∧ (x3 + 1) < (E.2.2.2.2 : Int) ∧ 0 ≤ (x3 + 2) ∧ (x3 + 2) < (E.2.2.2.2 : Int) ∧ 0 ≤ (x3 + 3) ∧ (x3 + 3) < (E.2.2.2.2 : Int) ∧ M0 E 100 qX11_slip [vR 140, vI (τ7 1 (x3 + 1).toNat), vI (τ7 1 (x3 + 2).toNat), vI (τ7 1 (x3 + 3).toNat)] τ7 (fun v τ15 => ∃ r16 : Int, v = some (vI r16) ∧ r8 = r16 ∧ VL E qL_law 1417 [some (vR 1), some (vR 2), some (vR 140), some (vI x3)] [] τ15 Q))) : VL E qL_law 639 [some (vR 1), some (vR 2), some (vR 140), some (vI x3)] [] τ Q := by
  refine l_aload_n (i := 1) (pc' := 640) dL_law_639 rfl rfl rfl ?_
  refine l_aload_n (i := 0) (pc' := 641) dL_law_640 rfl rfl rfl ?_
  refine l_iload_n (i := 3) (pc' := 642) dL_law_641 rfl rfl rfl ?_
  refine l_iconst (pc' := 643) dL_law_642 rfl ?_
  refine l_iadd (pc' := 644) dL_law_643 rfl ?_
  obtain ⟨c1, c2, h⟩ := h
  refine l_sld (pc' := 645) dL_law_644 rfl c1 c2 hL ?_
  refine l_aload_n (i := 0) (pc' := 646) dL_law_645 rfl rfl rfl ?_
  refine l_iload_n (i := 3) (pc' := 647) dL_law_646 rfl rfl rfl ?_
  refine l_iconst (pc' := 648) dL_law_647 rfl ?_
  refine l_iadd (pc' := 649) dL_law_648 rfl ?_
  obtain ⟨c3, c4, h⟩ := h
  refine l_sld (pc' := 650) dL_law_649 rfl c3 c4 hL ?_
  refine l_aload_n (i := 0) (pc' := 651) dL_law_650 rfl rfl rfl ?_
  refine l_iload_n (i := 3) (pc' := 652) dL_law_651 rfl rfl rfl ?_
  refine l_iconst (pc' := 653) dL_law_652 rfl ?_
  refine l_iadd (pc' := 654) dL_law_653 rfl ?_
  obtain ⟨c5, c6, h⟩ := h
  refine l_sld (pc' := 655) dL_law_654 rfl c5 c6 hL ?_
  refine l_invV (q' := qX10_slip) (As := [vI (τ 1 (x3 + 1).toNat), vI (τ 1 (x3 + 2).toNat), vI (τ 1 (x3 + 3).toNat)]) (st := []) (pc' := 658) dL_law_655 rfl gX10_slip wm_940 rfl rfl (by decide) kd_2 wm_941 wm_942 rfl (Nat.le_of_ble_eq_true rfl) (M0.mono h (fun v τ7 h => ?_))
  obtain ⟨r8, rfl, h⟩ := h
  show VL E qL_law 658 [some (vR 1), some (vR 2), some (vR 140), some (vI x3)] [vI r8] τ7 Q
  refine l_aload_n (i := 2) (pc' := 659) dL_law_658 rfl rfl rfl ?_
  refine l_aload_n (i := 0) (pc' := 660) dL_law_659 rfl rfl rfl ?_
  refine l_iload_n (i := 3) (pc' := 661) dL_law_660 rfl rfl rfl ?_
  refine l_iconst (pc' := 662) dL_law_661 rfl ?_
  refine l_iadd (pc' := 663) dL_law_662 rfl ?_
  obtain ⟨c9, c10, h⟩ := h
  refine l_sld (pc' := 664) dL_law_663 rfl c9 c10 hL ?_
  refine l_aload_n (i := 0) (pc' := 665) dL_law_664 rfl rfl rfl ?_
  refine l_iload_n (i := 3) (pc' := 666) dL_law_665 rfl rfl rfl ?_
  refine l_iconst (pc' := 667) dL_law_666 rfl ?_
  refine l_iadd (pc' := 668) dL_law_667 rfl ?_
  obtain ⟨c11, c12, h⟩ := h
  refine l_sld (pc' := 669) dL_law_668 rfl c11 c12 hL ?_
  refine l_aload_n (i := 0) (pc' := 670) dL_law_669 rfl rfl rfl ?_
  refine l_iload_n (i := 3) (pc' := 671) dL_law_670 rfl rfl rfl ?_
  refine l_iconst (pc' := 672) dL_law_671 rfl ?_
  refine l_iadd (pc' := 673) dL_law_672 rfl ?_
  obtain ⟨c13, c14, h⟩ := h
  refine l_sld (pc' := 674) dL_law_673 rfl c13 c14 hL ?_
  refine l_invV (q' := qX11_slip) (As := [vI (τ7 1 (x3 + 1).toNat), vI (τ7 1 (x3 + 2).toNat), vI (τ7 1 (x3 + 3).toNat)]) (st := [vI r8]) (pc' := 677) dL_law_674 rfl gX11_slip wm_1779 rfl rfl (by decide) kd_140 wm_1780 wm_1781 rfl (Nat.le_of_ble_eq_true rfl) (M0.mono h (fun v τ15 h => ?_))
  obtain ⟨r16, rfl, h⟩ := h
  show VL E qL_law 677 [some (vR 1), some (vR 2), some (vR 140), some (vI x3)] [vI r16, vI r8] τ15 Q
  obtain ⟨he, h⟩ := h
  subst he
  refine l_icmp_same (tgt := 1417) dL_law_677 (by decide) ?_
  exact l_less (ls' := [some (vR 1), some (vR 2), some (vR 140), some (vI x3)]) ⟨rfl, ⟨rfl, ⟨rfl, ⟨rfl, trivial⟩⟩⟩⟩ h
set_option maxRecDepth 20000 in
theorem bL_law_682 {E : mm_Env} {τ : mm_Mem} {Q : mm_Q0} (hL : E.2.2.2.2 ≤ 2147483647) {x3 : Int} (h : 0 ≤ (x3 + 1) ∧ (x3 + 1) < (E.2.2.2.2 : Int) ∧ 0 ≤ (x3 + 2) ∧ (x3 + 2) < (E.2.2.2.2 : Int) ∧ M0 E 100 qX10_waste [vR 2, vI (τ 1 (x3 + 1).toNat), vI (τ 1 (x3 + 2).toNat)] τ (fun v τ5 => ∃ r6 : Int, v = some (vI r6) ∧ 0 ≤ (x3 + 1) ∧ (x3 + 1) < (E.2.2.2.2 : Int) ∧ 0 ≤ (x3 + 2) ∧ (x3 + 2) < (E.2.2.2.2 : Int) ∧ M0 E 100 qX11_waste [vR 140, vI (τ5 1 (x3 + 1).toNat), vI (τ5 1 (x3 + 2).toNat)] τ5 (fun v τ11 => ∃ r12 : Int, v = some (vI r12) ∧ r6 = r12 ∧ VL E qL_law 1417 [some (vR 1), some (vR 2), some (vR 140), some (vI x3)] [] τ11 Q))) : VL E qL_law 682 [some (vR 1), some (vR 2), some (vR 140), some (vI x3)] [] τ Q := by
  refine l_aload_n (i := 1) (pc' := 683) dL_law_682 rfl rfl rfl ?_
  refine l_aload_n (i := 0) (pc' := 684) dL_law_683 rfl rfl rfl ?_
  refine l_iload_n (i := 3) (pc' := 685) dL_law_684 rfl rfl rfl ?_
  refine l_iconst (pc' := 686) dL_law_685 rfl ?_
  refine l_iadd (pc' := 687) dL_law_686 rfl ?_
  obtain ⟨c1, c2, h⟩ := h
  refine l_sld (pc' := 688) dL_law_687 rfl c1 c2 hL ?_
  refine l_aload_n (i := 0) (pc' := 689) dL_law_688 rfl rfl rfl ?_
  refine l_iload_n (i := 3) (pc' := 690) dL_law_689 rfl rfl rfl ?_
  refine l_iconst (pc' := 691) dL_law_690 rfl ?_
  refine l_iadd (pc' := 692) dL_law_691 rfl ?_
  obtain ⟨c3, c4, h⟩ := h
  refine l_sld (pc' := 693) dL_law_692 rfl c3 c4 hL ?_
  refine l_invV (q' := qX10_waste) (As := [vI (τ 1 (x3 + 1).toNat), vI (τ 1 (x3 + 2).toNat)]) (st := []) (pc' := 696) dL_law_693 rfl gX10_waste wm_945 rfl rfl (by decide) kd_2 wm_946 wm_947 rfl (Nat.le_of_ble_eq_true rfl) (M0.mono h (fun v τ5 h => ?_))
  obtain ⟨r6, rfl, h⟩ := h
  show VL E qL_law 696 [some (vR 1), some (vR 2), some (vR 140), some (vI x3)] [vI r6] τ5 Q
  refine l_aload_n (i := 2) (pc' := 697) dL_law_696 rfl rfl rfl ?_
  refine l_aload_n (i := 0) (pc' := 698) dL_law_697 rfl rfl rfl ?_
  refine l_iload_n (i := 3) (pc' := 699) dL_law_698 rfl rfl rfl ?_
  refine l_iconst (pc' := 700) dL_law_699 rfl ?_
  refine l_iadd (pc' := 701) dL_law_700 rfl ?_
  obtain ⟨c7, c8, h⟩ := h
  refine l_sld (pc' := 702) dL_law_701 rfl c7 c8 hL ?_
  refine l_aload_n (i := 0) (pc' := 703) dL_law_702 rfl rfl rfl ?_
  refine l_iload_n (i := 3) (pc' := 704) dL_law_703 rfl rfl rfl ?_
  refine l_iconst (pc' := 705) dL_law_704 rfl ?_
  refine l_iadd (pc' := 706) dL_law_705 rfl ?_
  obtain ⟨c9, c10, h⟩ := h
  refine l_sld (pc' := 707) dL_law_706 rfl c9 c10 hL ?_
  refine l_invV (q' := qX11_waste) (As := [vI (τ5 1 (x3 + 1).toNat), vI (τ5 1 (x3 + 2).toNat)]) (st := [vI r6]) (pc' := 710) dL_law_707 rfl gX11_waste wm_1787 rfl rfl (by decide) kd_140 wm_1788 wm_1789 rfl (Nat.le_of_ble_eq_true rfl) (M0.mono h (fun v τ11 h => ?_))
  obtain ⟨r12, rfl, h⟩ := h
  show VL E qL_law 710 [some (vR 1), some (vR 2), some (vR 140), some (vI x3)] [vI r12, vI r6] τ11 Q
  obtain ⟨he, h⟩ := h
  subst he
  refine l_icmp_same (tgt := 1417) dL_law_710 (by decide) ?_
  exact l_less (ls' := [some (vR 1), some (vR 2), some (vR 140), some (vI x3)]) ⟨rfl, ⟨rfl, ⟨rfl, ⟨rfl, trivial⟩⟩⟩⟩ h
set_option maxRecDepth 20000 in
theorem bL_law_715 {E : mm_Env} {τ : mm_Mem} {Q : mm_Q0} (hL : E.2.2.2.2 ≤ 2147483647) {x3 : Int} (h : 0 ≤ (x3 + 1) ∧ (x3 + 1) < (E.2.2.2.2 : Int) ∧ M0 E 100 qX10_listen [vR 2, vI (τ 1 (x3 + 1).toNat)] τ (fun v τ3 => ∃ r4 : Int, v = some (vI r4) ∧ 0 ≤ (x3 + 1) ∧ (x3 + 1) < (E.2.2.2.2 : Int) ∧ M0 E 100 qX11_listen [vR 140, vI (τ3 1 (x3 + 1).toNat)] τ3 (fun v τ7 => ∃ r8 : Int, v = some (vI r8) ∧ r4 = r8 ∧ VL E qL_law 1417 [some (vR 1), some (vR 2), some (vR 140), some (vI x3)] [] τ7 Q))) : VL E qL_law 715 [some (vR 1), some (vR 2), some (vR 140), some (vI x3)] [] τ Q := by
  refine l_aload_n (i := 1) (pc' := 716) dL_law_715 rfl rfl rfl ?_
  refine l_aload_n (i := 0) (pc' := 717) dL_law_716 rfl rfl rfl ?_
  refine l_iload_n (i := 3) (pc' := 718) dL_law_717 rfl rfl rfl ?_
  refine l_iconst (pc' := 719) dL_law_718 rfl ?_
  refine l_iadd (pc' := 720) dL_law_719 rfl ?_
  obtain ⟨c1, c2, h⟩ := h
  refine l_sld (pc' := 721) dL_law_720 rfl c1 c2 hL ?_
  refine l_invV (q' := qX10_listen) (As := [vI (τ 1 (x3 + 1).toNat)]) (st := []) (pc' := 724) dL_law_721 rfl gX10_listen wm_949 rfl rfl (by decide) kd_2 wm_950 wm_951 rfl (Nat.le_of_ble_eq_true rfl) (M0.mono h (fun v τ3 h => ?_))
  obtain ⟨r4, rfl, h⟩ := h
  show VL E qL_law 724 [some (vR 1), some (vR 2), some (vR 140), some (vI x3)] [vI r4] τ3 Q
  refine l_aload_n (i := 2) (pc' := 725) dL_law_724 rfl rfl rfl ?_
  refine l_aload_n (i := 0) (pc' := 726) dL_law_725 rfl rfl rfl ?_
  refine l_iload_n (i := 3) (pc' := 727) dL_law_726 rfl rfl rfl ?_
  refine l_iconst (pc' := 728) dL_law_727 rfl ?_
  refine l_iadd (pc' := 729) dL_law_728 rfl ?_
  obtain ⟨c5, c6, h⟩ := h
  refine l_sld (pc' := 730) dL_law_729 rfl c5 c6 hL ?_
  refine l_invV (q' := qX11_listen) (As := [vI (τ3 1 (x3 + 1).toNat)]) (st := [vI r4]) (pc' := 733) dL_law_730 rfl gX11_listen wm_1791 rfl rfl (by decide) kd_140 wm_1792 wm_1793 rfl (Nat.le_of_ble_eq_true rfl) (M0.mono h (fun v τ7 h => ?_))
  obtain ⟨r8, rfl, h⟩ := h
  show VL E qL_law 733 [some (vR 1), some (vR 2), some (vR 140), some (vI x3)] [vI r8, vI r4] τ7 Q
  obtain ⟨he, h⟩ := h
  subst he
  refine l_icmp_same (tgt := 1417) dL_law_733 (by decide) ?_
  exact l_less (ls' := [some (vR 1), some (vR 2), some (vR 140), some (vI x3)]) ⟨rfl, ⟨rfl, ⟨rfl, ⟨rfl, trivial⟩⟩⟩⟩ h
set_option maxRecDepth 20000 in
theorem bL_law_738 {E : mm_Env} {τ : mm_Mem} {Q : mm_Q0} (hL : E.2.2.2.2 ≤ 2147483647) {x3 : Int} (h : 0 ≤ (x3 + 1) ∧ (x3 + 1) < (E.2.2.2.2 : Int) ∧ 0 ≤ (x3 + 2) ∧ (x3 + 2) < (E.2.2.2.2 : Int) ∧ M0 E 100 qX10_opened [vR 2, vI (τ 1 (x3 + 1).toNat), vI (τ 1 (x3 + 2).toNat)] τ (fun v τ5 => ∃ r6 : Int, v = some (vI r6) ∧ 0 ≤ (x3 + 1) ∧ (x3 + 1) < (E.2.2.2.2 : Int) ∧ 0 ≤ (x3 + 2) ∧ (x3 + 2) < (E.2.2.2.2 : Int) ∧ M0 E 100 qX11_opened [vR 140, vI (τ5 1 (x3 + 1).toNat), vI (τ5 1 (x3 + 2).toNat)] τ5 (fun v τ11 => ∃ r12 : Int, v = some (vI r12) ∧ r6 = r12 ∧ VL E qL_law 1417 [some (vR 1), some (vR 2), some (vR 140), some (vI x3)] [] τ11 Q))) : VL E qL_law 738 [some (vR 1), some (vR 2), some (vR 140), some (vI x3)] [] τ Q := by
  refine l_aload_n (i := 1) (pc' := 739) dL_law_738 rfl rfl rfl ?_
  refine l_aload_n (i := 0) (pc' := 740) dL_law_739 rfl rfl rfl ?_
  refine l_iload_n (i := 3) (pc' := 741) dL_law_740 rfl rfl rfl ?_
  refine l_iconst (pc' := 742) dL_law_741 rfl ?_
  refine l_iadd (pc' := 743) dL_law_742 rfl ?_
  obtain ⟨c1, c2, h⟩ := h
  refine l_sld (pc' := 744) dL_law_743 rfl c1 c2 hL ?_
  refine l_aload_n (i := 0) (pc' := 745) dL_law_744 rfl rfl rfl ?_
  refine l_iload_n (i := 3) (pc' := 746) dL_law_745 rfl rfl rfl ?_
  refine l_iconst (pc' := 747) dL_law_746 rfl ?_
  refine l_iadd (pc' := 748) dL_law_747 rfl ?_
  obtain ⟨c3, c4, h⟩ := h
  refine l_sld (pc' := 749) dL_law_748 rfl c3 c4 hL ?_
  refine l_invV (q' := qX10_opened) (As := [vI (τ 1 (x3 + 1).toNat), vI (τ 1 (x3 + 2).toNat)]) (st := []) (pc' := 752) dL_law_749 rfl gX10_opened wm_957 rfl rfl (by decide) kd_2 wm_958 wm_959 rfl (Nat.le_of_ble_eq_true rfl) (M0.mono h (fun v τ5 h => ?_))
  obtain ⟨r6, rfl, h⟩ := h
  show VL E qL_law 752 [some (vR 1), some (vR 2), some (vR 140), some (vI x3)] [vI r6] τ5 Q
  refine l_aload_n (i := 2) (pc' := 753) dL_law_752 rfl rfl rfl ?_
  refine l_aload_n (i := 0) (pc' := 754) dL_law_753 rfl rfl rfl ?_
  refine l_iload_n (i := 3) (pc' := 755) dL_law_754 rfl rfl rfl ?_
  refine l_iconst (pc' := 756) dL_law_755 rfl ?_
  refine l_iadd (pc' := 757) dL_law_756 rfl ?_
  obtain ⟨c7, c8, h⟩ := h
  refine l_sld (pc' := 758) dL_law_757 rfl c7 c8 hL ?_
  refine l_aload_n (i := 0) (pc' := 759) dL_law_758 rfl rfl rfl ?_
  refine l_iload_n (i := 3) (pc' := 760) dL_law_759 rfl rfl rfl ?_
  refine l_iconst (pc' := 761) dL_law_760 rfl ?_
  refine l_iadd (pc' := 762) dL_law_761 rfl ?_
  obtain ⟨c9, c10, h⟩ := h
  refine l_sld (pc' := 763) dL_law_762 rfl c9 c10 hL ?_
  refine l_invV (q' := qX11_opened) (As := [vI (τ5 1 (x3 + 1).toNat), vI (τ5 1 (x3 + 2).toNat)]) (st := [vI r6]) (pc' := 766) dL_law_763 rfl gX11_opened wm_1727 rfl rfl (by decide) kd_140 wm_1728 wm_1729 rfl (Nat.le_of_ble_eq_true rfl) (M0.mono h (fun v τ11 h => ?_))
  obtain ⟨r12, rfl, h⟩ := h
  show VL E qL_law 766 [some (vR 1), some (vR 2), some (vR 140), some (vI x3)] [vI r12, vI r6] τ11 Q
  obtain ⟨he, h⟩ := h
  subst he
  refine l_icmp_same (tgt := 1417) dL_law_766 (by decide) ?_
  exact l_less (ls' := [some (vR 1), some (vR 2), some (vR 140), some (vI x3)]) ⟨rfl, ⟨rfl, ⟨rfl, ⟨rfl, trivial⟩⟩⟩⟩ h
set_option maxRecDepth 20000 in
theorem bL_law_771 {E : mm_Env} {τ : mm_Mem} {Q : mm_Q0} (hL : E.2.2.2.2 ≤ 2147483647) {x3 : Int} (h : 0 ≤ (x3 + 1) ∧ (x3 + 1) < (E.2.2.2.2 : Int) ∧ M0 E 100 qX10_apart [vR 2, vI (τ 1 (x3 + 1).toNat)] τ (fun v τ3 => ∃ r4 : Int, v = some (vI r4) ∧ 0 ≤ (x3 + 1) ∧ (x3 + 1) < (E.2.2.2.2 : Int) ∧ M0 E 100 qX11_apart [vR 140, vI (τ3 1 (x3 + 1).toNat)] τ3 (fun v τ7 => ∃ r8 : Int, v = some (vI r8) ∧ r4 = r8 ∧ VL E qL_law 1417 [some (vR 1), some (vR 2), some (vR 140), some (vI x3)] [] τ7 Q))) : VL E qL_law 771 [some (vR 1), some (vR 2), some (vR 140), some (vI x3)] [] τ Q := by
  refine l_aload_n (i := 1) (pc' := 772) dL_law_771 rfl rfl rfl ?_
  refine l_aload_n (i := 0) (pc' := 773) dL_law_772 rfl rfl rfl ?_
  refine l_iload_n (i := 3) (pc' := 774) dL_law_773 rfl rfl rfl ?_
  refine l_iconst (pc' := 775) dL_law_774 rfl ?_
  refine l_iadd (pc' := 776) dL_law_775 rfl ?_
  obtain ⟨c1, c2, h⟩ := h
  refine l_sld (pc' := 777) dL_law_776 rfl c1 c2 hL ?_
  refine l_invV (q' := qX10_apart) (As := [vI (τ 1 (x3 + 1).toNat)]) (st := []) (pc' := 780) dL_law_777 rfl gX10_apart wm_961 rfl rfl (by decide) kd_2 wm_962 wm_963 rfl (Nat.le_of_ble_eq_true rfl) (M0.mono h (fun v τ3 h => ?_))
  obtain ⟨r4, rfl, h⟩ := h
  show VL E qL_law 780 [some (vR 1), some (vR 2), some (vR 140), some (vI x3)] [vI r4] τ3 Q
  refine l_aload_n (i := 2) (pc' := 781) dL_law_780 rfl rfl rfl ?_
  refine l_aload_n (i := 0) (pc' := 782) dL_law_781 rfl rfl rfl ?_
  refine l_iload_n (i := 3) (pc' := 783) dL_law_782 rfl rfl rfl ?_
  refine l_iconst (pc' := 784) dL_law_783 rfl ?_
  refine l_iadd (pc' := 785) dL_law_784 rfl ?_
  obtain ⟨c5, c6, h⟩ := h
  refine l_sld (pc' := 786) dL_law_785 rfl c5 c6 hL ?_
  refine l_invV (q' := qX11_apart) (As := [vI (τ3 1 (x3 + 1).toNat)]) (st := [vI r4]) (pc' := 789) dL_law_786 rfl gX11_apart wm_1795 rfl rfl (by decide) kd_140 wm_1796 wm_1797 rfl (Nat.le_of_ble_eq_true rfl) (M0.mono h (fun v τ7 h => ?_))
  obtain ⟨r8, rfl, h⟩ := h
  show VL E qL_law 789 [some (vR 1), some (vR 2), some (vR 140), some (vI x3)] [vI r8, vI r4] τ7 Q
  obtain ⟨he, h⟩ := h
  subst he
  refine l_icmp_same (tgt := 1417) dL_law_789 (by decide) ?_
  exact l_less (ls' := [some (vR 1), some (vR 2), some (vR 140), some (vI x3)]) ⟨rfl, ⟨rfl, ⟨rfl, ⟨rfl, trivial⟩⟩⟩⟩ h
set_option maxRecDepth 20000 in
theorem bL_law_794 {E : mm_Env} {τ : mm_Mem} {Q : mm_Q0} (hL : E.2.2.2.2 ≤ 2147483647) {x3 : Int} (h : 0 ≤ (x3 + 1) ∧ (x3 + 1) < (E.2.2.2.2 : Int) ∧ M0 E 100 qX10_mend [vR 2, vI (τ 1 (x3 + 1).toNat)] τ (fun v τ3 => ∃ r4 : Int, v = some (vI r4) ∧ 0 ≤ (x3 + 1) ∧ (x3 + 1) < (E.2.2.2.2 : Int) ∧ M0 E 100 qX11_mend [vR 140, vI (τ3 1 (x3 + 1).toNat)] τ3 (fun v τ7 => ∃ r8 : Int, v = some (vI r8) ∧ r4 = r8 ∧ VL E qL_law 1417 [some (vR 1), some (vR 2), some (vR 140), some (vI x3)] [] τ7 Q))) : VL E qL_law 794 [some (vR 1), some (vR 2), some (vR 140), some (vI x3)] [] τ Q := by
  refine l_aload_n (i := 1) (pc' := 795) dL_law_794 rfl rfl rfl ?_
  refine l_aload_n (i := 0) (pc' := 796) dL_law_795 rfl rfl rfl ?_
  refine l_iload_n (i := 3) (pc' := 797) dL_law_796 rfl rfl rfl ?_
  refine l_iconst (pc' := 798) dL_law_797 rfl ?_
  refine l_iadd (pc' := 799) dL_law_798 rfl ?_
  obtain ⟨c1, c2, h⟩ := h
  refine l_sld (pc' := 800) dL_law_799 rfl c1 c2 hL ?_
  refine l_invV (q' := qX10_mend) (As := [vI (τ 1 (x3 + 1).toNat)]) (st := []) (pc' := 803) dL_law_800 rfl gX10_mend wm_965 rfl rfl (by decide) kd_2 wm_966 wm_967 rfl (Nat.le_of_ble_eq_true rfl) (M0.mono h (fun v τ3 h => ?_))
  obtain ⟨r4, rfl, h⟩ := h
  show VL E qL_law 803 [some (vR 1), some (vR 2), some (vR 140), some (vI x3)] [vI r4] τ3 Q
  refine l_aload_n (i := 2) (pc' := 804) dL_law_803 rfl rfl rfl ?_
  refine l_aload_n (i := 0) (pc' := 805) dL_law_804 rfl rfl rfl ?_
  refine l_iload_n (i := 3) (pc' := 806) dL_law_805 rfl rfl rfl ?_
  refine l_iconst (pc' := 807) dL_law_806 rfl ?_
  refine l_iadd (pc' := 808) dL_law_807 rfl ?_
  obtain ⟨c5, c6, h⟩ := h
  refine l_sld (pc' := 809) dL_law_808 rfl c5 c6 hL ?_
  refine l_invV (q' := qX11_mend) (As := [vI (τ3 1 (x3 + 1).toNat)]) (st := [vI r4]) (pc' := 812) dL_law_809 rfl gX11_mend wm_1799 rfl rfl (by decide) kd_140 wm_1800 wm_1801 rfl (Nat.le_of_ble_eq_true rfl) (M0.mono h (fun v τ7 h => ?_))
  obtain ⟨r8, rfl, h⟩ := h
  show VL E qL_law 812 [some (vR 1), some (vR 2), some (vR 140), some (vI x3)] [vI r8, vI r4] τ7 Q
  obtain ⟨he, h⟩ := h
  subst he
  refine l_icmp_same (tgt := 1417) dL_law_812 (by decide) ?_
  exact l_less (ls' := [some (vR 1), some (vR 2), some (vR 140), some (vI x3)]) ⟨rfl, ⟨rfl, ⟨rfl, ⟨rfl, trivial⟩⟩⟩⟩ h
set_option maxRecDepth 20000 in
theorem bL_law_817 {E : mm_Env} {τ : mm_Mem} {Q : mm_Q0} (hL : E.2.2.2.2 ≤ 2147483647) {x3 : Int} (h : 0 ≤ (x3 + 1) ∧ (x3 + 1) < (E.2.2.2.2 : Int) ∧ M0 E 100 qX10_would [vR 2, vI (τ 1 (x3 + 1).toNat)] τ (fun v τ3 => ∃ r4 : Int, v = some (vI r4) ∧ 0 ≤ (x3 + 1) ∧ (x3 + 1) < (E.2.2.2.2 : Int) ∧ M0 E 100 qX11_would [vR 140, vI (τ3 1 (x3 + 1).toNat)] τ3 (fun v τ7 => ∃ r8 : Int, v = some (vI r8) ∧ r4 = r8 ∧ VL E qL_law 1417 [some (vR 1), some (vR 2), some (vR 140), some (vI x3)] [] τ7 Q))) : VL E qL_law 817 [some (vR 1), some (vR 2), some (vR 140), some (vI x3)] [] τ Q := by
  refine l_aload_n (i := 1) (pc' := 818) dL_law_817 rfl rfl rfl ?_
  refine l_aload_n (i := 0) (pc' := 819) dL_law_818 rfl rfl rfl ?_
  refine l_iload_n (i := 3) (pc' := 820) dL_law_819 rfl rfl rfl ?_
  refine l_iconst (pc' := 821) dL_law_820 rfl ?_
  refine l_iadd (pc' := 822) dL_law_821 rfl ?_
  obtain ⟨c1, c2, h⟩ := h
  refine l_sld (pc' := 823) dL_law_822 rfl c1 c2 hL ?_
  refine l_invV (q' := qX10_would) (As := [vI (τ 1 (x3 + 1).toNat)]) (st := []) (pc' := 826) dL_law_823 rfl gX10_would wm_981 rfl rfl (by decide) kd_2 wm_982 wm_983 rfl (Nat.le_of_ble_eq_true rfl) (M0.mono h (fun v τ3 h => ?_))
  obtain ⟨r4, rfl, h⟩ := h
  show VL E qL_law 826 [some (vR 1), some (vR 2), some (vR 140), some (vI x3)] [vI r4] τ3 Q
  refine l_aload_n (i := 2) (pc' := 827) dL_law_826 rfl rfl rfl ?_
  refine l_aload_n (i := 0) (pc' := 828) dL_law_827 rfl rfl rfl ?_
  refine l_iload_n (i := 3) (pc' := 829) dL_law_828 rfl rfl rfl ?_
  refine l_iconst (pc' := 830) dL_law_829 rfl ?_
  refine l_iadd (pc' := 831) dL_law_830 rfl ?_
  obtain ⟨c5, c6, h⟩ := h
  refine l_sld (pc' := 832) dL_law_831 rfl c5 c6 hL ?_
  refine l_invV (q' := qX11_would) (As := [vI (τ3 1 (x3 + 1).toNat)]) (st := [vI r4]) (pc' := 835) dL_law_832 rfl gX11_would wm_1815 rfl rfl (by decide) kd_140 wm_1816 wm_1817 rfl (Nat.le_of_ble_eq_true rfl) (M0.mono h (fun v τ7 h => ?_))
  obtain ⟨r8, rfl, h⟩ := h
  show VL E qL_law 835 [some (vR 1), some (vR 2), some (vR 140), some (vI x3)] [vI r8, vI r4] τ7 Q
  obtain ⟨he, h⟩ := h
  subst he
  refine l_icmp_same (tgt := 1417) dL_law_835 (by decide) ?_
  exact l_less (ls' := [some (vR 1), some (vR 2), some (vR 140), some (vI x3)]) ⟨rfl, ⟨rfl, ⟨rfl, ⟨rfl, trivial⟩⟩⟩⟩ h
set_option maxRecDepth 20000 in
theorem bL_law_840 {E : mm_Env} {τ : mm_Mem} {Q : mm_Q0} (hL : E.2.2.2.2 ≤ 2147483647) {x3 : Int} (h : 0 ≤ (x3 + 1) ∧ (x3 + 1) < (E.2.2.2.2 : Int) ∧ 0 ≤ (x3 + 2) ∧ (x3 + 2) < (E.2.2.2.2 : Int) ∧ M0 E 100 qX10_likely [vR 2, vI (τ 1 (x3 + 1).toNat), vI (τ 1 (x3 + 2).toNat)] τ (fun v τ5 => ∃ r6 : Int, v = some (vL r6) ∧ 0 ≤ (x3 + 1) ∧ (x3 + 1) < (E.2.2.2.2 : Int) ∧ 0 ≤ (x3 + 2) ∧ (x3 + 2) < (E.2.2.2.2 : Int) ∧ M0 E 100 qX11_likely [vR 140, vI (τ5 1 (x3 + 1).toNat), vI (τ5 1 (x3 + 2).toNat)] τ5 (fun v τ11 => ∃ r12 : Int, v = some (vL r12) ∧ r6 = r12 ∧ VL E qL_law 1417 [some (vR 1), some (vR 2), some (vR 140), some (vI x3)] [] τ11 Q))) : VL E qL_law 840 [some (vR 1), some (vR 2), some (vR 140), some (vI x3)] [] τ Q := by
  refine l_aload_n (i := 1) (pc' := 841) dL_law_840 rfl rfl rfl ?_
  refine l_aload_n (i := 0) (pc' := 842) dL_law_841 rfl rfl rfl ?_
  refine l_iload_n (i := 3) (pc' := 843) dL_law_842 rfl rfl rfl ?_
  refine l_iconst (pc' := 844) dL_law_843 rfl ?_
  refine l_iadd (pc' := 845) dL_law_844 rfl ?_
  obtain ⟨c1, c2, h⟩ := h
  refine l_sld (pc' := 846) dL_law_845 rfl c1 c2 hL ?_
  refine l_aload_n (i := 0) (pc' := 847) dL_law_846 rfl rfl rfl ?_
  refine l_iload_n (i := 3) (pc' := 848) dL_law_847 rfl rfl rfl ?_
  refine l_iconst (pc' := 849) dL_law_848 rfl ?_
  refine l_iadd (pc' := 850) dL_law_849 rfl ?_
  obtain ⟨c3, c4, h⟩ := h
  refine l_sld (pc' := 851) dL_law_850 rfl c3 c4 hL ?_
  refine l_invV (q' := qX10_likely) (As := [vI (τ 1 (x3 + 1).toNat), vI (τ 1 (x3 + 2).toNat)]) (st := []) (pc' := 854) dL_law_851 rfl gX10_likely wm_985 rfl rfl (by decide) kd_2 wm_986 wm_987 rfl (Nat.le_of_ble_eq_true rfl) (M0.mono h (fun v τ5 h => ?_))
  obtain ⟨r6, rfl, h⟩ := h
  show VL E qL_law 854 [some (vR 1), some (vR 2), some (vR 140), some (vI x3)] [vL r6] τ5 Q
  refine l_aload_n (i := 2) (pc' := 855) dL_law_854 rfl rfl rfl ?_
  refine l_aload_n (i := 0) (pc' := 856) dL_law_855 rfl rfl rfl ?_
  refine l_iload_n (i := 3) (pc' := 857) dL_law_856 rfl rfl rfl ?_
  refine l_iconst (pc' := 858) dL_law_857 rfl ?_
  refine l_iadd (pc' := 859) dL_law_858 rfl ?_
  obtain ⟨c7, c8, h⟩ := h
  refine l_sld (pc' := 860) dL_law_859 rfl c7 c8 hL ?_
  refine l_aload_n (i := 0) (pc' := 861) dL_law_860 rfl rfl rfl ?_
  refine l_iload_n (i := 3) (pc' := 862) dL_law_861 rfl rfl rfl ?_
  refine l_iconst (pc' := 863) dL_law_862 rfl ?_
  refine l_iadd (pc' := 864) dL_law_863 rfl ?_
  obtain ⟨c9, c10, h⟩ := h
  refine l_sld (pc' := 865) dL_law_864 rfl c9 c10 hL ?_
  refine l_invV (q' := qX11_likely) (As := [vI (τ5 1 (x3 + 1).toNat), vI (τ5 1 (x3 + 2).toNat)]) (st := [vL r6]) (pc' := 868) dL_law_865 rfl gX11_likely wm_1823 rfl rfl (by decide) kd_140 wm_1824 wm_1825 rfl (Nat.le_of_ble_eq_true rfl) (M0.mono h (fun v τ11 h => ?_))
  obtain ⟨r12, rfl, h⟩ := h
  show VL E qL_law 868 [some (vR 1), some (vR 2), some (vR 140), some (vI x3)] [vL r12, vL r6] τ11 Q
  obtain ⟨he, h⟩ := h
  subst he
  refine l_lcmp_same (pc' := 869) dL_law_868 rfl ?_
  refine l_if_eq (tgt := 1417) (pc' := 872) dL_law_869 rfl (by decide) ⟨by decide, by decide⟩ (fun _ => ?_) (fun hb => absurd hb (by decide))
  exact l_less (ls' := [some (vR 1), some (vR 2), some (vR 140), some (vI x3)]) ⟨rfl, ⟨rfl, ⟨rfl, ⟨rfl, trivial⟩⟩⟩⟩ h
set_option maxRecDepth 20000 in
theorem bL_law_874 {E : mm_Env} {τ : mm_Mem} {Q : mm_Q0} (hL : E.2.2.2.2 ≤ 2147483647) {x3 : Int} (h : 0 ≤ (x3 + 1) ∧ (x3 + 1) < (E.2.2.2.2 : Int) ∧ 0 ≤ (x3 + 2) ∧ (x3 + 2) < (E.2.2.2.2 : Int) ∧ M0 E 100 qX10_lost [vR 2, vI (τ 1 (x3 + 1).toNat), vI (τ 1 (x3 + 2).toNat)] τ (fun v τ5 => ∃ r6 : Int, v = some (vL r6) ∧ 0 ≤ (x3 + 1) ∧ (x3 + 1) < (E.2.2.2.2 : Int) ∧ 0 ≤ (x3 + 2) ∧ (x3 + 2) < (E.2.2.2.2 : Int) ∧ M0 E 100 qX11_lost [vR 140, vI (τ5 1 (x3 + 1).toNat), vI (τ5 1 (x3 + 2).toNat)] τ5 (fun v τ11 => ∃ r12 : Int, v = some (vL r12) ∧ r6 = r12 ∧ VL E qL_law 1417 [some (vR 1), some (vR 2), some (vR 140), some (vI x3)] [] τ11 Q))) : VL E qL_law 874 [some (vR 1), some (vR 2), some (vR 140), some (vI x3)] [] τ Q := by
  refine l_aload_n (i := 1) (pc' := 875) dL_law_874 rfl rfl rfl ?_
  refine l_aload_n (i := 0) (pc' := 876) dL_law_875 rfl rfl rfl ?_
  refine l_iload_n (i := 3) (pc' := 877) dL_law_876 rfl rfl rfl ?_
  refine l_iconst (pc' := 878) dL_law_877 rfl ?_
  refine l_iadd (pc' := 879) dL_law_878 rfl ?_
  obtain ⟨c1, c2, h⟩ := h
  refine l_sld (pc' := 880) dL_law_879 rfl c1 c2 hL ?_
  refine l_aload_n (i := 0) (pc' := 881) dL_law_880 rfl rfl rfl ?_
  refine l_iload_n (i := 3) (pc' := 882) dL_law_881 rfl rfl rfl ?_
  refine l_iconst (pc' := 883) dL_law_882 rfl ?_
  refine l_iadd (pc' := 884) dL_law_883 rfl ?_
  obtain ⟨c3, c4, h⟩ := h
  refine l_sld (pc' := 885) dL_law_884 rfl c3 c4 hL ?_
  refine l_invV (q' := qX10_lost) (As := [vI (τ 1 (x3 + 1).toNat), vI (τ 1 (x3 + 2).toNat)]) (st := []) (pc' := 888) dL_law_885 rfl gX10_lost wm_1008 rfl rfl (by decide) kd_2 wm_1009 wm_1010 rfl (Nat.le_of_ble_eq_true rfl) (M0.mono h (fun v τ5 h => ?_))
  obtain ⟨r6, rfl, h⟩ := h
  show VL E qL_law 888 [some (vR 1), some (vR 2), some (vR 140), some (vI x3)] [vL r6] τ5 Q
  refine l_aload_n (i := 2) (pc' := 889) dL_law_888 rfl rfl rfl ?_
  refine l_aload_n (i := 0) (pc' := 890) dL_law_889 rfl rfl rfl ?_
  refine l_iload_n (i := 3) (pc' := 891) dL_law_890 rfl rfl rfl ?_
  refine l_iconst (pc' := 892) dL_law_891 rfl ?_
  refine l_iadd (pc' := 893) dL_law_892 rfl ?_
  obtain ⟨c7, c8, h⟩ := h
  refine l_sld (pc' := 894) dL_law_893 rfl c7 c8 hL ?_
  refine l_aload_n (i := 0) (pc' := 895) dL_law_894 rfl rfl rfl ?_
  refine l_iload_n (i := 3) (pc' := 896) dL_law_895 rfl rfl rfl ?_
  refine l_iconst (pc' := 897) dL_law_896 rfl ?_
  refine l_iadd (pc' := 898) dL_law_897 rfl ?_
  obtain ⟨c9, c10, h⟩ := h
  refine l_sld (pc' := 899) dL_law_898 rfl c9 c10 hL ?_
  refine l_invV (q' := qX11_lost) (As := [vI (τ5 1 (x3 + 1).toNat), vI (τ5 1 (x3 + 2).toNat)]) (st := [vL r6]) (pc' := 902) dL_law_899 rfl gX11_lost wm_1834 rfl rfl (by decide) kd_140 wm_1835 wm_1836 rfl (Nat.le_of_ble_eq_true rfl) (M0.mono h (fun v τ11 h => ?_))
  obtain ⟨r12, rfl, h⟩ := h
  show VL E qL_law 902 [some (vR 1), some (vR 2), some (vR 140), some (vI x3)] [vL r12, vL r6] τ11 Q
  obtain ⟨he, h⟩ := h
  subst he
  refine l_lcmp_same (pc' := 903) dL_law_902 rfl ?_
  refine l_if_eq (tgt := 1417) (pc' := 906) dL_law_903 rfl (by decide) ⟨by decide, by decide⟩ (fun _ => ?_) (fun hb => absurd hb (by decide))
  exact l_less (ls' := [some (vR 1), some (vR 2), some (vR 140), some (vI x3)]) ⟨rfl, ⟨rfl, ⟨rfl, ⟨rfl, trivial⟩⟩⟩⟩ h
set_option maxRecDepth 20000 in
theorem bL_law_908 {E : mm_Env} {τ : mm_Mem} {Q : mm_Q0} (hL : E.2.2.2.2 ≤ 2147483647) {x3 : Int} (h : 0 ≤ (x3 + 1) ∧ (x3 + 1) < (E.2.2.2.2 : Int) ∧ M0 E 100 qX10_bears [vR 2, vI (τ 1 (x3 + 1).toNat)] τ (fun v τ3 => ∃ r4 : Int, v = some (vI r4) ∧ 0 ≤ (x3 + 1) ∧ (x3 + 1) < (E.2.2.2.2 : Int) ∧ M0 E 100 qX11_bears [vR 140, vI (τ3 1 (x3 + 1).toNat)] τ3 (fun v τ7 => ∃ r8 : Int, v = some (vI r8) ∧ r4 = r8 ∧ VL E qL_law 1417 [some (vR 1), some (vR 2), some (vR 140), some (vI x3)] [] τ7 Q))) : VL E qL_law 908 [some (vR 1), some (vR 2), some (vR 140), some (vI x3)] [] τ Q := by
  refine l_aload_n (i := 1) (pc' := 909) dL_law_908 rfl rfl rfl ?_
  refine l_aload_n (i := 0) (pc' := 910) dL_law_909 rfl rfl rfl ?_
  refine l_iload_n (i := 3) (pc' := 911) dL_law_910 rfl rfl rfl ?_
  refine l_iconst (pc' := 912) dL_law_911 rfl ?_
  refine l_iadd (pc' := 913) dL_law_912 rfl ?_
  obtain ⟨c1, c2, h⟩ := h
  refine l_sld (pc' := 914) dL_law_913 rfl c1 c2 hL ?_
  refine l_invV (q' := qX10_bears) (As := [vI (τ 1 (x3 + 1).toNat)]) (st := []) (pc' := 917) dL_law_914 rfl gX10_bears wm_1012 rfl rfl (by decide) kd_2 wm_1013 wm_1014 rfl (Nat.le_of_ble_eq_true rfl) (M0.mono h (fun v τ3 h => ?_))
  obtain ⟨r4, rfl, h⟩ := h
  show VL E qL_law 917 [some (vR 1), some (vR 2), some (vR 140), some (vI x3)] [vI r4] τ3 Q
  refine l_aload_n (i := 2) (pc' := 918) dL_law_917 rfl rfl rfl ?_
  refine l_aload_n (i := 0) (pc' := 919) dL_law_918 rfl rfl rfl ?_
  refine l_iload_n (i := 3) (pc' := 920) dL_law_919 rfl rfl rfl ?_
  refine l_iconst (pc' := 921) dL_law_920 rfl ?_
  refine l_iadd (pc' := 922) dL_law_921 rfl ?_
  obtain ⟨c5, c6, h⟩ := h
  refine l_sld (pc' := 923) dL_law_922 rfl c5 c6 hL ?_
  refine l_invV (q' := qX11_bears) (As := [vI (τ3 1 (x3 + 1).toNat)]) (st := [vI r4]) (pc' := 926) dL_law_923 rfl gX11_bears wm_1819 rfl rfl (by decide) kd_140 wm_1820 wm_1821 rfl (Nat.le_of_ble_eq_true rfl) (M0.mono h (fun v τ7 h => ?_))
  obtain ⟨r8, rfl, h⟩ := h
  show VL E qL_law 926 [some (vR 1), some (vR 2), some (vR 140), some (vI x3)] [vI r8, vI r4] τ7 Q
  obtain ⟨he, h⟩ := h
  subst he
  refine l_icmp_same (tgt := 1417) dL_law_926 (by decide) ?_
  exact l_less (ls' := [some (vR 1), some (vR 2), some (vR 140), some (vI x3)]) ⟨rfl, ⟨rfl, ⟨rfl, ⟨rfl, trivial⟩⟩⟩⟩ h
set_option maxRecDepth 20000 in
theorem bL_law_931 {E : mm_Env} {τ : mm_Mem} {Q : mm_Q0} (hL : E.2.2.2.2 ≤ 2147483647) {x3 : Int} (h : 0 ≤ (x3 + 1) ∧ (x3 + 1) < (E.2.2.2.2 : Int) ∧ 0 ≤ (x3 + 2) ∧ (x3 + 2) < (E.2.2.2.2 : Int) ∧ M0 E 100 qX10_stranger [vR 2, vI (τ 1 (x3 + 1).toNat), vI (τ 1 (x3 + 2).toNat)] τ (fun v τ5 => ∃ r6 : Int, v = some (vL r6) ∧ 0 ≤ (x3 + 1) ∧ (x3 + 1) < (E.2.2.2.2 : Int) ∧ 0 ≤ (x3 + 2) ∧ (x3 + 2) < (E.2.2.2.2 : Int) ∧ M0 E 100 qX11_stranger [vR 140, vI (τ5 1 (x3 + 1).toNat), vI (τ5 1 (x3 + 2).toNat)] τ5 (fun v τ11 => ∃ r12 : Int, v = some (vL r12) ∧ r6 = r12 ∧ VL E qL_law 1417 [some (vR 1), some (vR 2), some (vR 140), some (vI x3)] [] τ11 Q))) : VL E qL_law 931 [some (vR 1), some (vR 2), some (vR 140), some (vI x3)] [] τ Q := by
  refine l_aload_n (i := 1) (pc' := 932) dL_law_931 rfl rfl rfl ?_
  refine l_aload_n (i := 0) (pc' := 933) dL_law_932 rfl rfl rfl ?_
  refine l_iload_n (i := 3) (pc' := 934) dL_law_933 rfl rfl rfl ?_
  refine l_iconst (pc' := 935) dL_law_934 rfl ?_
  refine l_iadd (pc' := 936) dL_law_935 rfl ?_
  obtain ⟨c1, c2, h⟩ := h
  refine l_sld (pc' := 937) dL_law_936 rfl c1 c2 hL ?_
  refine l_aload_n (i := 0) (pc' := 938) dL_law_937 rfl rfl rfl ?_
  refine l_iload_n (i := 3) (pc' := 939) dL_law_938 rfl rfl rfl ?_
  refine l_iconst (pc' := 940) dL_law_939 rfl ?_
  refine l_iadd (pc' := 941) dL_law_940 rfl ?_
  obtain ⟨c3, c4, h⟩ := h
  refine l_sld (pc' := 942) dL_law_941 rfl c3 c4 hL ?_
  refine l_invV (q' := qX10_stranger) (As := [vI (τ 1 (x3 + 1).toNat), vI (τ 1 (x3 + 2).toNat)]) (st := []) (pc' := 945) dL_law_942 rfl gX10_stranger wm_1016 rfl rfl (by decide) kd_2 wm_1017 wm_1018 rfl (Nat.le_of_ble_eq_true rfl) (M0.mono h (fun v τ5 h => ?_))
  obtain ⟨r6, rfl, h⟩ := h
  show VL E qL_law 945 [some (vR 1), some (vR 2), some (vR 140), some (vI x3)] [vL r6] τ5 Q
  refine l_aload_n (i := 2) (pc' := 946) dL_law_945 rfl rfl rfl ?_
  refine l_aload_n (i := 0) (pc' := 947) dL_law_946 rfl rfl rfl ?_
  refine l_iload_n (i := 3) (pc' := 948) dL_law_947 rfl rfl rfl ?_
  refine l_iconst (pc' := 949) dL_law_948 rfl ?_
  refine l_iadd (pc' := 950) dL_law_949 rfl ?_
  obtain ⟨c7, c8, h⟩ := h
  refine l_sld (pc' := 951) dL_law_950 rfl c7 c8 hL ?_
  refine l_aload_n (i := 0) (pc' := 952) dL_law_951 rfl rfl rfl ?_
  refine l_iload_n (i := 3) (pc' := 953) dL_law_952 rfl rfl rfl ?_
  refine l_iconst (pc' := 954) dL_law_953 rfl ?_
  refine l_iadd (pc' := 955) dL_law_954 rfl ?_
  obtain ⟨c9, c10, h⟩ := h
  refine l_sld (pc' := 956) dL_law_955 rfl c9 c10 hL ?_
  refine l_invV (q' := qX11_stranger) (As := [vI (τ5 1 (x3 + 1).toNat), vI (τ5 1 (x3 + 2).toNat)]) (st := [vL r6]) (pc' := 959) dL_law_956 rfl gX11_stranger wm_1838 rfl rfl (by decide) kd_140 wm_1839 wm_1840 rfl (Nat.le_of_ble_eq_true rfl) (M0.mono h (fun v τ11 h => ?_))
  obtain ⟨r12, rfl, h⟩ := h
  show VL E qL_law 959 [some (vR 1), some (vR 2), some (vR 140), some (vI x3)] [vL r12, vL r6] τ11 Q
  obtain ⟨he, h⟩ := h
  subst he
  refine l_lcmp_same (pc' := 960) dL_law_959 rfl ?_
  refine l_if_eq (tgt := 1417) (pc' := 963) dL_law_960 rfl (by decide) ⟨by decide, by decide⟩ (fun _ => ?_) (fun hb => absurd hb (by decide))
  exact l_less (ls' := [some (vR 1), some (vR 2), some (vR 140), some (vI x3)]) ⟨rfl, ⟨rfl, ⟨rfl, ⟨rfl, trivial⟩⟩⟩⟩ h
set_option maxRecDepth 20000 in
theorem bL_law_965 {E : mm_Env} {τ : mm_Mem} {Q : mm_Q0} (hL : E.2.2.2.2 ≤ 2147483647) {x3 : Int} (h : 0 ≤ (x3 + 1) ∧ (x3 + 1) < (E.2.2.2.2 : Int) ∧ M0 E 100 qX10_near [vR 2, vI (τ 1 (x3 + 1).toNat)] τ (fun v τ3 => ∃ r4 : Int, v = some (vI r4) ∧ 0 ≤ (x3 + 1) ∧ (x3 + 1) < (E.2.2.2.2 : Int) ∧ M0 E 100 qX11_near [vR 140, vI (τ3 1 (x3 + 1).toNat)] τ3 (fun v τ7 => ∃ r8 : Int, v = some (vI r8) ∧ r4 = r8 ∧ VL E qL_law 1417 [some (vR 1), some (vR 2), some (vR 140), some (vI x3)] [] τ7 Q))) : VL E qL_law 965 [some (vR 1), some (vR 2), some (vR 140), some (vI x3)] [] τ Q := by
  refine l_aload_n (i := 1) (pc' := 966) dL_law_965 rfl rfl rfl ?_
  refine l_aload_n (i := 0) (pc' := 967) dL_law_966 rfl rfl rfl ?_
  refine l_iload_n (i := 3) (pc' := 968) dL_law_967 rfl rfl rfl ?_
  refine l_iconst (pc' := 969) dL_law_968 rfl ?_
  refine l_iadd (pc' := 970) dL_law_969 rfl ?_
  obtain ⟨c1, c2, h⟩ := h
  refine l_sld (pc' := 971) dL_law_970 rfl c1 c2 hL ?_
  refine l_invV (q' := qX10_near) (As := [vI (τ 1 (x3 + 1).toNat)]) (st := []) (pc' := 974) dL_law_971 rfl gX10_near wm_1060 rfl rfl (by decide) kd_2 wm_1061 wm_1062 rfl (Nat.le_of_ble_eq_true rfl) (M0.mono h (fun v τ3 h => ?_))
  obtain ⟨r4, rfl, h⟩ := h
  show VL E qL_law 974 [some (vR 1), some (vR 2), some (vR 140), some (vI x3)] [vI r4] τ3 Q
  refine l_aload_n (i := 2) (pc' := 975) dL_law_974 rfl rfl rfl ?_
  refine l_aload_n (i := 0) (pc' := 976) dL_law_975 rfl rfl rfl ?_
  refine l_iload_n (i := 3) (pc' := 977) dL_law_976 rfl rfl rfl ?_
  refine l_iconst (pc' := 978) dL_law_977 rfl ?_
  refine l_iadd (pc' := 979) dL_law_978 rfl ?_
  obtain ⟨c5, c6, h⟩ := h
  refine l_sld (pc' := 980) dL_law_979 rfl c5 c6 hL ?_
  refine l_invV (q' := qX11_near) (As := [vI (τ3 1 (x3 + 1).toNat)]) (st := [vI r4]) (pc' := 983) dL_law_980 rfl gX11_near wm_1858 rfl rfl (by decide) kd_140 wm_1859 wm_1860 rfl (Nat.le_of_ble_eq_true rfl) (M0.mono h (fun v τ7 h => ?_))
  obtain ⟨r8, rfl, h⟩ := h
  show VL E qL_law 983 [some (vR 1), some (vR 2), some (vR 140), some (vI x3)] [vI r8, vI r4] τ7 Q
  obtain ⟨he, h⟩ := h
  subst he
  refine l_icmp_same (tgt := 1417) dL_law_983 (by decide) ?_
  exact l_less (ls' := [some (vR 1), some (vR 2), some (vR 140), some (vI x3)]) ⟨rfl, ⟨rfl, ⟨rfl, ⟨rfl, trivial⟩⟩⟩⟩ h
set_option maxRecDepth 20000 in
theorem bL_law_988 {E : mm_Env} {τ : mm_Mem} {Q : mm_Q0} (hL : E.2.2.2.2 ≤ 2147483647) {x3 : Int} (h : 0 ≤ (x3 + 1) ∧ (x3 + 1) < (E.2.2.2.2 : Int) ∧ 0 ≤ (x3 + 2) ∧ (x3 + 2) < (E.2.2.2.2 : Int) ∧ 0 ≤ (x3 + 3) ∧ (x3 + 3) < (E.2.2.2.2 : Int) ∧ 0 ≤ (x3 + 4) ∧ (x3 + 4) < (E.2.2.2.2 : Int) ∧ M0 E 100 qX10_cost [vR 2, vI (τ 1 (x3 + 1).toNat), vI (τ 1 (x3 + 2).toNat), vI (τ 1 (x3 + 3).toNat), vI (τ 1 (x3 + 4).toNat)] τ (fun v τ9 => ∃ r10 : Int, v = some (vI r10) ∧ 0 ≤ (x3 + 1) ∧ (x3 + 1) < (E.2.2.2.2 : Int) ∧ 0 ≤ (x3 + 2) ∧ (x3 + 2) < (E.2.2.2.2 : Int) ∧ 0 ≤ (x3 + 3) ∧ (x3 + 3) < (E.2.2.2.2 : Int) ∧ 0 ≤ (x3 + 4) ∧ (x3 + 4) < (E.2.2.2.2 : Int) ∧ M0 E 100 qX11_cost [vR 140, vI (τ9 1 (x3 + 1).toNat), vI (τ9 1 (x3 + 2).toNat), vI (τ9 1 (x3 + 3).toNat), vI (τ9 1 (x3 + 4).toNat)] τ9 (fun v τ19 => ∃ r20 : Int, v = some (vI r20) ∧ r10 = r20 ∧ VL E qL_law 1417 [some (vR 1), some (vR 2), some (vR 140), some (vI x3)] [] τ19 Q))) : VL E qL_law 988 [some (vR 1), some (vR 2), some (vR 140), some (vI x3)] [] τ Q := by
  refine l_aload_n (i := 1) (pc' := 989) dL_law_988 rfl rfl rfl ?_
  refine l_aload_n (i := 0) (pc' := 990) dL_law_989 rfl rfl rfl ?_
  refine l_iload_n (i := 3) (pc' := 991) dL_law_990 rfl rfl rfl ?_
  refine l_iconst (pc' := 992) dL_law_991 rfl ?_
  refine l_iadd (pc' := 993) dL_law_992 rfl ?_
  obtain ⟨c1, c2, h⟩ := h
  refine l_sld (pc' := 994) dL_law_993 rfl c1 c2 hL ?_
  refine l_aload_n (i := 0) (pc' := 995) dL_law_994 rfl rfl rfl ?_
  refine l_iload_n (i := 3) (pc' := 996) dL_law_995 rfl rfl rfl ?_
  refine l_iconst (pc' := 997) dL_law_996 rfl ?_
  refine l_iadd (pc' := 998) dL_law_997 rfl ?_
  obtain ⟨c3, c4, h⟩ := h
  refine l_sld (pc' := 999) dL_law_998 rfl c3 c4 hL ?_
  refine l_aload_n (i := 0) (pc' := 1000) dL_law_999 rfl rfl rfl ?_
  refine l_iload_n (i := 3) (pc' := 1001) dL_law_1000 rfl rfl rfl ?_
  refine l_iconst (pc' := 1002) dL_law_1001 rfl ?_
  refine l_iadd (pc' := 1003) dL_law_1002 rfl ?_
  obtain ⟨c5, c6, h⟩ := h
  refine l_sld (pc' := 1004) dL_law_1003 rfl c5 c6 hL ?_
  refine l_aload_n (i := 0) (pc' := 1005) dL_law_1004 rfl rfl rfl ?_
  refine l_iload_n (i := 3) (pc' := 1006) dL_law_1005 rfl rfl rfl ?_
  refine l_iconst (pc' := 1007) dL_law_1006 rfl ?_
  refine l_iadd (pc' := 1008) dL_law_1007 rfl ?_
  obtain ⟨c7, c8, h⟩ := h
  refine l_sld (pc' := 1009) dL_law_1008 rfl c7 c8 hL ?_
  refine l_invV (q' := qX10_cost) (As := [vI (τ 1 (x3 + 1).toNat), vI (τ 1 (x3 + 2).toNat), vI (τ 1 (x3 + 3).toNat), vI (τ 1 (x3 + 4).toNat)]) (st := []) (pc' := 1012) dL_law_1009 rfl gX10_cost wm_1070 rfl rfl (by decide) kd_2 wm_1071 wm_1072 rfl (Nat.le_of_ble_eq_true rfl) (M0.mono h (fun v τ9 h => ?_))
  obtain ⟨r10, rfl, h⟩ := h
  show VL E qL_law 1012 [some (vR 1), some (vR 2), some (vR 140), some (vI x3)] [vI r10] τ9 Q
  refine l_aload_n (i := 2) (pc' := 1013) dL_law_1012 rfl rfl rfl ?_
  refine l_aload_n (i := 0) (pc' := 1014) dL_law_1013 rfl rfl rfl ?_
  refine l_iload_n (i := 3) (pc' := 1015) dL_law_1014 rfl rfl rfl ?_
  refine l_iconst (pc' := 1016) dL_law_1015 rfl ?_
  refine l_iadd (pc' := 1017) dL_law_1016 rfl ?_
  obtain ⟨c11, c12, h⟩ := h
  refine l_sld (pc' := 1018) dL_law_1017 rfl c11 c12 hL ?_
  refine l_aload_n (i := 0) (pc' := 1019) dL_law_1018 rfl rfl rfl ?_
  refine l_iload_n (i := 3) (pc' := 1020) dL_law_1019 rfl rfl rfl ?_
  refine l_iconst (pc' := 1021) dL_law_1020 rfl ?_
  refine l_iadd (pc' := 1022) dL_law_1021 rfl ?_
  obtain ⟨c13, c14, h⟩ := h
  refine l_sld (pc' := 1023) dL_law_1022 rfl c13 c14 hL ?_
  refine l_aload_n (i := 0) (pc' := 1024) dL_law_1023 rfl rfl rfl ?_
  refine l_iload_n (i := 3) (pc' := 1025) dL_law_1024 rfl rfl rfl ?_
  refine l_iconst (pc' := 1026) dL_law_1025 rfl ?_
  refine l_iadd (pc' := 1027) dL_law_1026 rfl ?_
  obtain ⟨c15, c16, h⟩ := h
  refine l_sld (pc' := 1028) dL_law_1027 rfl c15 c16 hL ?_
  refine l_aload_n (i := 0) (pc' := 1029) dL_law_1028 rfl rfl rfl ?_
  refine l_iload_n (i := 3) (pc' := 1030) dL_law_1029 rfl rfl rfl ?_
  refine l_iconst (pc' := 1031) dL_law_1030 rfl ?_
  refine l_iadd (pc' := 1032) dL_law_1031 rfl ?_
  obtain ⟨c17, c18, h⟩ := h
  refine l_sld (pc' := 1033) dL_law_1032 rfl c17 c18 hL ?_
  refine l_invV (q' := qX11_cost) (As := [vI (τ9 1 (x3 + 1).toNat), vI (τ9 1 (x3 + 2).toNat), vI (τ9 1 (x3 + 3).toNat), vI (τ9 1 (x3 + 4).toNat)]) (st := [vI r10]) (pc' := 1036) dL_law_1033 rfl gX11_cost wm_1866 rfl rfl (by decide) kd_140 wm_1867 wm_1868 rfl (Nat.le_of_ble_eq_true rfl) (M0.mono h (fun v τ19 h => ?_))
  obtain ⟨r20, rfl, h⟩ := h
  show VL E qL_law 1036 [some (vR 1), some (vR 2), some (vR 140), some (vI x3)] [vI r20, vI r10] τ19 Q
  obtain ⟨he, h⟩ := h
  subst he
  refine l_icmp_same (tgt := 1417) dL_law_1036 (by decide) ?_
  exact l_less (ls' := [some (vR 1), some (vR 2), some (vR 140), some (vI x3)]) ⟨rfl, ⟨rfl, ⟨rfl, ⟨rfl, trivial⟩⟩⟩⟩ h
set_option maxRecDepth 20000 in
theorem bL_law_1041 {E : mm_Env} {τ : mm_Mem} {Q : mm_Q0} (hL : E.2.2.2.2 ≤ 2147483647) {x3 : Int} (h : 0 ≤ (x3 + 1) ∧ (x3 + 1) < (E.2.2.2.2 : Int) ∧ 0 ≤ (x3 + 2) ∧ (x3 + 2) < (E.2.2.2.2 : Int) ∧ 0 ≤ (x3 + 3) ∧ (x3 + 3) < (E.2.2.2.2 : Int) ∧ M0 E 100 qX10_knows [vR 2, vI (τ 1 (x3 + 1).toNat), vI (τ 1 (x3 + 2).toNat), vI (τ 1 (x3 + 3).toNat)] τ (fun v τ7 => ∃ r8 : Int, v = some (vI r8) ∧ 0 ≤ (x3 + 1) ∧ (x3 + 1) < (E.2.2.2.2 : Int) ∧ 0 ≤ (x3 + 2) ∧ (x3 + 2) < (E.2.2.2.2 : Int) ∧ 0 ≤ (x3 + 3) ∧ (x3 + 3) < (E.2.2.2.2 : Int) ∧ M0 E 100 qX11_knows [vR 140, vI (τ7 1 (x3 + 1).toNat), vI (τ7 1 (x3 + 2).toNat), vI (τ7 1 (x3 + 3).toNat)] τ7 (fun v τ15 => ∃ r16 : Int, v = some (vI r16) ∧ r8 = r16 ∧ VL E qL_law 1417 [some (vR 1), some (vR 2), some (vR 140), some (vI x3)] [] τ15 Q))) : VL E qL_law 1041 [some (vR 1), some (vR 2), some (vR 140), some (vI x3)] [] τ Q := by
  refine l_aload_n (i := 1) (pc' := 1042) dL_law_1041 rfl rfl rfl ?_
  refine l_aload_n (i := 0) (pc' := 1043) dL_law_1042 rfl rfl rfl ?_
  refine l_iload_n (i := 3) (pc' := 1044) dL_law_1043 rfl rfl rfl ?_
  refine l_iconst (pc' := 1045) dL_law_1044 rfl ?_
  refine l_iadd (pc' := 1046) dL_law_1045 rfl ?_
  obtain ⟨c1, c2, h⟩ := h
  refine l_sld (pc' := 1047) dL_law_1046 rfl c1 c2 hL ?_
  refine l_aload_n (i := 0) (pc' := 1048) dL_law_1047 rfl rfl rfl ?_
  refine l_iload_n (i := 3) (pc' := 1049) dL_law_1048 rfl rfl rfl ?_
  refine l_iconst (pc' := 1050) dL_law_1049 rfl ?_
  refine l_iadd (pc' := 1051) dL_law_1050 rfl ?_
  obtain ⟨c3, c4, h⟩ := h
  refine l_sld (pc' := 1052) dL_law_1051 rfl c3 c4 hL ?_
  refine l_aload_n (i := 0) (pc' := 1053) dL_law_1052 rfl rfl rfl ?_
  refine l_iload_n (i := 3) (pc' := 1054) dL_law_1053 rfl rfl rfl ?_
  refine l_iconst (pc' := 1055) dL_law_1054 rfl ?_
  refine l_iadd (pc' := 1056) dL_law_1055 rfl ?_
  obtain ⟨c5, c6, h⟩ := h
  refine l_sld (pc' := 1057) dL_law_1056 rfl c5 c6 hL ?_
  refine l_invV (q' := qX10_knows) (As := [vI (τ 1 (x3 + 1).toNat), vI (τ 1 (x3 + 2).toNat), vI (τ 1 (x3 + 3).toNat)]) (st := []) (pc' := 1060) dL_law_1057 rfl gX10_knows wm_1078 rfl rfl (by decide) kd_2 wm_1079 wm_1080 rfl (Nat.le_of_ble_eq_true rfl) (M0.mono h (fun v τ7 h => ?_))
  obtain ⟨r8, rfl, h⟩ := h
  show VL E qL_law 1060 [some (vR 1), some (vR 2), some (vR 140), some (vI x3)] [vI r8] τ7 Q
  refine l_aload_n (i := 2) (pc' := 1061) dL_law_1060 rfl rfl rfl ?_
  refine l_aload_n (i := 0) (pc' := 1062) dL_law_1061 rfl rfl rfl ?_
  refine l_iload_n (i := 3) (pc' := 1063) dL_law_1062 rfl rfl rfl ?_
  refine l_iconst (pc' := 1064) dL_law_1063 rfl ?_
  refine l_iadd (pc' := 1065) dL_law_1064 rfl ?_
  obtain ⟨c9, c10, h⟩ := h
  refine l_sld (pc' := 1066) dL_law_1065 rfl c9 c10 hL ?_
  refine l_aload_n (i := 0) (pc' := 1067) dL_law_1066 rfl rfl rfl ?_
  refine l_iload_n (i := 3) (pc' := 1068) dL_law_1067 rfl rfl rfl ?_
  refine l_iconst (pc' := 1069) dL_law_1068 rfl ?_
  refine l_iadd (pc' := 1070) dL_law_1069 rfl ?_
  obtain ⟨c11, c12, h⟩ := h
  refine l_sld (pc' := 1071) dL_law_1070 rfl c11 c12 hL ?_
  refine l_aload_n (i := 0) (pc' := 1072) dL_law_1071 rfl rfl rfl ?_
  refine l_iload_n (i := 3) (pc' := 1073) dL_law_1072 rfl rfl rfl ?_
  refine l_iconst (pc' := 1074) dL_law_1073 rfl ?_
  refine l_iadd (pc' := 1075) dL_law_1074 rfl ?_
  obtain ⟨c13, c14, h⟩ := h
  refine l_sld (pc' := 1076) dL_law_1075 rfl c13 c14 hL ?_
  refine l_invV (q' := qX11_knows) (As := [vI (τ7 1 (x3 + 1).toNat), vI (τ7 1 (x3 + 2).toNat), vI (τ7 1 (x3 + 3).toNat)]) (st := [vI r8]) (pc' := 1079) dL_law_1076 rfl gX11_knows wm_1874 rfl rfl (by decide) kd_140 wm_1875 wm_1876 rfl (Nat.le_of_ble_eq_true rfl) (M0.mono h (fun v τ15 h => ?_))
  obtain ⟨r16, rfl, h⟩ := h
  show VL E qL_law 1079 [some (vR 1), some (vR 2), some (vR 140), some (vI x3)] [vI r16, vI r8] τ15 Q
  obtain ⟨he, h⟩ := h
  subst he
  refine l_icmp_same (tgt := 1417) dL_law_1079 (by decide) ?_
  exact l_less (ls' := [some (vR 1), some (vR 2), some (vR 140), some (vI x3)]) ⟨rfl, ⟨rfl, ⟨rfl, ⟨rfl, trivial⟩⟩⟩⟩ h
set_option maxRecDepth 20000 in
theorem bL_law_1084 {E : mm_Env} {τ : mm_Mem} {Q : mm_Q0} (hL : E.2.2.2.2 ≤ 2147483647) {x3 : Int} (h : 0 ≤ (x3 + 1) ∧ (x3 + 1) < (E.2.2.2.2 : Int) ∧ 0 ≤ (x3 + 2) ∧ (x3 + 2) < (E.2.2.2.2 : Int) ∧ M0 E 100 qX10_sure [vR 2, vI (τ 1 (x3 + 1).toNat), vI (τ 1 (x3 + 2).toNat)] τ (fun v τ5 => ∃ r6 : Int, v = some (vI r6) ∧ 0 ≤ (x3 + 1) ∧ (x3 + 1) < (E.2.2.2.2 : Int) ∧ 0 ≤ (x3 + 2) ∧ (x3 + 2) < (E.2.2.2.2 : Int) ∧ M0 E 100 qX11_sure [vR 140, vI (τ5 1 (x3 + 1).toNat), vI (τ5 1 (x3 + 2).toNat)] τ5 (fun v τ11 => ∃ r12 : Int, v = some (vI r12) ∧ r6 = r12 ∧ VL E qL_law 1417 [some (vR 1), some (vR 2), some (vR 140), some (vI x3)] [] τ11 Q))) : VL E qL_law 1084 [some (vR 1), some (vR 2), some (vR 140), some (vI x3)] [] τ Q := by
  refine l_aload_n (i := 1) (pc' := 1085) dL_law_1084 rfl rfl rfl ?_
  refine l_aload_n (i := 0) (pc' := 1086) dL_law_1085 rfl rfl rfl ?_
  refine l_iload_n (i := 3) (pc' := 1087) dL_law_1086 rfl rfl rfl ?_
  refine l_iconst (pc' := 1088) dL_law_1087 rfl ?_
  refine l_iadd (pc' := 1089) dL_law_1088 rfl ?_
  obtain ⟨c1, c2, h⟩ := h
  refine l_sld (pc' := 1090) dL_law_1089 rfl c1 c2 hL ?_
  refine l_aload_n (i := 0) (pc' := 1091) dL_law_1090 rfl rfl rfl ?_
  refine l_iload_n (i := 3) (pc' := 1092) dL_law_1091 rfl rfl rfl ?_
  refine l_iconst (pc' := 1093) dL_law_1092 rfl ?_
  refine l_iadd (pc' := 1094) dL_law_1093 rfl ?_
  obtain ⟨c3, c4, h⟩ := h
  refine l_sld (pc' := 1095) dL_law_1094 rfl c3 c4 hL ?_
  refine l_invV (q' := qX10_sure) (As := [vI (τ 1 (x3 + 1).toNat), vI (τ 1 (x3 + 2).toNat)]) (st := []) (pc' := 1098) dL_law_1095 rfl gX10_sure wm_1107 rfl rfl (by decide) kd_2 wm_1108 wm_1109 rfl (Nat.le_of_ble_eq_true rfl) (M0.mono h (fun v τ5 h => ?_))
  obtain ⟨r6, rfl, h⟩ := h
  show VL E qL_law 1098 [some (vR 1), some (vR 2), some (vR 140), some (vI x3)] [vI r6] τ5 Q
  refine l_aload_n (i := 2) (pc' := 1099) dL_law_1098 rfl rfl rfl ?_
  refine l_aload_n (i := 0) (pc' := 1100) dL_law_1099 rfl rfl rfl ?_
  refine l_iload_n (i := 3) (pc' := 1101) dL_law_1100 rfl rfl rfl ?_
  refine l_iconst (pc' := 1102) dL_law_1101 rfl ?_
  refine l_iadd (pc' := 1103) dL_law_1102 rfl ?_
  obtain ⟨c7, c8, h⟩ := h
  refine l_sld (pc' := 1104) dL_law_1103 rfl c7 c8 hL ?_
  refine l_aload_n (i := 0) (pc' := 1105) dL_law_1104 rfl rfl rfl ?_
  refine l_iload_n (i := 3) (pc' := 1106) dL_law_1105 rfl rfl rfl ?_
  refine l_iconst (pc' := 1107) dL_law_1106 rfl ?_
  refine l_iadd (pc' := 1108) dL_law_1107 rfl ?_
  obtain ⟨c9, c10, h⟩ := h
  refine l_sld (pc' := 1109) dL_law_1108 rfl c9 c10 hL ?_
  refine l_invV (q' := qX11_sure) (As := [vI (τ5 1 (x3 + 1).toNat), vI (τ5 1 (x3 + 2).toNat)]) (st := [vI r6]) (pc' := 1112) dL_law_1109 rfl gX11_sure wm_1910 rfl rfl (by decide) kd_140 wm_1911 wm_1912 rfl (Nat.le_of_ble_eq_true rfl) (M0.mono h (fun v τ11 h => ?_))
  obtain ⟨r12, rfl, h⟩ := h
  show VL E qL_law 1112 [some (vR 1), some (vR 2), some (vR 140), some (vI x3)] [vI r12, vI r6] τ11 Q
  obtain ⟨he, h⟩ := h
  subst he
  refine l_icmp_same (tgt := 1417) dL_law_1112 (by decide) ?_
  exact l_less (ls' := [some (vR 1), some (vR 2), some (vR 140), some (vI x3)]) ⟨rfl, ⟨rfl, ⟨rfl, ⟨rfl, trivial⟩⟩⟩⟩ h
set_option maxRecDepth 20000 in
theorem bL_law_1117 {E : mm_Env} {τ : mm_Mem} {Q : mm_Q0} (hL : E.2.2.2.2 ≤ 2147483647) {x3 : Int} (h : 0 ≤ (x3 + 1) ∧ (x3 + 1) < (E.2.2.2.2 : Int) ∧ 0 ≤ (x3 + 2) ∧ (x3 + 2) < (E.2.2.2.2 : Int) ∧ 0 ≤ (x3 + 3) ∧ (x3 + 3) < (E.2.2.2.2 : Int) ∧ M0 E 100 qX10_right [vR 2, vI (τ 1 (x3 + 1).toNat), vI (τ 1 (x3 + 2).toNat), vI (τ 1 (x3 + 3).toNat)] τ (fun v τ7 => ∃ r8 : Int, v = some (vI r8) ∧ 0 ≤ (x3 + 1) ∧ (x3 + 1) < (E.2.2.2.2 : Int) ∧ 0 ≤ (x3 + 2) ∧ (x3 + 2) < (E.2.2.2.2 : Int) ∧ 0 ≤ (x3 + 3) ∧ (x3 + 3) < (E.2.2.2.2 : Int) ∧ M0 E 100 qX11_right [vR 140, vI (τ7 1 (x3 + 1).toNat), vI (τ7 1 (x3 + 2).toNat), vI (τ7 1 (x3 + 3).toNat)] τ7 (fun v τ15 => ∃ r16 : Int, v = some (vI r16) ∧ r8 = r16 ∧ VL E qL_law 1417 [some (vR 1), some (vR 2), some (vR 140), some (vI x3)] [] τ15 Q))) : VL E qL_law 1117 [some (vR 1), some (vR 2), some (vR 140), some (vI x3)] [] τ Q := by
  refine l_aload_n (i := 1) (pc' := 1118) dL_law_1117 rfl rfl rfl ?_
  refine l_aload_n (i := 0) (pc' := 1119) dL_law_1118 rfl rfl rfl ?_
  refine l_iload_n (i := 3) (pc' := 1120) dL_law_1119 rfl rfl rfl ?_
  refine l_iconst (pc' := 1121) dL_law_1120 rfl ?_
  refine l_iadd (pc' := 1122) dL_law_1121 rfl ?_
  obtain ⟨c1, c2, h⟩ := h
  refine l_sld (pc' := 1123) dL_law_1122 rfl c1 c2 hL ?_
  refine l_aload_n (i := 0) (pc' := 1124) dL_law_1123 rfl rfl rfl ?_
  refine l_iload_n (i := 3) (pc' := 1125) dL_law_1124 rfl rfl rfl ?_
  refine l_iconst (pc' := 1126) dL_law_1125 rfl ?_
  refine l_iadd (pc' := 1127) dL_law_1126 rfl ?_
  obtain ⟨c3, c4, h⟩ := h
  refine l_sld (pc' := 1128) dL_law_1127 rfl c3 c4 hL ?_
  refine l_aload_n (i := 0) (pc' := 1129) dL_law_1128 rfl rfl rfl ?_
  refine l_iload_n (i := 3) (pc' := 1130) dL_law_1129 rfl rfl rfl ?_
  refine l_iconst (pc' := 1131) dL_law_1130 rfl ?_
  refine l_iadd (pc' := 1132) dL_law_1131 rfl ?_
  obtain ⟨c5, c6, h⟩ := h
  refine l_sld (pc' := 1133) dL_law_1132 rfl c5 c6 hL ?_
  refine l_invV (q' := qX10_right) (As := [vI (τ 1 (x3 + 1).toNat), vI (τ 1 (x3 + 2).toNat), vI (τ 1 (x3 + 3).toNat)]) (st := []) (pc' := 1136) dL_law_1133 rfl gX10_right wm_1119 rfl rfl (by decide) kd_2 wm_1120 wm_1121 rfl (Nat.le_of_ble_eq_true rfl) (M0.mono h (fun v τ7 h => ?_))
  obtain ⟨r8, rfl, h⟩ := h
  show VL E qL_law 1136 [some (vR 1), some (vR 2), some (vR 140), some (vI x3)] [vI r8] τ7 Q
  refine l_aload_n (i := 2) (pc' := 1137) dL_law_1136 rfl rfl rfl ?_
  refine l_aload_n (i := 0) (pc' := 1138) dL_law_1137 rfl rfl rfl ?_
  refine l_iload_n (i := 3) (pc' := 1139) dL_law_1138 rfl rfl rfl ?_
  refine l_iconst (pc' := 1140) dL_law_1139 rfl ?_
  refine l_iadd (pc' := 1141) dL_law_1140 rfl ?_
  obtain ⟨c9, c10, h⟩ := h
  refine l_sld (pc' := 1142) dL_law_1141 rfl c9 c10 hL ?_
  refine l_aload_n (i := 0) (pc' := 1143) dL_law_1142 rfl rfl rfl ?_
  refine l_iload_n (i := 3) (pc' := 1144) dL_law_1143 rfl rfl rfl ?_
  refine l_iconst (pc' := 1145) dL_law_1144 rfl ?_
  refine l_iadd (pc' := 1146) dL_law_1145 rfl ?_
  obtain ⟨c11, c12, h⟩ := h
  refine l_sld (pc' := 1147) dL_law_1146 rfl c11 c12 hL ?_
  refine l_aload_n (i := 0) (pc' := 1148) dL_law_1147 rfl rfl rfl ?_
  refine l_iload_n (i := 3) (pc' := 1149) dL_law_1148 rfl rfl rfl ?_
  refine l_iconst (pc' := 1150) dL_law_1149 rfl ?_
  refine l_iadd (pc' := 1151) dL_law_1150 rfl ?_
  obtain ⟨c13, c14, h⟩ := h
  refine l_sld (pc' := 1152) dL_law_1151 rfl c13 c14 hL ?_
  refine l_invV (q' := qX11_right) (As := [vI (τ7 1 (x3 + 1).toNat), vI (τ7 1 (x3 + 2).toNat), vI (τ7 1 (x3 + 3).toNat)]) (st := [vI r8]) (pc' := 1155) dL_law_1152 rfl gX11_right wm_1918 rfl rfl (by decide) kd_140 wm_1919 wm_1920 rfl (Nat.le_of_ble_eq_true rfl) (M0.mono h (fun v τ15 h => ?_))
  obtain ⟨r16, rfl, h⟩ := h
  show VL E qL_law 1155 [some (vR 1), some (vR 2), some (vR 140), some (vI x3)] [vI r16, vI r8] τ15 Q
  obtain ⟨he, h⟩ := h
  subst he
  refine l_icmp_same (tgt := 1417) dL_law_1155 (by decide) ?_
  exact l_less (ls' := [some (vR 1), some (vR 2), some (vR 140), some (vI x3)]) ⟨rfl, ⟨rfl, ⟨rfl, ⟨rfl, trivial⟩⟩⟩⟩ h
set_option maxRecDepth 20000 in
theorem bL_law_1160 {E : mm_Env} {τ : mm_Mem} {Q : mm_Q0} (hL : E.2.2.2.2 ≤ 2147483647) {x3 : Int} (h : 0 ≤ (x3 + 1) ∧ (x3 + 1) < (E.2.2.2.2 : Int) ∧ 0 ≤ (x3 + 2) ∧ (x3 + 2) < (E.2.2.2.2 : Int) ∧ 0 ≤ (x3 + 3) ∧ (x3 + 3) < (E.2.2.2.2 : Int) ∧ M0 E 100 qX10_same [vR 2, vI (τ 1 (x3 + 1).toNat), vI (τ 1 (x3 + 2).toNat), vI (τ 1 (x3 + 3).toNat)] τ (fun v τ7 => ∃ r8 : Int, v = some (vI r8) ∧ 0 ≤ (x3 + 1) ∧ (x3 + 1) < (E.2.2.2.2 : Int) ∧ 0 ≤ (x3 + 2) ∧ (x3 + 2) < (E.2.2.2.2 : Int) ∧ 0 ≤ (x3 + 3) ∧ (x3 + 3) < (E.2.2.2.2 : Int) ∧ M0 E 100 qX11_same [vR 140, vI (τ7 1 (x3 + 1).toNat), vI (τ7 1 (x3 + 2).toNat), vI (τ7 1 (x3 + 3).toNat)] τ7 (fun v τ15 => ∃ r16 : Int, v = some (vI r16) ∧ r8 = r16 ∧ VL E qL_law 1417 [some (vR 1), some (vR 2), some (vR 140), some (vI x3)] [] τ15 Q))) : VL E qL_law 1160 [some (vR 1), some (vR 2), some (vR 140), some (vI x3)] [] τ Q := by
  refine l_aload_n (i := 1) (pc' := 1161) dL_law_1160 rfl rfl rfl ?_
  refine l_aload_n (i := 0) (pc' := 1162) dL_law_1161 rfl rfl rfl ?_
  refine l_iload_n (i := 3) (pc' := 1163) dL_law_1162 rfl rfl rfl ?_
  refine l_iconst (pc' := 1164) dL_law_1163 rfl ?_
  refine l_iadd (pc' := 1165) dL_law_1164 rfl ?_
  obtain ⟨c1, c2, h⟩ := h
  refine l_sld (pc' := 1166) dL_law_1165 rfl c1 c2 hL ?_
  refine l_aload_n (i := 0) (pc' := 1167) dL_law_1166 rfl rfl rfl ?_
  refine l_iload_n (i := 3) (pc' := 1168) dL_law_1167 rfl rfl rfl ?_
  refine l_iconst (pc' := 1169) dL_law_1168 rfl ?_
  refine l_iadd (pc' := 1170) dL_law_1169 rfl ?_
  obtain ⟨c3, c4, h⟩ := h
  refine l_sld (pc' := 1171) dL_law_1170 rfl c3 c4 hL ?_
  refine l_aload_n (i := 0) (pc' := 1172) dL_law_1171 rfl rfl rfl ?_
  refine l_iload_n (i := 3) (pc' := 1173) dL_law_1172 rfl rfl rfl ?_
  refine l_iconst (pc' := 1174) dL_law_1173 rfl ?_
  refine l_iadd (pc' := 1175) dL_law_1174 rfl ?_
  obtain ⟨c5, c6, h⟩ := h
  refine l_sld (pc' := 1176) dL_law_1175 rfl c5 c6 hL ?_
  refine l_invV (q' := qX10_same) (As := [vI (τ 1 (x3 + 1).toNat), vI (τ 1 (x3 + 2).toNat), vI (τ 1 (x3 + 3).toNat)]) (st := []) (pc' := 1179) dL_law_1176 rfl gX10_same wm_1125 rfl rfl (by decide) kd_2 wm_1126 wm_1127 rfl (Nat.le_of_ble_eq_true rfl) (M0.mono h (fun v τ7 h => ?_))
  obtain ⟨r8, rfl, h⟩ := h
  show VL E qL_law 1179 [some (vR 1), some (vR 2), some (vR 140), some (vI x3)] [vI r8] τ7 Q
  refine l_aload_n (i := 2) (pc' := 1180) dL_law_1179 rfl rfl rfl ?_
  refine l_aload_n (i := 0) (pc' := 1181) dL_law_1180 rfl rfl rfl ?_
  refine l_iload_n (i := 3) (pc' := 1182) dL_law_1181 rfl rfl rfl ?_
  refine l_iconst (pc' := 1183) dL_law_1182 rfl ?_
  refine l_iadd (pc' := 1184) dL_law_1183 rfl ?_
  obtain ⟨c9, c10, h⟩ := h
  refine l_sld (pc' := 1185) dL_law_1184 rfl c9 c10 hL ?_
  refine l_aload_n (i := 0) (pc' := 1186) dL_law_1185 rfl rfl rfl ?_
  refine l_iload_n (i := 3) (pc' := 1187) dL_law_1186 rfl rfl rfl ?_
  refine l_iconst (pc' := 1188) dL_law_1187 rfl ?_
  refine l_iadd (pc' := 1189) dL_law_1188 rfl ?_
  obtain ⟨c11, c12, h⟩ := h
  refine l_sld (pc' := 1190) dL_law_1189 rfl c11 c12 hL ?_
  refine l_aload_n (i := 0) (pc' := 1191) dL_law_1190 rfl rfl rfl ?_
  refine l_iload_n (i := 3) (pc' := 1192) dL_law_1191 rfl rfl rfl ?_
  refine l_iconst (pc' := 1193) dL_law_1192 rfl ?_
  refine l_iadd (pc' := 1194) dL_law_1193 rfl ?_
  obtain ⟨c13, c14, h⟩ := h
  refine l_sld (pc' := 1195) dL_law_1194 rfl c13 c14 hL ?_
  refine l_invV (q' := qX11_same) (As := [vI (τ7 1 (x3 + 1).toNat), vI (τ7 1 (x3 + 2).toNat), vI (τ7 1 (x3 + 3).toNat)]) (st := [vI r8]) (pc' := 1198) dL_law_1195 rfl gX11_same wm_1922 rfl rfl (by decide) kd_140 wm_1923 wm_1924 rfl (Nat.le_of_ble_eq_true rfl) (M0.mono h (fun v τ15 h => ?_))
  obtain ⟨r16, rfl, h⟩ := h
  show VL E qL_law 1198 [some (vR 1), some (vR 2), some (vR 140), some (vI x3)] [vI r16, vI r8] τ15 Q
  obtain ⟨he, h⟩ := h
  subst he
  refine l_icmp_same (tgt := 1417) dL_law_1198 (by decide) ?_
  exact l_less (ls' := [some (vR 1), some (vR 2), some (vR 140), some (vI x3)]) ⟨rfl, ⟨rfl, ⟨rfl, ⟨rfl, trivial⟩⟩⟩⟩ h
set_option maxRecDepth 20000 in
theorem bL_law_1203 {E : mm_Env} {τ : mm_Mem} {Q : mm_Q0} (hL : E.2.2.2.2 ≤ 2147483647) {x3 : Int} (h : 0 ≤ (x3 + 1) ∧ (x3 + 1) < (E.2.2.2.2 : Int) ∧ 0 ≤ (x3 + 2) ∧ (x3 + 2) < (E.2.2.2.2 : Int) ∧ 0 ≤ (x3 + 3) ∧ (x3 + 3) < (E.2.2.2.2 : Int) ∧ M0 E 100 qX10_tells [vR 2, vI (τ 1 (x3 + 1).toNat), vI (τ 1 (x3 + 2).toNat), vI (τ 1 (x3 + 3).toNat)] τ (fun v τ7 => ∃ r8 : Int, v = some (vI r8) ∧ 0 ≤ (x3 + 1) ∧ (x3 + 1) < (E.2.2.2.2 : Int) ∧ 0 ≤ (x3 + 2) ∧ (x3 + 2) < (E.2.2.2.2 : Int) ∧ 0 ≤ (x3 + 3) ∧ (x3 + 3) < (E.2.2.2.2 : Int) ∧ M0 E 100 qX11_tells [vR 140, vI (τ7 1 (x3 + 1).toNat), vI (τ7 1 (x3 + 2).toNat), vI (τ7 1 (x3 + 3).toNat)] τ7 (fun v τ15 => ∃ r16 : Int, v = some (vI r16) ∧ r8 = r16 ∧ VL E qL_law 1417 [some (vR 1), some (vR 2), some (vR 140), some (vI x3)] [] τ15 Q))) : VL E qL_law 1203 [some (vR 1), some (vR 2), some (vR 140), some (vI x3)] [] τ Q := by
  refine l_aload_n (i := 1) (pc' := 1204) dL_law_1203 rfl rfl rfl ?_
  refine l_aload_n (i := 0) (pc' := 1205) dL_law_1204 rfl rfl rfl ?_
  refine l_iload_n (i := 3) (pc' := 1206) dL_law_1205 rfl rfl rfl ?_
  refine l_iconst (pc' := 1207) dL_law_1206 rfl ?_
  refine l_iadd (pc' := 1208) dL_law_1207 rfl ?_
  obtain ⟨c1, c2, h⟩ := h
  refine l_sld (pc' := 1209) dL_law_1208 rfl c1 c2 hL ?_
  refine l_aload_n (i := 0) (pc' := 1210) dL_law_1209 rfl rfl rfl ?_
  refine l_iload_n (i := 3) (pc' := 1211) dL_law_1210 rfl rfl rfl ?_
  refine l_iconst (pc' := 1212) dL_law_1211 rfl ?_
  refine l_iadd (pc' := 1213) dL_law_1212 rfl ?_
  obtain ⟨c3, c4, h⟩ := h
  refine l_sld (pc' := 1214) dL_law_1213 rfl c3 c4 hL ?_
  refine l_aload_n (i := 0) (pc' := 1215) dL_law_1214 rfl rfl rfl ?_
  refine l_iload_n (i := 3) (pc' := 1216) dL_law_1215 rfl rfl rfl ?_
  refine l_iconst (pc' := 1217) dL_law_1216 rfl ?_
  refine l_iadd (pc' := 1218) dL_law_1217 rfl ?_
  obtain ⟨c5, c6, h⟩ := h
  refine l_sld (pc' := 1219) dL_law_1218 rfl c5 c6 hL ?_
  refine l_invV (q' := qX10_tells) (As := [vI (τ 1 (x3 + 1).toNat), vI (τ 1 (x3 + 2).toNat), vI (τ 1 (x3 + 3).toNat)]) (st := []) (pc' := 1222) dL_law_1219 rfl gX10_tells wm_1138 rfl rfl (by decide) kd_2 wm_1139 wm_1140 rfl (Nat.le_of_ble_eq_true rfl) (M0.mono h (fun v τ7 h => ?_))
  obtain ⟨r8, rfl, h⟩ := h
  show VL E qL_law 1222 [some (vR 1), some (vR 2), some (vR 140), some (vI x3)] [vI r8] τ7 Q
  refine l_aload_n (i := 2) (pc' := 1223) dL_law_1222 rfl rfl rfl ?_
  refine l_aload_n (i := 0) (pc' := 1224) dL_law_1223 rfl rfl rfl ?_
  refine l_iload_n (i := 3) (pc' := 1225) dL_law_1224 rfl rfl rfl ?_
  refine l_iconst (pc' := 1226) dL_law_1225 rfl ?_
  refine l_iadd (pc' := 1227) dL_law_1226 rfl ?_
  obtain ⟨c9, c10, h⟩ := h
  refine l_sld (pc' := 1228) dL_law_1227 rfl c9 c10 hL ?_
  refine l_aload_n (i := 0) (pc' := 1229) dL_law_1228 rfl rfl rfl ?_
  refine l_iload_n (i := 3) (pc' := 1230) dL_law_1229 rfl rfl rfl ?_
  refine l_iconst (pc' := 1231) dL_law_1230 rfl ?_
  refine l_iadd (pc' := 1232) dL_law_1231 rfl ?_
  obtain ⟨c11, c12, h⟩ := h
  refine l_sld (pc' := 1233) dL_law_1232 rfl c11 c12 hL ?_
  refine l_aload_n (i := 0) (pc' := 1234) dL_law_1233 rfl rfl rfl ?_
  refine l_iload_n (i := 3) (pc' := 1235) dL_law_1234 rfl rfl rfl ?_
  refine l_iconst (pc' := 1236) dL_law_1235 rfl ?_
  refine l_iadd (pc' := 1237) dL_law_1236 rfl ?_
  obtain ⟨c13, c14, h⟩ := h
  refine l_sld (pc' := 1238) dL_law_1237 rfl c13 c14 hL ?_
  refine l_invV (q' := qX11_tells) (As := [vI (τ7 1 (x3 + 1).toNat), vI (τ7 1 (x3 + 2).toNat), vI (τ7 1 (x3 + 3).toNat)]) (st := [vI r8]) (pc' := 1241) dL_law_1238 rfl gX11_tells wm_1926 rfl rfl (by decide) kd_140 wm_1927 wm_1928 rfl (Nat.le_of_ble_eq_true rfl) (M0.mono h (fun v τ15 h => ?_))
  obtain ⟨r16, rfl, h⟩ := h
  show VL E qL_law 1241 [some (vR 1), some (vR 2), some (vR 140), some (vI x3)] [vI r16, vI r8] τ15 Q
  obtain ⟨he, h⟩ := h
  subst he
  refine l_icmp_same (tgt := 1417) dL_law_1241 (by decide) ?_
  exact l_less (ls' := [some (vR 1), some (vR 2), some (vR 140), some (vI x3)]) ⟨rfl, ⟨rfl, ⟨rfl, ⟨rfl, trivial⟩⟩⟩⟩ h
set_option maxRecDepth 20000 in
theorem bL_law_1246 {E : mm_Env} {τ : mm_Mem} {Q : mm_Q0} (hL : E.2.2.2.2 ≤ 2147483647) {x3 : Int} (h : 0 ≤ (x3 + 1) ∧ (x3 + 1) < (E.2.2.2.2 : Int) ∧ 0 ≤ (x3 + 2) ∧ (x3 + 2) < (E.2.2.2.2 : Int) ∧ 0 ≤ (x3 + 3) ∧ (x3 + 3) < (E.2.2.2.2 : Int) ∧ 0 ≤ (x3 + 4) ∧ (x3 + 4) < (E.2.2.2.2 : Int) ∧ M0 E 100 qX10_bird [vR 2, vI (τ 1 (x3 + 1).toNat), vI (τ 1 (x3 + 2).toNat), vI (τ 1 (x3 + 3).toNat), vI (τ 1 (x3 + 4).toNat)] τ (fun v τ9 => ∃ r10 : Int, v = some (vI r10) ∧ 0 ≤ (x3 + 1) ∧ (x3 + 1) < (E.2.2.2.2 : Int) ∧ 0 ≤ (x3 + 2) ∧ (x3 + 2) < (E.2.2.2.2 : Int) ∧ 0 ≤ (x3 + 3) ∧ (x3 + 3) < (E.2.2.2.2 : Int) ∧ 0 ≤ (x3 + 4) ∧ (x3 + 4) < (E.2.2.2.2 : Int) ∧ M0 E 100 qX11_bird [vR 140, vI (τ9 1 (x3 + 1).toNat), vI (τ9 1 (x3 + 2).toNat), vI (τ9 1 (x3 + 3).toNat), vI (τ9 1 (x3 + 4).toNat)] τ9 (fun v τ19 => ∃ r20 : Int, v = some (vI r20) ∧ r10 = r20 ∧ VL E qL_law 1417 [some (vR 1), some (vR 2), some (vR 140), some (vI x3)] [] τ19 Q))) : VL E qL_law 1246 [some (vR 1), some (vR 2), some (vR 140), some (vI x3)] [] τ Q := by
  refine l_aload_n (i := 1) (pc' := 1247) dL_law_1246 rfl rfl rfl ?_
  refine l_aload_n (i := 0) (pc' := 1248) dL_law_1247 rfl rfl rfl ?_
  refine l_iload_n (i := 3) (pc' := 1249) dL_law_1248 rfl rfl rfl ?_
  refine l_iconst (pc' := 1250) dL_law_1249 rfl ?_
  refine l_iadd (pc' := 1251) dL_law_1250 rfl ?_
  obtain ⟨c1, c2, h⟩ := h
  refine l_sld (pc' := 1252) dL_law_1251 rfl c1 c2 hL ?_
  refine l_aload_n (i := 0) (pc' := 1253) dL_law_1252 rfl rfl rfl ?_
  refine l_iload_n (i := 3) (pc' := 1254) dL_law_1253 rfl rfl rfl ?_
  refine l_iconst (pc' := 1255) dL_law_1254 rfl ?_
  refine l_iadd (pc' := 1256) dL_law_1255 rfl ?_
  obtain ⟨c3, c4, h⟩ := h
  refine l_sld (pc' := 1257) dL_law_1256 rfl c3 c4 hL ?_
  refine l_aload_n (i := 0) (pc' := 1258) dL_law_1257 rfl rfl rfl ?_
  refine l_iload_n (i := 3) (pc' := 1259) dL_law_1258 rfl rfl rfl ?_
  refine l_iconst (pc' := 1260) dL_law_1259 rfl ?_
  refine l_iadd (pc' := 1261) dL_law_1260 rfl ?_
  obtain ⟨c5, c6, h⟩ := h
  refine l_sld (pc' := 1262) dL_law_1261 rfl c5 c6 hL ?_
  refine l_aload_n (i := 0) (pc' := 1263) dL_law_1262 rfl rfl rfl ?_
  refine l_iload_n (i := 3) (pc' := 1264) dL_law_1263 rfl rfl rfl ?_
  refine l_iconst (pc' := 1265) dL_law_1264 rfl ?_
  refine l_iadd (pc' := 1266) dL_law_1265 rfl ?_
  obtain ⟨c7, c8, h⟩ := h
  refine l_sld (pc' := 1267) dL_law_1266 rfl c7 c8 hL ?_
  refine l_invV (q' := qX10_bird) (As := [vI (τ 1 (x3 + 1).toNat), vI (τ 1 (x3 + 2).toNat), vI (τ 1 (x3 + 3).toNat), vI (τ 1 (x3 + 4).toNat)]) (st := []) (pc' := 1270) dL_law_1267 rfl gX10_bird wm_1142 rfl rfl (by decide) kd_2 wm_1143 wm_1144 rfl (Nat.le_of_ble_eq_true rfl) (M0.mono h (fun v τ9 h => ?_))
  obtain ⟨r10, rfl, h⟩ := h
  show VL E qL_law 1270 [some (vR 1), some (vR 2), some (vR 140), some (vI x3)] [vI r10] τ9 Q
  refine l_aload_n (i := 2) (pc' := 1271) dL_law_1270 rfl rfl rfl ?_
  refine l_aload_n (i := 0) (pc' := 1272) dL_law_1271 rfl rfl rfl ?_
  refine l_iload_n (i := 3) (pc' := 1273) dL_law_1272 rfl rfl rfl ?_
  refine l_iconst (pc' := 1274) dL_law_1273 rfl ?_
  refine l_iadd (pc' := 1275) dL_law_1274 rfl ?_
  obtain ⟨c11, c12, h⟩ := h
  refine l_sld (pc' := 1276) dL_law_1275 rfl c11 c12 hL ?_
  refine l_aload_n (i := 0) (pc' := 1277) dL_law_1276 rfl rfl rfl ?_
  refine l_iload_n (i := 3) (pc' := 1278) dL_law_1277 rfl rfl rfl ?_
  refine l_iconst (pc' := 1279) dL_law_1278 rfl ?_
  refine l_iadd (pc' := 1280) dL_law_1279 rfl ?_
  obtain ⟨c13, c14, h⟩ := h
  refine l_sld (pc' := 1281) dL_law_1280 rfl c13 c14 hL ?_
  refine l_aload_n (i := 0) (pc' := 1282) dL_law_1281 rfl rfl rfl ?_
  refine l_iload_n (i := 3) (pc' := 1283) dL_law_1282 rfl rfl rfl ?_
  refine l_iconst (pc' := 1284) dL_law_1283 rfl ?_
  refine l_iadd (pc' := 1285) dL_law_1284 rfl ?_
  obtain ⟨c15, c16, h⟩ := h
  refine l_sld (pc' := 1286) dL_law_1285 rfl c15 c16 hL ?_
  refine l_aload_n (i := 0) (pc' := 1287) dL_law_1286 rfl rfl rfl ?_
  refine l_iload_n (i := 3) (pc' := 1288) dL_law_1287 rfl rfl rfl ?_
  refine l_iconst (pc' := 1289) dL_law_1288 rfl ?_
  refine l_iadd (pc' := 1290) dL_law_1289 rfl ?_
  obtain ⟨c17, c18, h⟩ := h
  refine l_sld (pc' := 1291) dL_law_1290 rfl c17 c18 hL ?_
  refine l_invV (q' := qX11_bird) (As := [vI (τ9 1 (x3 + 1).toNat), vI (τ9 1 (x3 + 2).toNat), vI (τ9 1 (x3 + 3).toNat), vI (τ9 1 (x3 + 4).toNat)]) (st := [vI r10]) (pc' := 1294) dL_law_1291 rfl gX11_bird wm_1930 rfl rfl (by decide) kd_140 wm_1931 wm_1932 rfl (Nat.le_of_ble_eq_true rfl) (M0.mono h (fun v τ19 h => ?_))
  obtain ⟨r20, rfl, h⟩ := h
  show VL E qL_law 1294 [some (vR 1), some (vR 2), some (vR 140), some (vI x3)] [vI r20, vI r10] τ19 Q
  obtain ⟨he, h⟩ := h
  subst he
  refine l_icmp_same (tgt := 1417) dL_law_1294 (by decide) ?_
  exact l_less (ls' := [some (vR 1), some (vR 2), some (vR 140), some (vI x3)]) ⟨rfl, ⟨rfl, ⟨rfl, ⟨rfl, trivial⟩⟩⟩⟩ h
set_option maxRecDepth 20000 in
theorem bL_law_1299 {E : mm_Env} {τ : mm_Mem} {Q : mm_Q0} (hL : E.2.2.2.2 ≤ 2147483647) {x3 : Int} (h : 0 ≤ (x3 + 1) ∧ (x3 + 1) < (E.2.2.2.2 : Int) ∧ M0 E 100 qX10_nights [vR 2, vI (τ 1 (x3 + 1).toNat)] τ (fun v τ3 => ∃ r4 : Int, v = some (vI r4) ∧ 0 ≤ (x3 + 1) ∧ (x3 + 1) < (E.2.2.2.2 : Int) ∧ M0 E 100 qX11_nights [vR 140, vI (τ3 1 (x3 + 1).toNat)] τ3 (fun v τ7 => ∃ r8 : Int, v = some (vI r8) ∧ r4 = r8 ∧ VL E qL_law 1417 [some (vR 1), some (vR 2), some (vR 140), some (vI x3)] [] τ7 Q))) : VL E qL_law 1299 [some (vR 1), some (vR 2), some (vR 140), some (vI x3)] [] τ Q := by
  refine l_aload_n (i := 1) (pc' := 1300) dL_law_1299 rfl rfl rfl ?_
  refine l_aload_n (i := 0) (pc' := 1301) dL_law_1300 rfl rfl rfl ?_
  refine l_iload_n (i := 3) (pc' := 1302) dL_law_1301 rfl rfl rfl ?_
  refine l_iconst (pc' := 1303) dL_law_1302 rfl ?_
  refine l_iadd (pc' := 1304) dL_law_1303 rfl ?_
  obtain ⟨c1, c2, h⟩ := h
  refine l_sld (pc' := 1305) dL_law_1304 rfl c1 c2 hL ?_
  refine l_invV (q' := qX10_nights) (As := [vI (τ 1 (x3 + 1).toNat)]) (st := []) (pc' := 1308) dL_law_1305 rfl gX10_nights wm_1146 rfl rfl (by decide) kd_2 wm_1147 wm_1148 rfl (Nat.le_of_ble_eq_true rfl) (M0.mono h (fun v τ3 h => ?_))
  obtain ⟨r4, rfl, h⟩ := h
  show VL E qL_law 1308 [some (vR 1), some (vR 2), some (vR 140), some (vI x3)] [vI r4] τ3 Q
  refine l_aload_n (i := 2) (pc' := 1309) dL_law_1308 rfl rfl rfl ?_
  refine l_aload_n (i := 0) (pc' := 1310) dL_law_1309 rfl rfl rfl ?_
  refine l_iload_n (i := 3) (pc' := 1311) dL_law_1310 rfl rfl rfl ?_
  refine l_iconst (pc' := 1312) dL_law_1311 rfl ?_
  refine l_iadd (pc' := 1313) dL_law_1312 rfl ?_
  obtain ⟨c5, c6, h⟩ := h
  refine l_sld (pc' := 1314) dL_law_1313 rfl c5 c6 hL ?_
  refine l_invV (q' := qX11_nights) (As := [vI (τ3 1 (x3 + 1).toNat)]) (st := [vI r4]) (pc' := 1317) dL_law_1314 rfl gX11_nights wm_1934 rfl rfl (by decide) kd_140 wm_1935 wm_1936 rfl (Nat.le_of_ble_eq_true rfl) (M0.mono h (fun v τ7 h => ?_))
  obtain ⟨r8, rfl, h⟩ := h
  show VL E qL_law 1317 [some (vR 1), some (vR 2), some (vR 140), some (vI x3)] [vI r8, vI r4] τ7 Q
  obtain ⟨he, h⟩ := h
  subst he
  refine l_icmp_same (tgt := 1417) dL_law_1317 (by decide) ?_
  exact l_less (ls' := [some (vR 1), some (vR 2), some (vR 140), some (vI x3)]) ⟨rfl, ⟨rfl, ⟨rfl, ⟨rfl, trivial⟩⟩⟩⟩ h
set_option maxRecDepth 20000 in
theorem bL_law_1322 {E : mm_Env} {τ : mm_Mem} {Q : mm_Q0} (hL : E.2.2.2.2 ≤ 2147483647) {x3 : Int} (h : 0 ≤ (x3 + 1) ∧ (x3 + 1) < (E.2.2.2.2 : Int) ∧ M0 E 100 qX10_seed [vR 2, vI (τ 1 (x3 + 1).toNat)] τ (fun v τ3 => ∃ b4 : Bool, v = some (vB b4) ∧ 0 ≤ (x3 + 1) ∧ (x3 + 1) < (E.2.2.2.2 : Int) ∧ M0 E 100 qX11_seed [vR 140, vI (τ3 1 (x3 + 1).toNat)] τ3 (fun v τ7 => ∃ b8 : Bool, v = some (vB b8) ∧ b4 = b8 ∧ VL E qL_law 1417 [some (vR 1), some (vR 2), some (vR 140), some (vI x3)] [] τ7 Q))) : VL E qL_law 1322 [some (vR 1), some (vR 2), some (vR 140), some (vI x3)] [] τ Q := by
  refine l_aload_n (i := 1) (pc' := 1323) dL_law_1322 rfl rfl rfl ?_
  refine l_aload_n (i := 0) (pc' := 1324) dL_law_1323 rfl rfl rfl ?_
  refine l_iload_n (i := 3) (pc' := 1325) dL_law_1324 rfl rfl rfl ?_
  refine l_iconst (pc' := 1326) dL_law_1325 rfl ?_
  refine l_iadd (pc' := 1327) dL_law_1326 rfl ?_
  obtain ⟨c1, c2, h⟩ := h
  refine l_sld (pc' := 1328) dL_law_1327 rfl c1 c2 hL ?_
  refine l_invV (q' := qX10_seed) (As := [vI (τ 1 (x3 + 1).toNat)]) (st := []) (pc' := 1331) dL_law_1328 rfl gX10_seed wm_1163 rfl rfl (by decide) kd_2 wm_1164 wm_1165 rfl (Nat.le_of_ble_eq_true rfl) (M0.mono h (fun v τ3 h => ?_))
  obtain ⟨b4, rfl, h⟩ := h
  show VL E qL_law 1331 [some (vR 1), some (vR 2), some (vR 140), some (vI x3)] [vB b4] τ3 Q
  refine l_aload_n (i := 2) (pc' := 1332) dL_law_1331 rfl rfl rfl ?_
  refine l_aload_n (i := 0) (pc' := 1333) dL_law_1332 rfl rfl rfl ?_
  refine l_iload_n (i := 3) (pc' := 1334) dL_law_1333 rfl rfl rfl ?_
  refine l_iconst (pc' := 1335) dL_law_1334 rfl ?_
  refine l_iadd (pc' := 1336) dL_law_1335 rfl ?_
  obtain ⟨c5, c6, h⟩ := h
  refine l_sld (pc' := 1337) dL_law_1336 rfl c5 c6 hL ?_
  refine l_invV (q' := qX11_seed) (As := [vI (τ3 1 (x3 + 1).toNat)]) (st := [vB b4]) (pc' := 1340) dL_law_1337 rfl gX11_seed wm_1950 rfl rfl (by decide) kd_140 wm_1951 wm_1952 rfl (Nat.le_of_ble_eq_true rfl) (M0.mono h (fun v τ7 h => ?_))
  obtain ⟨b8, rfl, h⟩ := h
  show VL E qL_law 1340 [some (vR 1), some (vR 2), some (vR 140), some (vI x3)] [vB b8, vB b4] τ7 Q
  obtain ⟨he, h⟩ := h
  subst he
  refine l_icmp_same (tgt := 1417) dL_law_1340 (by decide) ?_
  exact l_less (ls' := [some (vR 1), some (vR 2), some (vR 140), some (vI x3)]) ⟨rfl, ⟨rfl, ⟨rfl, ⟨rfl, trivial⟩⟩⟩⟩ h
set_option maxRecDepth 20000 in
theorem bL_law_1345 {E : mm_Env} {τ : mm_Mem} {Q : mm_Q0} (hL : E.2.2.2.2 ≤ 2147483647) {x3 : Int} (h : M0 E 100 qX10_image [vR 2] τ (fun v τ1 => ∃ r2 : Int, v = some (vI r2) ∧ M0 E 100 qX11_image [vR 140] τ1 (fun v τ3 => ∃ r4 : Int, v = some (vI r4) ∧ r2 = r4 ∧ VL E qL_law 1417 [some (vR 1), some (vR 2), some (vR 140), some (vI x3)] [] τ3 Q))) : VL E qL_law 1345 [some (vR 1), some (vR 2), some (vR 140), some (vI x3)] [] τ Q := by
  refine l_aload_n (i := 1) (pc' := 1346) dL_law_1345 rfl rfl rfl ?_
  refine l_invV (q' := qX10_image) (As := []) (st := []) (pc' := 1349) dL_law_1346 rfl gX10_image wm_1167 rfl rfl (by decide) kd_2 wm_1168 wm_1169 rfl (Nat.le_of_ble_eq_true rfl) (M0.mono h (fun v τ1 h => ?_))
  obtain ⟨r2, rfl, h⟩ := h
  show VL E qL_law 1349 [some (vR 1), some (vR 2), some (vR 140), some (vI x3)] [vI r2] τ1 Q
  refine l_aload_n (i := 2) (pc' := 1350) dL_law_1349 rfl rfl rfl ?_
  refine l_invV (q' := qX11_image) (As := []) (st := [vI r2]) (pc' := 1353) dL_law_1350 rfl gX11_image wm_1954 rfl rfl (by decide) kd_140 wm_1955 wm_1956 rfl (Nat.le_of_ble_eq_true rfl) (M0.mono h (fun v τ3 h => ?_))
  obtain ⟨r4, rfl, h⟩ := h
  show VL E qL_law 1353 [some (vR 1), some (vR 2), some (vR 140), some (vI x3)] [vI r4, vI r2] τ3 Q
  obtain ⟨he, h⟩ := h
  subst he
  refine l_icmp_same (tgt := 1417) dL_law_1353 (by decide) ?_
  exact l_less (ls' := [some (vR 1), some (vR 2), some (vR 140), some (vI x3)]) ⟨rfl, ⟨rfl, ⟨rfl, ⟨rfl, trivial⟩⟩⟩⟩ h
set_option maxRecDepth 20000 in
theorem bL_law_1358 {E : mm_Env} {τ : mm_Mem} {Q : mm_Q0} (hL : E.2.2.2.2 ≤ 2147483647) {x3 : Int} (h : 0 ≤ (x3 + 1) ∧ (x3 + 1) < (E.2.2.2.2 : Int) ∧ M0 E 100 qX10_octet [vR 2, vI (τ 1 (x3 + 1).toNat)] τ (fun v τ3 => ∃ r4 : Int, v = some (vI r4) ∧ 0 ≤ (x3 + 1) ∧ (x3 + 1) < (E.2.2.2.2 : Int) ∧ M0 E 100 qX11_octet [vR 140, vI (τ3 1 (x3 + 1).toNat)] τ3 (fun v τ7 => ∃ r8 : Int, v = some (vI r8) ∧ r4 = r8 ∧ VL E qL_law 1417 [some (vR 1), some (vR 2), some (vR 140), some (vI x3)] [] τ7 Q))) : VL E qL_law 1358 [some (vR 1), some (vR 2), some (vR 140), some (vI x3)] [] τ Q := by
  refine l_aload_n (i := 1) (pc' := 1359) dL_law_1358 rfl rfl rfl ?_
  refine l_aload_n (i := 0) (pc' := 1360) dL_law_1359 rfl rfl rfl ?_
  refine l_iload_n (i := 3) (pc' := 1361) dL_law_1360 rfl rfl rfl ?_
  refine l_iconst (pc' := 1362) dL_law_1361 rfl ?_
  refine l_iadd (pc' := 1363) dL_law_1362 rfl ?_
  obtain ⟨c1, c2, h⟩ := h
  refine l_sld (pc' := 1364) dL_law_1363 rfl c1 c2 hL ?_
  refine l_invV (q' := qX10_octet) (As := [vI (τ 1 (x3 + 1).toNat)]) (st := []) (pc' := 1367) dL_law_1364 rfl gX10_octet wm_1182 rfl rfl (by decide) kd_2 wm_1183 wm_1184 rfl (Nat.le_of_ble_eq_true rfl) (M0.mono h (fun v τ3 h => ?_))
  obtain ⟨r4, rfl, h⟩ := h
  show VL E qL_law 1367 [some (vR 1), some (vR 2), some (vR 140), some (vI x3)] [vI r4] τ3 Q
  refine l_aload_n (i := 2) (pc' := 1368) dL_law_1367 rfl rfl rfl ?_
  refine l_aload_n (i := 0) (pc' := 1369) dL_law_1368 rfl rfl rfl ?_
  refine l_iload_n (i := 3) (pc' := 1370) dL_law_1369 rfl rfl rfl ?_
  refine l_iconst (pc' := 1371) dL_law_1370 rfl ?_
  refine l_iadd (pc' := 1372) dL_law_1371 rfl ?_
  obtain ⟨c5, c6, h⟩ := h
  refine l_sld (pc' := 1373) dL_law_1372 rfl c5 c6 hL ?_
  refine l_invV (q' := qX11_octet) (As := [vI (τ3 1 (x3 + 1).toNat)]) (st := [vI r4]) (pc' := 1376) dL_law_1373 rfl gX11_octet wm_1966 rfl rfl (by decide) kd_140 wm_1967 wm_1968 rfl (Nat.le_of_ble_eq_true rfl) (M0.mono h (fun v τ7 h => ?_))
  obtain ⟨r8, rfl, h⟩ := h
  show VL E qL_law 1376 [some (vR 1), some (vR 2), some (vR 140), some (vI x3)] [vI r8, vI r4] τ7 Q
  obtain ⟨he, h⟩ := h
  subst he
  refine l_icmp_same (tgt := 1417) dL_law_1376 (by decide) ?_
  exact l_less (ls' := [some (vR 1), some (vR 2), some (vR 140), some (vI x3)]) ⟨rfl, ⟨rfl, ⟨rfl, ⟨rfl, trivial⟩⟩⟩⟩ h
set_option maxRecDepth 20000 in
theorem bL_law_1381 {E : mm_Env} {τ : mm_Mem} {Q : mm_Q0} (hL : E.2.2.2.2 ≤ 2147483647) {x3 : Int} (h : M0 E 100 qX10_on [vR 2] τ (fun v τ1 => ∃ b2 : Bool, v = some (vB b2) ∧ M0 E 100 qX11_on [vR 140] τ1 (fun v τ3 => ∃ b4 : Bool, v = some (vB b4) ∧ b2 = b4 ∧ VL E qL_law 1417 [some (vR 1), some (vR 2), some (vR 140), some (vI x3)] [] τ3 Q))) : VL E qL_law 1381 [some (vR 1), some (vR 2), some (vR 140), some (vI x3)] [] τ Q := by
  refine l_aload_n (i := 1) (pc' := 1382) dL_law_1381 rfl rfl rfl ?_
  refine l_invV (q' := qX10_on) (As := []) (st := []) (pc' := 1385) dL_law_1382 rfl gX10_on wm_1186 rfl rfl (by decide) kd_2 wm_1187 wm_1188 rfl (Nat.le_of_ble_eq_true rfl) (M0.mono h (fun v τ1 h => ?_))
  obtain ⟨b2, rfl, h⟩ := h
  show VL E qL_law 1385 [some (vR 1), some (vR 2), some (vR 140), some (vI x3)] [vB b2] τ1 Q
  refine l_aload_n (i := 2) (pc' := 1386) dL_law_1385 rfl rfl rfl ?_
  refine l_invV (q' := qX11_on) (As := []) (st := [vB b2]) (pc' := 1389) dL_law_1386 rfl gX11_on wm_1970 rfl rfl (by decide) kd_140 wm_1971 wm_1972 rfl (Nat.le_of_ble_eq_true rfl) (M0.mono h (fun v τ3 h => ?_))
  obtain ⟨b4, rfl, h⟩ := h
  show VL E qL_law 1389 [some (vR 1), some (vR 2), some (vR 140), some (vI x3)] [vB b4, vB b2] τ3 Q
  obtain ⟨he, h⟩ := h
  subst he
  refine l_icmp_same (tgt := 1417) dL_law_1389 (by decide) ?_
  exact l_less (ls' := [some (vR 1), some (vR 2), some (vR 140), some (vI x3)]) ⟨rfl, ⟨rfl, ⟨rfl, ⟨rfl, trivial⟩⟩⟩⟩ h
set_option maxRecDepth 20000 in
theorem bL_law_1394 {E : mm_Env} {τ : mm_Mem} {Q : mm_Q0} (hL : E.2.2.2.2 ≤ 2147483647) {x3 : Int} (h : 0 ≤ (x3 + 1) ∧ (x3 + 1) < (E.2.2.2.2 : Int) ∧ M0 E 100 qX10_status [vR 2, vI (τ 1 (x3 + 1).toNat)] τ (fun v τ3 => ∃ r4 : Int, v = some (vI r4) ∧ 0 ≤ (x3 + 1) ∧ (x3 + 1) < (E.2.2.2.2 : Int) ∧ M0 E 100 qX11_status [vR 140, vI (τ3 1 (x3 + 1).toNat)] τ3 (fun v τ7 => ∃ r8 : Int, v = some (vI r8) ∧ r4 = r8 ∧ VL E qL_law 1417 [some (vR 1), some (vR 2), some (vR 140), some (vI x3)] [] τ7 Q))) : VL E qL_law 1394 [some (vR 1), some (vR 2), some (vR 140), some (vI x3)] [] τ Q := by
  refine l_aload_n (i := 1) (pc' := 1395) dL_law_1394 rfl rfl rfl ?_
  refine l_aload_n (i := 0) (pc' := 1396) dL_law_1395 rfl rfl rfl ?_
  refine l_iload_n (i := 3) (pc' := 1397) dL_law_1396 rfl rfl rfl ?_
  refine l_iconst (pc' := 1398) dL_law_1397 rfl ?_
  refine l_iadd (pc' := 1399) dL_law_1398 rfl ?_
  obtain ⟨c1, c2, h⟩ := h
  refine l_sld (pc' := 1400) dL_law_1399 rfl c1 c2 hL ?_
  refine l_invV (q' := qX10_status) (As := [vI (τ 1 (x3 + 1).toNat)]) (st := []) (pc' := 1403) dL_law_1400 rfl gX10_status wm_1214 rfl rfl (by decide) kd_2 wm_1215 wm_1216 rfl (Nat.le_of_ble_eq_true rfl) (M0.mono h (fun v τ3 h => ?_))
  obtain ⟨r4, rfl, h⟩ := h
  show VL E qL_law 1403 [some (vR 1), some (vR 2), some (vR 140), some (vI x3)] [vI r4] τ3 Q
  refine l_aload_n (i := 2) (pc' := 1404) dL_law_1403 rfl rfl rfl ?_
  refine l_aload_n (i := 0) (pc' := 1405) dL_law_1404 rfl rfl rfl ?_
  refine l_iload_n (i := 3) (pc' := 1406) dL_law_1405 rfl rfl rfl ?_
  refine l_iconst (pc' := 1407) dL_law_1406 rfl ?_
  refine l_iadd (pc' := 1408) dL_law_1407 rfl ?_
  obtain ⟨c5, c6, h⟩ := h
  refine l_sld (pc' := 1409) dL_law_1408 rfl c5 c6 hL ?_
  refine l_invV (q' := qX11_status) (As := [vI (τ3 1 (x3 + 1).toNat)]) (st := [vI r4]) (pc' := 1412) dL_law_1409 rfl gX11_status wm_1663 rfl rfl (by decide) kd_140 wm_1664 wm_1665 rfl (Nat.le_of_ble_eq_true rfl) (M0.mono h (fun v τ7 h => ?_))
  obtain ⟨r8, rfl, h⟩ := h
  show VL E qL_law 1412 [some (vR 1), some (vR 2), some (vR 140), some (vI x3)] [vI r8, vI r4] τ7 Q
  obtain ⟨he, h⟩ := h
  subst he
  refine l_icmp_same (tgt := 1417) dL_law_1412 (by decide) ?_
  exact l_less (ls' := [some (vR 1), some (vR 2), some (vR 140), some (vI x3)]) ⟨rfl, ⟨rfl, ⟨rfl, ⟨rfl, trivial⟩⟩⟩⟩ h
set_option maxRecDepth 20000 in
theorem bL_law_1417 {E : mm_Env} {τ : mm_Mem} {Q : mm_Q0} (hL : E.2.2.2.2 ≤ 2147483647) {x3 : Int} (h : VL E qL_law 18 [some (vR 1), some (vR 2), some (vR 140), some (vI (x3 + 6))] [] τ Q) : VL E qL_law 1417 [some (vR 1), some (vR 2), some (vR 140), some (vI x3)] [] τ Q := by
  refine ls_iinc (i := 3) (ls' := [some (vR 1), some (vR 2), some (vR 140), some (vI (x3 + 6))]) (pc' := 1420) dL_law_1417 rfl rfl (Nat.le_of_ble_eq_true rfl) rfl rfl ?_
  refine l_goto (tgt := 18) dL_law_1420 (by decide) ?_
  exact l_less (ls' := [some (vR 1), some (vR 2), some (vR 140), some (vI (x3 + 6))]) ⟨rfl, ⟨rfl, ⟨rfl, ⟨rfl, trivial⟩⟩⟩⟩ h
