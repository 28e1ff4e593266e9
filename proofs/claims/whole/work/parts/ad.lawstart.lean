/-! the law, from its first instruction -/
section LawStart
variable {X : State → Prop} {E : mm_Env} {Q : mm_Q0}
theorem vx_eqM {R : Room} {q : mm_Y} {mc ms cs sl : Nat} {Sh : List mm_Kd} {pc : Nat} {ls : List (Option mm_PV)} {st : List mm_PV} {σ σ' : mm_Mem} {Q : mm_Q} (e : σ = σ') (K : vx X E R q mc ms cs sl Sh pc ls st σ' Q) : vx X E R q mc ms cs sl Sh pc ls st σ Q := e ▸ K
theorem vx_eqS {R : Room} {q : mm_Y} {mc ms cs sl : Nat} {Sh Sh' : List mm_Kd} {pc : Nat} {ls : List (Option mm_PV)} {st : List mm_PV} {σ : mm_Mem} {Q : mm_Q} (e : Sh = Sh') (K : vx X E R q mc ms cs sl Sh' pc ls st σ Q) : vx X E R q mc ms cs sl Sh pc ls st σ Q := e ▸ K
theorem vx_widen {R : Room} {q : mm_Y} {mc ms cs sl cs' sl' : Nat} {Sh : List mm_Kd} {pc : Nat} {ls : List (Option mm_PV)} {st : List mm_PV} {σ : mm_Mem} {Q : mm_Q} (h1 : cs ≤ cs') (h2 : sl ≤ sl') (K : vx X E R q mc ms cs' sl' Sh pc ls st σ Q) : vx X E R q mc ms cs sl Sh pc ls st σ Q := fun p l e s m args below meth c H locs la QM hC hX hR hS hL hret => W.widen h1 h2 (K p l e s m args below meth c H locs la QM hC hX hR hS hL hret)
set_option maxRecDepth 100000 in
theorem law_0 (hTok : ∀ {Sh : List mm_Kd} {σ : mm_Mem} {Q : mm_Q} {o n : Nat}, SZ n Sh σ → 2 ≤ o → Sh[o]? = some (.inr 6) → (SZ (n + 4) (Sh ++ [.inl (.int, 1601), .inl (.int, 1601), .inl (.int, 1601), .inl (.int, 29)]) (oxW (wr (wr (wr (wr σ o 0 ((n : Nat) : Int)) o 1 (((n + 1) : Nat) : Int)) o 2 (((n + 2) : Nat) : Int)) o 4 (((n + 3) : Nat) : Int)) (n + 3) 29) → Q none (Sh ++ [.inl (.int, 1601), .inl (.int, 1601), .inl (.int, 1601), .inl (.int, 29)]) (oxW (wr (wr (wr (wr σ o 0 ((n : Nat) : Int)) o 1 (((n + 1) : Nat) : Int)) o 2 (((n + 2) : Nat) : Int)) o 4 (((n + 3) : Nat) : Int)) (n + 3) 29)) → vmX X E 8 4 4832 qX6_init [vR o] Sh σ Q) (hXO : XO E X) (hXD : ∀ s, X s → va_AO "TuneDoor$Door" s) (hXP : ∀ s, X s → va_AO "TuneDoor$Person" s) (hXA : ∀ s, X s → (Cond.arrayOver (.array .int)).before #[] s = true) {f : Nat → Int} (hE : E.2.2.2.2 ≤ 3072) (hf : ∀ j, inR (f j)) (k1 : ∀ τ', Q (some (vB true)) τ') : vx X E room_1 qL_law 600000 7302250 0 0 [.inr 99, .inl (.int, E.2.2.2.2)] 0 [some (vR 1), none, none, none] [] (st0 f) (mm_QQ E Q) := by
  have Z : SZ 2 [.inr 99, .inl (.int, E.2.2.2.2)] (st0 f) := ⟨rfl, fun o ho k => by unfold st0; rw [if_neg (by omega)]⟩
  refine z_new (c := 10) (pc' := 3) Z dL_law_0 rfl rfl wm_20 wm_21 wm_1 (by decide) (by decide) (fun Z g0 => ?_)
  refine vx_dup (pc' := 4) dL_law_3 rfl (fun _ hh => by cases hh) ?_
  refine vx_invI hXO (d := 9) (mc' := 137) (ms' := 27539) (As := []) (st := [vR 2]) (pc' := 7) dL_law_4 rfl gX10_init wm_22 (by omega) wm_23 rfl rfl rfl (by decide) (by decide) (by decide) (by decide) (by decide) (k_X10_init hTok hXO hXD hXP hXA Z (by omega) g0 (fun Z => ?_))
  refine vx_astore_n (i := 1) (pc' := 8) dL_law_7 rfl rfl (by decide) rfl ?_
  refine z_new (c := 11) (pc' := 11) Z dL_law_8 rfl rfl wm_1218 wm_1219 wm_16 (by decide) (by decide) (fun Z g1 => ?_)
  refine vx_dup (pc' := 12) dL_law_11 rfl (fun _ hh => by cases hh) ?_
  refine vx_invI hXO (d := 1) (mc' := 53) (ms' := 31893) (As := []) (st := [vR 140]) (pc' := 15) dL_law_12 rfl gX11_init wm_1220 (by omega) wm_1221 rfl rfl rfl (by decide) (by decide) (by decide) (by decide) (by decide) (k_X11_init Z (by omega) g1 (fun Z => ?_))
  refine vx_astore_n (i := 2) (pc' := 16) dL_law_15 rfl rfl (by decide) rfl ?_
  refine vx_iconst (pc' := 17) dL_law_16 rfl ?_
  refine vx_istore_n (i := 3) (pc' := 18) dL_law_17 rfl rfl (by decide) rfl ?_
  refine vx_eqM (σ' := fm (stF f)) (by rw [st_fm]; rfl) (vx_eqS (Sh' := mm_SH E.2.2.2.2) rfl (vx_widen (cs' := 1000) (sl' := 200000) (by decide) (by decide) ?_))
  exact vv.x (L_loop hE k1 513 0 (stF f) rfl (st_LJ hf))
end LawStart
