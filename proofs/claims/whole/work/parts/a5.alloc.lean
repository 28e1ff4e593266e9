/-! making objects and arrays -/
theorem mm_W_push {E : mm_Env} {Sh : List mm_Kd} {σ : mm_Mem} {kd : mm_Kd} (hl : 2 ≤ Sh.length) : mm_W E (Sh ++ [kd]) σ = mm_W E Sh σ ++ [(E.2.2.2.1 + (Sh.length - 2), mm_E E kd (σ Sh.length))] := by
  have e : (Sh ++ [kd]).length - 2 = (Sh.length - 2) + 1 := by rw [List.length_append]; simp; omega
  unfold mm_W
  rw [e, List.range_succ, List.map_append]
  congr 1
  · apply List.map_congr_left
    intro i hi
    rw [List.mem_range] at hi
    rw [List.getD_eq_getElem?_getD, List.getD_eq_getElem?_getD, List.getElem?_append_left (by omega)]
  · have e2 : Sh.length - 2 + 2 = Sh.length := by omega
    simp [e2, List.getD_eq_getElem?_getD]
theorem mm_Rep.push {E : mm_Env} {Sh : List mm_Kd} {σ : mm_Mem} {s : State} {H H1 : Heap} {kd : mm_Kd} (hR : mm_Rep E Sh σ s H) (hz : ∀ k, σ Sh.length k = 0) (hat : va_at E.1 vwCl (E.2.2.2.1 + (Sh.length - 2), mm_E E kd (σ Sh.length)) H1) (z1 : H1.size = H.size + 1) (o1 : ∀ q, q < H.size → H1[q]? = H[q]?) : mm_Rep E (Sh ++ [kd]) σ s H1 := by
  obtain ⟨hP, h2, h3, h4, h5, h6⟩ := hR
  refine ⟨?_, ?_, ?_, h4.kept (o1 _ (by omega)), h5, fun o k kd' q1 q2 => ?_⟩
  · rw [mm_W_push h3]
    refine (hP.kept (fun k x hx => o1 x.1 ((hP k x hx).lt))).app (fun k x hx => ?_)
    have hk : k < 1 := (List.getElem?_eq_some_iff.mp hx).1
    rw [show k = 0 by omega] at hx
    cases hx
    exact hat
  · rw [z1, h2, List.length_append]; simp; omega
  · rw [List.length_append]; simp; omega
  · by_cases q : o < Sh.length
    · rw [List.getElem?_append_left q] at q1
      exact h6 o k kd' q1 q2
    · have : o < (Sh ++ [kd]).length := (List.getElem?_eq_some_iff.mp q1).1
      rw [List.length_append] at this
      have eo : o = Sh.length := by simp at this; omega
      rw [eo, hz k]; exact ⟨by decide, by decide⟩
theorem mm_S.push {A : Nat → Prop} {H0 H H1 : Heap} {locs : List Loc} (hS : va_S A H0 H locs) (z1 : H1.size = H.size + 1) (o1 : ∀ q, q < H.size → H1[q]? = H[q]?) : va_S A H0 H1 locs := ⟨Nat.le_trans hS.1 (by omega), fun x h1 h2 => (o1 x (Nat.lt_of_lt_of_le h1 hS.1)).trans (hS.2.1 x h1 h2), hS.2.2⟩
theorem mm_fv0 {E : mm_Env} {c k : Nat} (hc : c < 12) (hk : k < mm_N c) : mm_fv E (mm_ty c k) 0 = defaultValue (mm_ty c k) := by
  have h : ∀ c, c < 12 → ∀ k, k < mm_N c → (mm_isI (mm_ty c k) = true ∨ mm_isR (mm_ty c k) = true ∨ mm_ty c k = .long) := by decide +kernel
  have h1 := h c hc k hk
  generalize mm_ty c k = ty at h1 ⊢
  cases ty <;> first | rfl | (simp [mm_isI, mm_isR] at h1)
section VxNew
variable {X : State → Prop} {E : mm_Env} {R : Room} {q : mm_Y} {mc ms cs sl : Nat} {Sh : List mm_Kd} {pc pc' : Nat} {ls : List (Option mm_PV)} {st : List mm_PV} {σ : mm_Mem} {Q : mm_Q}
theorem mm_up_new {H : Heap} {s : State} (hR : mm_Rep E Sh σ s H) : mm_up E (vR Sh.length) = .ref H.size := by
  have h3 := hR.2.2.1
  rw [mm_up_ref (by omega), hR.2.1]
  unfold mm_ad
  rw [if_neg (by omega)]
theorem vx_new {i c : Nat} {C : String} {T : u_T} {N : Nat} (hd : decode q.2.1 pc = .ok (.new i, 3)) (hp : pc + 3 = pc') (hc : vwCl[c]? = some (C, T, N)) (hl : Cond.classLink q.1.cls i C ∈ mm_T) (hins : Cond.instantiable C N ∈ mm_T) (hini : Cond.initialized C ∈ mm_T) (hz : ∀ k, σ Sh.length k = 0) (hce : cs + 1 ≤ R.cells) (hsl : sl + N ≤ R.slots) (kk : vx X E R q mc ms (cs + 1) (sl + N) (Sh ++ [.inr c]) pc' ls (vR Sh.length :: st) σ Q) : vx X E R q mc ms cs sl Sh pc ls st σ Q := by
  subst hp
  intro p l e s m args below meth c9 H locs la QM hC hX hR hS hL hret
  obtain ⟨hN, hty, hnm, hin⟩ := mm_cls hc
  have hts := hC.2.2.2.2.1
  have hK := hC.2.2.2.2.2.1
  have hKn := hK.1 c _ hc
  have c12 : c < 12 := (List.getElem?_eq_some_iff.mp hc).1
  refine W.newcK hC.1 hC.2.1 hC.2.2.2.1 (hts _ hl) (hts _ hins) (hts _ hini) rfl hd hce hsl hKn.2.1 rfl (fun H1 kC hkC e1 z1 o1 => ?_)
  have hu := mm_up_new hR
  have h2 := hR.2.1
  have hR1 : mm_Rep E (Sh ++ [.inr c]) σ s H1 := hR.push hz (by
    rw [← h2]
    exact ⟨_, hc, (u_born (mm_ty c) hts hin hKn hkC e1 hty).to (fun j hj => by
      have hj' : j < mm_N c := hN ▸ hj
      show _ = (mm_fs E c (σ Sh.length)).getD j .null
      rw [List.getD_eq_getElem?_getD, mm_fs_get hj', hz j, mm_fv0 c12 hj']
      rfl)⟩) z1 o1
  have K := kk p l e s m args below meth c9 H1 locs la QM hC hX hR1 (mm_S.push hS z1 o1) hL hret
  rw [List.map_cons, hu] at K
  exact K
theorem mm_ar0 {E : mm_Env} {ty : FieldType} {N : Nat} {cA : ClassId} {f : Nat → Int} (hf : ∀ k, f k = 0) (ht : ty = .int ∨ ty = .long ∨ ty = .boolean ∨ mm_isR ty = true) : vp_cell cA (N, mm_ar E ty f) = arrV cA N (fun _ => defaultValue ty) := by
  have e : f = fun _ => 0 := funext hf
  subst e
  rcases ht with rfl | rfl | rfl | h
  · rfl
  · rfl
  · rfl
  · cases ty <;> first | rfl | (simp [mm_isR] at h)
theorem vx_newa {at9 : ArrayType} {ty : FieldType} {n : Int} {N t0 : Nat} (hd : decode q.2.1 pc = .ok (.newarray at9, 2)) (hp : pc + 2 = pc') (hty : newarray.typeOf at9 = ty) (h3 : ty = .int ∨ ty = .long ∨ ty = .boolean) (hw : Cond.arrayClass ty ∈ mm_T) (ht0 : ∀ E : mm_Env, (mm_tys E)[t0]? = some (E.2.1 ty, ty)) (hn : n = (N : Int)) (hN : N ≤ 100000) (hz : ∀ k, σ Sh.length k = 0) (hce : cs + 1 ≤ R.cells) (hsl : sl + N ≤ R.slots) (kk : vx X E R q mc ms (cs + 1) (sl + N) (Sh ++ [.inl (ty, N)]) pc' ls (vR Sh.length :: st) σ Q) : vx X E R q mc ms cs sl Sh pc ls (vI n :: st) σ Q := by
  subst hp
  intro p l e s m args below meth c9 H locs la QM hC hX hR hS hL hret
  have hts := hC.2.2.2.2.1
  have hK := hC.2.2.2.2.2.1
  obtain ⟨e1, e2⟩ := mm_ix (j := n) (n := 100001) (by omega) (by omega) (by omega)
  rw [List.map_cons]
  refine va_newaK (N := N) hC.1 hC.2.1 (atype := at9) (by rw [hty]; exact hts _ hw) rfl hd rfl (fun z => e2 (Or.inl z)) (by rw [e1]; omega) (by rw [hty]; rcases h3 with rfl | rfl | rfl <;> simp [componentBytes] <;> omega) hce hsl rfl (fun H1 cA f1 z1 o1 hAr hNm => ?_)
  have hu := mm_up_new hR
  have h2 := hR.2.1
  have hRA := (hK.2 t0 _ (ht0 E)).2
  have ecA : cA = E.2.1 ty := by
    rw [hty] at hNm
    have h9 : s.vm.findClass ("[" ++ ty.toString) = some (E.2.1 ty) := by rcases h3 with rfl | rfl | rfl <;> exact hRA
    exact Option.some.inj (hNm.symm.trans h9)
  subst ecA
  have hR1 : mm_Rep E (Sh ++ [.inl (ty, N)]) σ s H1 := hR.push hz (by
    rw [← h2]
    show H1[H.size]? = some (vp_cell (E.2.1 ty) (N, mm_ar E ty (σ Sh.length)))
    rw [mm_ar0 hz (by rcases h3 with h | h | h <;> simp [h]), f1, hty]) z1 o1
  have K := kk p l e s m args below meth c9 H1 locs la QM hC hX hR1 (mm_S.push hS z1 o1) hL hret
  rw [List.map_cons, hu] at K
  exact K
theorem vx_obj {i o : Nat} (hd : decode q.2.1 pc = .ok (.invokespecial i, 3)) (hp : pc + 3 = pc') (hl : Cond.methodLink q.1.cls i Lib.objectInit ∈ mm_T) (ho : o ≠ 0) (hfr : 1 ≤ R.frames) (hlo : 12 ≤ R.locals) (kk : vx X E R q mc ms cs sl Sh pc' ls [] σ Q) : vx X E R q mc ms cs sl Sh pc ls [vR o] σ Q := by
  subst hp
  intro p l e s m args below meth c9 H locs la QM hC hX hR hS hL hret
  have hts := hC.2.2.2.2.1
  refine W.objInit hC.1 hC.2.1 hC.2.2.2.1 (hts _ hl) (hts _ wm_26) (hts _ wm_27) rfl (hL.1.trans hC.2.2.1.symm) (a := mm_ad E o) (rest := []) (by rw [List.map_cons, mm_up_ref ho]; rfl) hd hfr (by simpa using hlo) ?_
  exact kk p l e s m args below meth c9 H locs la QM hC hX hR hS hL hret
end VxNew
