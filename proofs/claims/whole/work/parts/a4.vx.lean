/-! the constructors: the judgement with one more thing known of the start -/
def XO (E : mm_Env) (X : State → Prop) : Prop := ∀ (s U : State) (H : Heap) (locs : List Loc), va_S (mm_A E) s.heap H locs → s.WarmedH U.vm → U.heap = H → X s → X U
def vx (X : State → Prop) (E : mm_Env) (R : Room) (q : mm_Y) (mc ms cs sl : Nat) (Sh : List mm_Kd) (pc : Nat) (ls : List (Option mm_PV)) (st : List mm_PV) (σ : mm_Mem) (Q : mm_Q) : Prop :=
  ∀ (p : Program) (l : Launch) (e : Env) (s : State) (m : MethodId) (args : Array Value) (below : List Frame) (meth : Method) (c : Code) (H : Heap) (locs : List Loc) (la : Array Slot) (QM : State → Prop),
    mm_Cx E q p s m args meth c → X s → mm_Rep E Sh σ s H → va_S (mm_A E) s.heap H locs → mm_Ls E la q.2.2.1 ls →
    (∀ (pc' : Nat) (la' : Array Slot) (v : Option mm_PV) (Sh' : List mm_Kd) (σ' : mm_Mem) (H' : Heap) (locs' : List Loc), Q v Sh' σ' → mm_fit q.2.2.2 v → mm_Rep E Sh' σ' s H' → va_S (mm_A E) s.heap H' locs' → decode q.2.1 pc' = .ok (mm_ri q.2.2.2, 1) → W p l e R s m args below meth c H' locs' mc ms QM (F0 m pc' la' (v.toList.map (mm_up E)))) →
    W p l e R s m args below meth c H locs cs sl QM (F0 m pc la (st.map (mm_up E)))
def mm_PreX (X : State → Prop) (E : mm_Env) (As : List mm_PV) (Sh : List mm_Kd) (σ : mm_Mem) : Array Value → State → Prop := va_Pc (As.map (mm_up E)) (fun U => mm_Rep E Sh σ U U.heap ∧ va_K E.1 vwCl (mm_tys E) U ∧ X U)
def vmX (X : State → Prop) (E : mm_Env) (d mc ms : Nat) (q : mm_Y) (As : List mm_PV) (Sh : List mm_Kd) (σ : mm_Mem) (Q : mm_Q) : Prop :=
  ∀ l : Launch, Met l q.1 (mm_ws q) (mm_rm d mc ms) (mm_PreX X E As Sh σ) (mm_Post E Q) mc ms (mm_A E)
theorem vm.x {X : State → Prop} {E : mm_Env} {d mc ms : Nat} {q : mm_Y} {As : List mm_PV} {Sh : List mm_Kd} {σ : mm_Mem} {Q : mm_Q} (h : vm E d mc ms q As Sh σ Q) : vmX X E d mc ms q As Sh σ Q := by
  intro l
  have h1 := h l
  unfold Met MetFree at h1 ⊢
  intro p e ha hc hk s m args below hf hap hP hK
  exact h1 p e ha hc hk s m args below hf hap ⟨hP.1, hP.2.1, hP.2.2.1⟩ hK
theorem vmX.mono {X : State → Prop} {E : mm_Env} {d mc ms : Nat} {q : mm_Y} {As : List mm_PV} {Sh : List mm_Kd} {σ : mm_Mem} {Q Q' : mm_Q} (h : vmX X E d mc ms q As Sh σ Q) (hQ : ∀ v Sh' σ', Q v Sh' σ' → Q' v Sh' σ') : vmX X E d mc ms q As Sh σ Q' := by
  intro l
  have h1 := h l
  unfold Met MetFree at h1 ⊢
  intro p e ha hc hk s m args below hf hap hP hK
  obtain ⟨k, o, q1, q2, q3, q4⟩ := h1 p e ha hc hk s m args below hf hap hP hK
  obtain ⟨⟨⟨v, Sh', σ', r1, r2, r3⟩, r4⟩, r5⟩ := q4
  exact ⟨k, o, q1, q2, q3, ⟨⟨v, Sh', σ', r1, hQ _ _ _ r2, r3⟩, r4⟩, r5⟩
theorem mm_blindX {X : State → Prop} {E : mm_Env} {As : List mm_PV} {Sh : List mm_Kd} {σ : mm_Mem} (hXO : XO E X) : FrameBlind (mm_PreX X E As Sh σ) := fun a U g mk q => ⟨q.1, mm_Rep.moved (s := U) (t := U.calling g mk a) (Vm.Alike.refl U.vm) q.2.1, va_K.moved (u := U) (U := U.calling g mk a) (Vm.Alike.refl U.vm) q.2.2.1, hXO U (U.calling g mk a) U.heap [] va_S.rf (State.WarmedH.refl U) rfl q.2.2.2⟩
theorem vmX_of {X : State → Prop} {E : mm_Env} {d mc ms : Nat} {q : mm_Y} {As : List mm_PV} {Sh : List mm_Kd} {σ : mm_Mem} {Q : mm_Q} (hp : plainName q.1.cls = true) (hn : (mm_ent As).length ≤ q.2.2.1) (ls : List (Option mm_PV)) (hls : mm_loc As q.2.2.1 = ls) (h : vx X E (mm_rm d mc ms) q mc ms 0 0 Sh 0 ls [] σ Q)   : vmX X E d mc ms q As Sh σ Q := by
  intro l
  refine Met.ofW (cc := q.2.1) (maxL := q.2.2.1) (ret := q.2.2.2) hp rfl ?_
  intro p e s m args below meth c s₁ B hml hv
  obtain ⟨rfl, hR, hK, hX⟩ := hv
  have hts := atoms_spec (ws := mm_ws q) B.pre
  have hown : s.vm.findClass q.1.cls = some m.cls := findClass_of_methodNamed B.named
  have hlocks := B.notSynchronized
  have hbytes := B.bytes
  have hx := B.exec
  have hr := B.returns
  rw [lg_entry_eq]
  have hl := lv_entry (As.map (mm_up E)) (n := q.2.2.1) (by rw [mm_ent_len]; exact hn)
  have hls2 : mm_Ls E ((lg_sl (As.map (mm_up E)) ++ List.replicate (q.2.2.1 - (lg_sl (As.map (mm_up E))).length) Slot.unset).toArray) q.2.2.1 ls := by
    subst hls
    unfold mm_Ls mm_loc
    rw [mm_ent_args]
    exact hl
  have hbs : E.2.2.2.1 ≤ s.heap.size := by rw [hR.2.1]; omega
  refine h p l e s m _ below meth c s.heap [] _ _ ⟨hx, hbytes, hml, hown, fun w hw => hts w (List.mem_cons_of_mem _ hw), hK, hbs, (name_of_methodNamed B.named B.method).1⟩ hX hR va_S.rf hls2 ?_
  intro pc' la' v Sh' σ' H' locs' hQ hfit hR' hS' hd
  have hq : ∀ t : State, t.heap = H' → s.WarmedH t.vm → mm_Post E Q ((As.map (mm_up E)).toArray) s (.returned (v.map (mm_up E))) t := fun t ht hW => ⟨⟨v, Sh', σ', rfl, hQ, by rw [ht]; exact hR'.moved hW.alike⟩, hS'.F ht⟩
  generalize hrq : q.2.2.2 = rt at *
  cases rt with
  | none =>
    have e : v = none := hfit
    subst e
    exact W.vret hx hbytes hr hq hS'.2.2 hd
  | some ty =>
    cases ty with
    | int => obtain ⟨z, rfl⟩ := hfit; exact W.iret hx hbytes hr hq hS'.2.2 hd
    | boolean => obtain ⟨z, rfl, hz⟩ := hfit; exact W.zret hx hbytes hr (mm_nb hz) hq hS'.2.2 hd
    | long => obtain ⟨z, rfl⟩ := hfit; exact W.lret hx hbytes hr hq hS'.2.2 hd
    | object C => obtain ⟨o, rfl⟩ := hfit; exact W.aret hx hbytes hr (Or.inl ⟨C, rfl⟩) mm_ref_or hq hS'.2.2 hd
    | _ => exact hfit.elim
section VxRows
variable {X : State → Prop} {E : mm_Env} {R : Room} {q : mm_Y} {mc ms cs sl : Nat} {Sh : List mm_Kd} {pc pc' : Nat} {ls : List (Option mm_PV)} {st : List mm_PV} {σ : mm_Mem} {Q : mm_Q}
theorem vv.x (h : vv E R q mc ms cs sl Sh pc ls st σ Q) : vx X E R q mc ms cs sl Sh pc ls st σ Q := fun p l e s m args below meth c H locs la QM hC _ hR hS hL hret => h p l e s m args below meth c H locs la QM hC hR hS hL hret
theorem vx_iconst {n : Int} (hd : decode q.2.1 pc = .ok (.iconst n, 1)) (hp : pc + 1 = pc') (k : vx X E R q mc ms cs sl Sh pc' ls (vI n :: st) σ Q) : vx X E R q mc ms cs sl Sh pc ls (st) σ Q := by
  subst hp
  intro p l e s m args below meth c H locs la QM hC hX hR hS hL hret
  exact lv_iconst hC.1 hC.2.1 hd rfl (k p l e s m args below meth c H locs la QM hC hX hR hS hL hret)
theorem vx_bipush {n : Int} (hd : decode q.2.1 pc = .ok (.bipush n, 2)) (hp : pc + 2 = pc') (hv : (Int8.ofInt n).toInt32 = Int32.ofInt n) (k : vx X E R q mc ms cs sl Sh pc' ls (vI n :: st) σ Q) : vx X E R q mc ms cs sl Sh pc ls (st) σ Q := by
  subst hp
  intro p l e s m args below meth c H locs la QM hC hX hR hS hL hret
  exact lv_bipush hC.1 hC.2.1 hd hv (k p l e s m args below meth c H locs la QM hC hX hR hS hL hret)
theorem vx_sipush {n : Int} (hd : decode q.2.1 pc = .ok (.sipush n, 3)) (hp : pc + 3 = pc') (hv : (Int16.ofInt n).toInt32 = Int32.ofInt n) (k : vx X E R q mc ms cs sl Sh pc' ls (vI n :: st) σ Q) : vx X E R q mc ms cs sl Sh pc ls (st) σ Q := by
  subst hp
  intro p l e s m args below meth c H locs la QM hC hX hR hS hL hret
  exact lv_sipush hC.1 hC.2.1 hd hv (k p l e s m args below meth c H locs la QM hC hX hR hS hL hret)
theorem vx_lconst {n : Fin 2} {z : Int} (hd : decode q.2.1 pc = .ok (.lconst n, 1)) (hp : pc + 1 = pc') (hv : Int64.ofNat (n : Nat) = Int64.ofInt z) (k : vx X E R q mc ms cs sl Sh pc' ls (vL z :: st) σ Q) : vx X E R q mc ms cs sl Sh pc ls (st) σ Q := by
  subst hp
  intro p l e s m args below meth c H locs la QM hC hX hR hS hL hret
  exact lv_lconst hC.1 hC.2.1 hd hv (k p l e s m args below meth c H locs la QM hC hX hR hS hL hret)
theorem vx_iload_n {k9 : Fin 4} {i : Nat} {z : Int} (hd : decode q.2.1 pc = .ok (.iload_n k9, 1)) (hp : pc + 1 = pc') (hi : (k9 : Nat) = i) (hl : ls[i]? = some (some (vI z))) (k : vx X E R q mc ms cs sl Sh pc' ls (vI z :: st) σ Q) : vx X E R q mc ms cs sl Sh pc ls (st) σ Q := by
  subst hp
  intro p l e s m args below meth c H locs la QM hC hX hR hS hL hret
  exact lv_iload_n hC.1 hC.2.1 hd hi (hL.at hl) (k p l e s m args below meth c H locs la QM hC hX hR hS hL hret)
theorem vx_iload {i : Nat} {z : Int} (hd : decode q.2.1 pc = .ok (.iload i, 2)) (hp : pc + 2 = pc') (hl : ls[i]? = some (some (vI z))) (k : vx X E R q mc ms cs sl Sh pc' ls (vI z :: st) σ Q) : vx X E R q mc ms cs sl Sh pc ls (st) σ Q := by
  subst hp
  intro p l e s m args below meth c H locs la QM hC hX hR hS hL hret
  exact lv_iload hC.1 hC.2.1 hd (hL.at hl) (k p l e s m args below meth c H locs la QM hC hX hR hS hL hret)
theorem vx_aload_n {k9 : Fin 4} {i : Nat} {o : Nat} (hd : decode q.2.1 pc = .ok (.aload_n k9, 1)) (hp : pc + 1 = pc') (hi : (k9 : Nat) = i) (hl : ls[i]? = some (some (vR o))) (k : vx X E R q mc ms cs sl Sh pc' ls (vR o :: st) σ Q) : vx X E R q mc ms cs sl Sh pc ls (st) σ Q := by
  subst hp
  intro p l e s m args below meth c H locs la QM hC hX hR hS hL hret
  exact mm_aload_n hC.1 hC.2.1 hd hi mm_isRef (hL.at hl) (k p l e s m args below meth c H locs la QM hC hX hR hS hL hret)
theorem vx_istore_n {k9 : Fin 4} {i : Nat} {z : Int} (hd : decode q.2.1 pc = .ok (.istore_n k9, 1)) (hp : pc + 1 = pc') (hi : (k9 : Nat) = i) (hn : i < q.2.2.1) (ok : mm_ok ls i = true) (k : vx X E R q mc ms cs sl Sh pc' (ls.set i (some (vI z))) (st) σ Q) : vx X E R q mc ms cs sl Sh pc ls (vI z :: st) σ Q := by
  subst hp
  intro p l e s m args below meth c H locs la QM hC hX hR hS hL hret
  exact lv_istore_n hC.1 hC.2.1 hd hi hL hn rfl (fun la' hL' => (k p l e s m args below meth c H locs la' QM hC hX hR hS (mm_Ls.store (v := vI z) hL' ok) hret))
theorem vx_istore {i : Nat} {z : Int} (hd : decode q.2.1 pc = .ok (.istore i, 2)) (hp : pc + 2 = pc') (hn : i < q.2.2.1) (ok : mm_ok ls i = true) (k : vx X E R q mc ms cs sl Sh pc' (ls.set i (some (vI z))) (st) σ Q) : vx X E R q mc ms cs sl Sh pc ls (vI z :: st) σ Q := by
  subst hp
  intro p l e s m args below meth c H locs la QM hC hX hR hS hL hret
  exact lv_istore hC.1 hC.2.1 hd hL hn rfl (fun la' hL' => (k p l e s m args below meth c H locs la' QM hC hX hR hS (mm_Ls.store (v := vI z) hL' ok) hret))
theorem vx_astore_n {k9 : Fin 4} {i : Nat} {z : Nat} (hd : decode q.2.1 pc = .ok (.astore_n k9, 1)) (hp : pc + 1 = pc') (hi : (k9 : Nat) = i) (hn : i < q.2.2.1) (ok : mm_ok ls i = true) (k : vx X E R q mc ms cs sl Sh pc' (ls.set i (some (vR z))) (st) σ Q) : vx X E R q mc ms cs sl Sh pc ls (vR z :: st) σ Q := by
  subst hp
  intro p l e s m args below meth c H locs la QM hC hX hR hS hL hret
  exact mm_astore_n hC.1 hC.2.1 hd hi mm_isRef mm_cat_r hL hn rfl (fun la' hL' => (k p l e s m args below meth c H locs la' QM hC hX hR hS (mm_Ls.store (v := vR z) hL' ok) hret))
theorem vx_iinc {i : Nat} {n z : Int} (hd : decode q.2.1 pc = .ok (.iinc i n, 3)) (hp : pc + 3 = pc') (hl : ls[i]? = some (some (vI z))) (hn : i < q.2.2.1) (ok : mm_ok ls i = true) (k : vx X E R q mc ms cs sl Sh pc' (ls.set i (some (vI (z + n)))) (st) σ Q) : vx X E R q mc ms cs sl Sh pc ls (st) σ Q := by
  subst hp
  intro p l e s m args below meth c H locs la QM hC hX hR hS hL hret
  obtain ⟨j, hj⟩ := List.getElem?_of_mem (mm_prs_mem (E := E) (i := 0) |>.mpr ⟨i, vI z, hl, rfl⟩)
  rw [Nat.zero_add] at hj
  exact lv_iinc (v := Int32.ofInt (z + n)) hC.1 hC.2.1 hd hL hj (Int32.ofInt_add z n).symm hn rfl (fun la' hL' => (k p l e s m args below meth c H locs la' QM hC hX hR hS (mm_Ls.store (v := vI (z + n)) hL' ok) hret))
theorem vx_iadd {a b : Int} (hd : decode q.2.1 pc = .ok (.iadd, 1)) (hp : pc + 1 = pc') (k : vx X E R q mc ms cs sl Sh pc' ls (vI (a + b) :: st) σ Q) : vx X E R q mc ms cs sl Sh pc ls (vI b :: vI a :: st) σ Q := by
  subst hp
  intro p l e s m args below meth c H locs la QM hC hX hR hS hL hret
  refine lv_iadd hC.1 hC.2.1 hd ?_
  rw [← Int32.ofInt_add]
  exact (k p l e s m args below meth c H locs la QM hC hX hR hS hL hret)
theorem vx_dup {v : mm_PV} (hd : decode q.2.1 pc = .ok (.dup, 1)) (hp : pc + 1 = pc') (hv : ∀ z, v ≠ vL z) (k : vx X E R q mc ms cs sl Sh pc' ls (v :: v :: st) σ Q) : vx X E R q mc ms cs sl Sh pc ls (v :: st) σ Q := by
  subst hp
  intro p l e s m args below meth c H locs la QM hC hX hR hS hL hret
  exact lv_dup hC.1 hC.2.1 hd (mm_cat1 hv) (k p l e s m args below meth c H locs la QM hC hX hR hS hL hret)
theorem vx_icmp_ge {a b : Int} {off : Int} {tgt : Nat} (hd : decode q.2.1 pc = .ok (.if_icmp .ge off, 3)) (hp : pc + 3 = pc') (ht : (pc : Int) + off = (tgt : Int)) (ha : inR a) (hb : inR b) (kt : b ≤ a → vx X E R q mc ms cs sl Sh tgt ls st σ Q) (kf : ¬ b ≤ a → vx X E R q mc ms cs sl Sh pc' ls st σ Q) : vx X E R q mc ms cs sl Sh pc ls (vI b :: vI a :: st) σ Q := by
  subst hp
  intro p l e s m args below meth c H locs la QM hC hX hR hS hL hret
  exact lv_icmp_ge hC.1 hC.2.1 hd ht (fun h => (kt ((mm_c2_ge ha hb).mp h) p l e s m args below meth c H locs la QM hC hX hR hS hL hret)) (fun h => (kf (fun z => h ((mm_c2_ge ha hb).mpr z)) p l e s m args below meth c H locs la QM hC hX hR hS hL hret))
theorem vx_icmp_ne {a b : Int} {off : Int} {tgt : Nat} (hd : decode q.2.1 pc = .ok (.if_icmp .ne off, 3)) (hp : pc + 3 = pc') (ht : (pc : Int) + off = (tgt : Int)) (ha : inR a) (hb : inR b) (kt : a ≠ b → vx X E R q mc ms cs sl Sh tgt ls st σ Q) (kf : a = b → vx X E R q mc ms cs sl Sh pc' ls st σ Q) : vx X E R q mc ms cs sl Sh pc ls (vI b :: vI a :: st) σ Q := by
  subst hp
  intro p l e s m args below meth c H locs la QM hC hX hR hS hL hret
  exact lv_icmp_ne hC.1 hC.2.1 hd ht (fun h => (kt ((mm_c2_ne ha hb).mp h) p l e s m args below meth c H locs la QM hC hX hR hS hL hret)) (fun h => (kf ((mm_c2_eq ha hb).mp h) p l e s m args below meth c H locs la QM hC hX hR hS hL hret))
theorem vx_icmp_lt {a b : Int} {off : Int} {tgt : Nat} (hd : decode q.2.1 pc = .ok (.if_icmp .lt off, 3)) (hp : pc + 3 = pc') (ht : (pc : Int) + off = (tgt : Int)) (ha : inR a) (hb : inR b) (kt : a < b → vx X E R q mc ms cs sl Sh tgt ls st σ Q) (kf : ¬ a < b → vx X E R q mc ms cs sl Sh pc' ls st σ Q) : vx X E R q mc ms cs sl Sh pc ls (vI b :: vI a :: st) σ Q := by
  subst hp
  intro p l e s m args below meth c H locs la QM hC hX hR hS hL hret
  exact lv_icmp_lt hC.1 hC.2.1 hd ht (fun h => (kt ((mm_c2_lt ha hb).mp h) p l e s m args below meth c H locs la QM hC hX hR hS hL hret)) (fun h => (kf (fun z => h ((mm_c2_lt ha hb).mpr z)) p l e s m args below meth c H locs la QM hC hX hR hS hL hret))
theorem vx_icmp_gt {a b : Int} {off : Int} {tgt : Nat} (hd : decode q.2.1 pc = .ok (.if_icmp .gt off, 3)) (hp : pc + 3 = pc') (ht : (pc : Int) + off = (tgt : Int)) (ha : inR a) (hb : inR b) (kt : b < a → vx X E R q mc ms cs sl Sh tgt ls st σ Q) (kf : ¬ b < a → vx X E R q mc ms cs sl Sh pc' ls st σ Q) : vx X E R q mc ms cs sl Sh pc ls (vI b :: vI a :: st) σ Q := by
  subst hp
  intro p l e s m args below meth c H locs la QM hC hX hR hS hL hret
  exact lv_icmp_gt hC.1 hC.2.1 hd ht (fun h => (kt ((mm_c2_gt ha hb).mp h) p l e s m args below meth c H locs la QM hC hX hR hS hL hret)) (fun h => (kf (fun z => h ((mm_c2_gt ha hb).mpr z)) p l e s m args below meth c H locs la QM hC hX hR hS hL hret))
theorem vx_goto {off : Int} {tgt : Nat} (hd : decode q.2.1 pc = .ok (.goto off, 3)) (ht : (pc : Int) + off = (tgt : Int)) (k : vx X E R q mc ms cs sl Sh tgt ls st σ Q) : vx X E R q mc ms cs sl Sh pc ls st σ Q := by
  intro p l e s m args below meth c H locs la QM hC hX hR hS hL hret
  exact lv_goto hC.1 hC.2.1 hd ht (k p l e s m args below meth c H locs la QM hC hX hR hS hL hret)
theorem vx_ret  (hd : decode q.2.1 pc = .ok (.return_, 1)) (hr : q.2.2.2 = none) (hc : cs ≤ mc) (hs : sl ≤ ms) (k : Q (none) Sh σ) : vx X E R q mc ms cs sl Sh pc ls ([]) σ Q := by
  intro p l e s m args below meth c H locs la QM hC hX hR hS hL hret
  exact W.widen hc hs (hret pc la (none) Sh σ H locs k (by rw [hr]; exact rfl) hR hS (by rw [hr]; exact hd))
theorem vx_less {ls' : List (Option mm_PV)} (h : mm_le ls' ls) (k : vx X E R q mc ms cs sl Sh pc ls' st σ Q) : vx X E R q mc ms cs sl Sh pc ls st σ Q := by
  intro p l e s m args below meth c H locs la QM hC hX hR hS hL hret
  exact (k p l e s m args below meth c H locs la QM hC hX hR hS (hL.less (mm_le_at h)) hret)
theorem vx_getV {o c k i : Nat} {v : mm_PV} (hd : decode q.2.1 pc = .ok (.getfield i, 3)) (hp : pc + 3 = pc') (hf : mm_FL q.1.cls i c k) (ho : 2 ≤ o) (hs : Sh[o]? = some (.inr c)) (hv : mm_fv E (mm_ty c k) (σ o k) = mm_up E v) (kk : (mm_isI (mm_ty c k) = true → inR (σ o k)) → vx X E R q mc ms cs sl Sh pc' ls (v :: st) σ Q) : vx X E R q mc ms cs sl Sh pc ls (vR o :: st) σ Q := by
  subst hp
  intro p l e s m args below meth c9 H locs la QM hC hX hR hS hL hret
  obtain ⟨C, T, N, hc, hk, hw⟩ := hf
  obtain ⟨hN, hty', hnm, hin⟩ := mm_cls hc
  have he := mm_W_get (E := E) (σ := σ) ho hs
  rw [List.map_cons, mm_up_ref (by omega)]
  have hv2 : (mm_fs E c (σ o))[k]? = some (mm_up E v) := by rw [mm_fs_get (hN ▸ hk), hv]
  have hin2 : mm_isI (mm_ty c k) = true → inR (σ o k) := fun h => hR.2.2.2.2.2 o k _ hs (by simp [mm_slotI, h, hN ▸ hk])
  rcases hw with hw | ⟨host, hw⟩
  · exact va_get hC.1 hC.2.1 hC.2.2.2.2.1 hin hC.2.2.2.1 hC.2.2.2.2.2.1 hR.1 (o - 2) he hc k hk (hC.2.2.2.2.1 _ hw) (fun _ h => h) hv2 hd (kk hin2 p l e s m args below meth c9 H locs la QM hC hX hR hS hL hret)
  · exact va_getN hC.1 hC.2.1 hC.2.2.2.2.1 hin hC.2.2.2.1 hC.2.2.2.2.2.1 hR.1 (o - 2) he hc k hk (hC.2.2.2.2.1 _ hw) (fun _ h => h) hv2 hd (kk hin2 p l e s m args below meth c9 H locs la QM hC hX hR hS hL hret)
theorem vx_getR {o c k i : Nat} (hd : decode q.2.1 pc = .ok (.getfield i, 3)) (hp : pc + 3 = pc') (hf : mm_FL q.1.cls i c k) (hty : mm_isR (mm_ty c k) = true) (ho : 2 ≤ o) (hs : Sh[o]? = some (.inr c)) (kk : vx X E R q mc ms cs sl Sh pc' ls (vR (σ o k).toNat :: st) σ Q) : vx X E R q mc ms cs sl Sh pc ls (vR o :: st) σ Q :=
  vx_getV hd hp hf ho hs (by
    generalize mm_ty c k = ty at hty
    cases ty <;> simp [mm_isR] at hty <;> rfl) (fun _ => kk)
theorem vx_getI {o c k i : Nat} (hd : decode q.2.1 pc = .ok (.getfield i, 3)) (hp : pc + 3 = pc') (hf : mm_FL q.1.cls i c k) (hty : mm_isI (mm_ty c k) = true) (ho : 2 ≤ o) (hs : Sh[o]? = some (.inr c)) (kk : inR (σ o k) → vx X E R q mc ms cs sl Sh pc' ls (vI (σ o k) :: st) σ Q) : vx X E R q mc ms cs sl Sh pc ls (vR o :: st) σ Q :=
  vx_getV hd hp hf ho hs (by
    generalize mm_ty c k = ty at hty
    cases ty <;> simp [mm_isI] at hty <;> rfl) (fun h => kk (h hty))
theorem vx_putV {o c k i : Nat} {z : Int} {v : mm_PV} (hd : decode q.2.1 pc = .ok (.putfield i, 3)) (hp : pc + 3 = pc') (hf : mm_FL q.1.cls i c k) (hfin : mm_fin c k = false) (ho : 2 ≤ o) (hs : Sh[o]? = some (.inr c)) (hv : mm_up E v = mm_fv E (mm_ty c k) z) (hn : narrow (mm_ty c k) (mm_up E v) = mm_up E v) (hfit : fits (mm_ty c k) (mm_up E v) = true) (hz : mm_isI (mm_ty c k) = true → inR z) (kk : vx X E R q mc ms cs sl Sh pc' ls st (wr σ o k z) Q) : vx X E R q mc ms cs sl Sh pc ls (v :: vR o :: st) σ Q := by
  subst hp
  intro p l e s m args below meth c9 H locs la QM hC hX hR hS hL hret
  obtain ⟨C, T, N, hc, hk, hw⟩ := hf
  obtain ⟨hN, hty, hnm, hin⟩ := mm_cls hc
  have hfinT : (T k).2.2.2 = false := by simpa [mm_fin, hc] using hfin
  have he := mm_W_get (E := E) (σ := σ) ho hs
  rw [List.map_cons, List.map_cons, mm_up_ref (by omega)]
  have hts := hC.2.2.2.2.1
  have hK := hC.2.2.2.2.2.1
  have hap := va_apart (own := q.1.cls) hts hin (mm_ty c) hty hnm hK hc
  have hD : va_D (mm_A E) (mm_W E Sh σ) := mm_D
  obtain ⟨r, h1, cell, q1, q2, q3, q4⟩ := hR.1 (o - 2) _ he
  have hr : r = (C, T, N) := Option.some.inj (h1.symm.trans hc)
  subst hr
  obtain ⟨hSl, hfc, kC, hkC, hkind⟩ := hK.1 c _ hc
  obtain ⟨cf, kf, fi, f, hi, hsl⟩ := hSl k hk
  have hlay := hts _ (hin _ (u_in_lay hk))
  unfold u_lay at hlay
  rw [if_neg (by rw [hfinT]; decide)] at hlay
  have hst := (u_facts hfc hkC (u_lays hts hin hk) hi).1
  have h6 := u_store hfc hkC hkind hlay hi (hty k hk) hn hfit
  have fin : ∀ H' : Heap, H'[mm_ad E o]? = some (cell.setSlot f.slot (mm_up E v)) → H'.size = H.size → (∀ q, q ≠ mm_ad E o → H'[q]? = H[q]?) → W p l e R s m args below meth c9 H' (locs ++ [⟨mm_ad E o, f.slot⟩]) cs sl QM (F0 m (pc + 3) la (st.map (mm_up E))) := by
    intro H' e1 e2 e3
    rw [hsl] at e1
    have hP1 := hR.1.set hD he (e := .inr (c, (mm_fs E c (σ o)).set k (mm_up E v))) ⟨_, hc, t_OB.to (V := updV (vp_V (mm_fs E c (σ o))) k (mm_up E v)) ⟨_, e1, q2, q3, t_set q4 hap hk _⟩ (fun j _ => vp_updV_set (by rw [mm_fs_len]; exact hN ▸ hk) _ j)⟩ e3
    rw [hv, mm_fs_set (g := wr σ o k z o) wr_same (fun j hj => wr_row hj)] at hP1
    have hP2 : va_P E.1 vwCl (mm_W E Sh (wr σ o k z)) H' := by
      rw [← mm_W_set ho hs (σ := σ) (σ' := wr σ o k z) rfl (fun o' h' => wr_obj h')]
      exact hP1
    have hS1 : va_S (mm_A E) s.heap H' (locs ++ [⟨mm_ad E o, f.slot⟩]) := hS.put e2 e3 (hD.2 _ _ he)
    exact kk p l e s m args below meth c9 H' _ la QM hC hX (hR.put1 (A := mm_A E) hC.2.2.2.2.2.2.1 hS hS1 ho hs (fun h => hz (by simp only [mm_slotI, Bool.and_eq_true] at h; exact h.1)) e2 hP2) hS1 hL hret
  rcases hw with hw | ⟨host, hw⟩
  · exact W.putK hC.1 hC.2.1 (f := f) ⟨hC.2.2.2.1, hts _ hw, ⟨_, _, _, hi⟩, hst⟩ (by rw [q2]; exact h6) q1 q3 (by rw [hsl]; exact k2_hasslot (q4 k hk)) rfl rfl hd fin
  · exact va_WputK hC.1 hC.2.1 (f := f) hC.2.2.2.1 (hts _ hw) hi hst (by rw [q2]; exact h6) q1 q3 (by rw [hsl]; exact k2_hasslot (q4 k hk)) rfl rfl hd fin
theorem vx_putFV {o c k i : Nat} {z : Int} {v : mm_PV} (hd : decode q.2.1 pc = .ok (.putfield i, 3)) (hp : pc + 3 = pc') (hf : ∃ (C : String) (T : u_T) (N : Nat), vwCl[c]? = some (C, T, N) ∧ k < N ∧ (T k).2.2.2 = true ∧ (T k).1 = q.1.cls ∧ Cond.fieldLink q.1.cls i (T k).1 (T k).2.1 (T k).2.2.1 ∈ mm_T) (hq : q.1.name = "<init>") (ho : 2 ≤ o) (hs : Sh[o]? = some (.inr c)) (hv : mm_up E v = mm_fv E (mm_ty c k) z) (hn : narrow (mm_ty c k) (mm_up E v) = mm_up E v) (hfit : fits (mm_ty c k) (mm_up E v) = true) (hz : mm_isI (mm_ty c k) = true → inR z) (kk : vx X E R q mc ms cs sl Sh pc' ls st (wr σ o k z) Q) : vx X E R q mc ms cs sl Sh pc ls (v :: vR o :: st) σ Q := by
  subst hp
  intro p l e s m args below meth c9 H locs la QM hC hX hR hS hL hret
  obtain ⟨C, T, N, hc, hk, hfinT, hdecl, hw⟩ := hf
  obtain ⟨hN, hty, hnm, hin⟩ := mm_cls hc
  have he := mm_W_get (E := E) (σ := σ) ho hs
  rw [List.map_cons, List.map_cons, mm_up_ref (by omega)]
  have hts := hC.2.2.2.2.1
  have hK := hC.2.2.2.2.2.1
  have hap := va_apart (own := q.1.cls) hts hin (mm_ty c) hty hnm hK hc
  have hD : va_D (mm_A E) (mm_W E Sh σ) := mm_D
  obtain ⟨r, h1, cell, q1, q2, q3, q4⟩ := hR.1 (o - 2) _ he
  have hr : r = (C, T, N) := Option.some.inj (h1.symm.trans hc)
  subst hr
  obtain ⟨hSl, hfc, kC, hkC, hkind⟩ := hK.1 c _ hc
  obtain ⟨cf, kf, fi, f, hi, hsl⟩ := hSl k hk
  have hlay := hts _ (hin _ (u_in_lay hk))
  unfold u_lay at hlay
  rw [if_pos hfinT] at hlay
  have hst := (u_facts hfc hkC (u_lays hts hin hk) hi).1
  have hcf : m.cls = cf := by
    obtain ⟨_, _, c', _, _, _, -, -, hf', -, -, -, hown2, -⟩ := Cond.laysFinal_spec hlay
    have e1 : c' = cf := by have := hi.symm.trans hf'; simp at this; exact this.1.symm
    rw [hdecl] at hown2
    rw [← e1]; exact Option.some.inj (hC.2.2.2.1.symm.trans hown2)
  have h6 := u_fits hfc hkC hkind (Or.inr hlay) hi (hty k hk) hn hfit
  refine W.putFinK hC.1 hC.2.1 hC.2.2.2.1 (hts _ hw) hi hst hcf (hC.2.2.2.2.2.2.2.trans hq) (by rw [q2]; exact h6) q1 q3 (by rw [hsl]; exact k2_hasslot (q4 k hk)) rfl rfl hd ?_
  intro H' e1 e2 e3
  rw [hsl] at e1
  have hP1 := hR.1.set hD he (e := .inr (c, (mm_fs E c (σ o)).set k (mm_up E v))) ⟨_, hc, t_OB.to (V := updV (vp_V (mm_fs E c (σ o))) k (mm_up E v)) ⟨_, e1, q2, q3, t_set q4 hap hk _⟩ (fun j _ => vp_updV_set (by rw [mm_fs_len]; exact hN ▸ hk) _ j)⟩ e3
  rw [hv, mm_fs_set (g := wr σ o k z o) wr_same (fun j hj => wr_row hj)] at hP1
  have hP2 : va_P E.1 vwCl (mm_W E Sh (wr σ o k z)) H' := by
    rw [← mm_W_set ho hs (σ := σ) (σ' := wr σ o k z) rfl (fun o' h' => wr_obj h')]
    exact hP1
  have hS1 : va_S (mm_A E) s.heap H' (locs ++ [⟨mm_ad E o, f.slot⟩]) := hS.put e2 e3 (hD.2 _ _ he)
  exact kk p l e s m args below meth c9 H' _ la QM hC hX (hR.put1 (A := mm_A E) hC.2.2.2.2.2.2.1 hS hS1 ho hs (fun h => hz (by simp only [mm_slotI, Bool.and_eq_true] at h; exact h.1)) e2 hP2) hS1 hL hret
theorem vx_putI {o c k i : Nat} {z : Int} (hd : decode q.2.1 pc = .ok (.putfield i, 3)) (hp : pc + 3 = pc') (hf : mm_FL q.1.cls i c k) (hfin : mm_fin c k = false) (hty : mm_ty c k = .int) (ho : 2 ≤ o) (hs : Sh[o]? = some (.inr c)) (hz : inR z) (kk : vx X E R q mc ms cs sl Sh pc' ls st (wr σ o k z) Q) : vx X E R q mc ms cs sl Sh pc ls (vI z :: vR o :: st) σ Q :=
  vx_putV hd hp hf hfin ho hs (by rw [hty]; rfl) (by rw [hty]; rfl) (by rw [hty]; rfl) (fun _ => hz) kk
theorem vx_putL {o c k i : Nat} {z : Int} (hd : decode q.2.1 pc = .ok (.putfield i, 3)) (hp : pc + 3 = pc') (hf : mm_FL q.1.cls i c k) (hfin : mm_fin c k = false) (hty : mm_ty c k = .long) (ho : 2 ≤ o) (hs : Sh[o]? = some (.inr c)) (kk : vx X E R q mc ms cs sl Sh pc' ls st (wr σ o k z) Q) : vx X E R q mc ms cs sl Sh pc ls (vL z :: vR o :: st) σ Q :=
  vx_putV hd hp hf hfin ho hs (by rw [hty]; rfl) (by rw [hty]; rfl) (by rw [hty]; rfl) (fun h => by rw [hty] at h; cases h) kk
theorem vx_putR {o c k i r : Nat} (hd : decode q.2.1 pc = .ok (.putfield i, 3)) (hp : pc + 3 = pc') (hf : mm_FL q.1.cls i c k) (hfin : mm_fin c k = false) (hty : mm_isR (mm_ty c k) = true) (ho : 2 ≤ o) (hs : Sh[o]? = some (.inr c)) (kk : vx X E R q mc ms cs sl Sh pc' ls st (wr σ o k (r : Int)) Q) : vx X E R q mc ms cs sl Sh pc ls (vR r :: vR o :: st) σ Q :=
  vx_putV hd hp hf hfin ho hs (by
    generalize mm_ty c k = ty at hty
    cases ty <;> simp [mm_isR] at hty <;> rfl) (mm_nrf hty).1 (mm_nrf hty).2 (fun h => by
    generalize mm_ty c k = ty at hty h
    cases ty <;> simp [mm_isR] at hty <;> cases h) kk
theorem vx_putFR {o c k i r : Nat} (hd : decode q.2.1 pc = .ok (.putfield i, 3)) (hp : pc + 3 = pc') (hf : ∃ (C : String) (T : u_T) (N : Nat), vwCl[c]? = some (C, T, N) ∧ k < N ∧ (T k).2.2.2 = true ∧ (T k).1 = q.1.cls ∧ Cond.fieldLink q.1.cls i (T k).1 (T k).2.1 (T k).2.2.1 ∈ mm_T) (hq : q.1.name = "<init>") (hty : mm_isR (mm_ty c k) = true) (ho : 2 ≤ o) (hs : Sh[o]? = some (.inr c)) (kk : vx X E R q mc ms cs sl Sh pc' ls st (wr σ o k (r : Int)) Q) : vx X E R q mc ms cs sl Sh pc ls (vR r :: vR o :: st) σ Q :=
  vx_putFV hd hp hf hq ho hs (by
    generalize mm_ty c k = ty at hty
    cases ty <;> simp [mm_isR] at hty <;> rfl) (mm_nrf hty).1 (mm_nrf hty).2 (fun h => by
    generalize mm_ty c k = ty at hty h
    cases ty <;> simp [mm_isR] at hty <;> cases h) kk
theorem vx_putZ {o c k i : Nat} {z : Int} (hd : decode q.2.1 pc = .ok (.putfield i, 3)) (hp : pc + 3 = pc') (hf : mm_FL q.1.cls i c k) (hfin : mm_fin c k = false) (hty : mm_ty c k = .boolean) (ho : 2 ≤ o) (hs : Sh[o]? = some (.inr c)) (hz : z = 0 ∨ z = 1) (kk : vx X E R q mc ms cs sl Sh pc' ls st (wr σ o k z) Q) : vx X E R q mc ms cs sl Sh pc ls (vI z :: vR o :: st) σ Q :=
  vx_putV hd hp hf hfin ho hs (by rw [hty]; rfl) (by rw [hty]; exact mm_nb hz) (by rw [hty]; rcases hz with rfl | rfl <;> rfl) (fun _ => by rcases hz with rfl | rfl <;> exact ⟨by decide, by decide⟩) kk
theorem vx_iastore {o n : Nat} {j z : Int} (hd : decode q.2.1 pc = .ok (.iastore, 1)) (hp : pc + 1 = pc') (ho : 2 ≤ o) (hs : Sh[o]? = some (.inl (.int, n))) (hj : 0 ≤ j) (hj2 : j < n) (hn : n ≤ 2147483647) (hz : inR z) (kk : vx X E R q mc ms cs sl Sh pc' ls st (wr σ o j.toNat z) Q) : vx X E R q mc ms cs sl Sh pc ls (vI z :: vI j :: vR o :: st) σ Q := by
  subst hp
  intro p l e s m args below meth c9 H locs la QM hC hX hR hS hL hret
  have he := mm_W_get (E := E) (σ := σ) ho hs
  obtain ⟨e1, e2⟩ := mm_ix hj hj2 hn
  rw [List.map_cons, List.map_cons, List.map_cons, mm_up_ref (by omega)]
  have hD : va_D (mm_A E) (mm_W E Sh σ) := mm_D
  refine W.iast hC.1 hC.2.1 (hR.1 (o - 2) _ he) ((hC.2.2.2.2.2.1.2 0 _ rfl).1 n (fun k => .int (Int32.ofInt (σ o k)))) (fun q => by cases q) (by show ¬ (_ < 0 ∨ (arrV _ _ _).slots.size ≤ _); rw [arrV_size]; exact e2) rfl rfl hd ?_
  intro H' f1 f2 f3
  rw [e1] at f1
  have f4 : H'[mm_ad E o]? = some (vp_cell (E.2.1 .int) (n, mm_ar E .int (wr σ o j.toNat z o))) := by
    rw [f1]
    show some ((arrV (E.2.1 .int) n (fun k => .int (Int32.ofInt (σ o k)))).setSlot j.toNat _) = some (arrV (E.2.1 .int) n (fun k => .int (Int32.ofInt (wr σ o j.toNat z o k))))
    rw [arrV_store]
    congr 2
    funext k
    by_cases ek : k = j.toNat
    · subst ek
      simp only [updV, if_pos rfl, wr_same, if_true]
    · simp only [updV, if_neg ek, wr_row ek]
  have hP1 := hR.1.set hD he (e := mm_E E (.inl (.int, n)) (wr σ o j.toNat z o)) f4 f3
  have hP2 : va_P E.1 vwCl (mm_W E Sh (wr σ o j.toNat z)) H' := by
    rw [← mm_W_set ho hs (σ := σ) (σ' := wr σ o j.toNat z) rfl (fun o' h' => wr_obj h')]
    exact hP1
  have hS1 : va_S (mm_A E) s.heap H' (locs ++ [⟨mm_ad E o, (Int32.ofInt j).toNatClampNeg⟩]) := hS.put f2 f3 (hD.2 _ _ he)
  exact kk p l e s m args below meth c9 H' _ la QM hC hX (hR.put1 (A := mm_A E) hC.2.2.2.2.2.2.1 hS hS1 ho hs (fun h => hz) f2 hP2) hS1 hL hret
theorem vx_invV (hXO : XO E X) {i d mc' ms' : Nat} {q' : mm_Y} {As st0 : List mm_PV} {o c : Nat} {C : String} {T : u_T} {N : Nat} (hd : decode q.2.1 pc = .ok (.invokevirtual i, 3)) (hp : pc + 3 = pc') (hg : mm_good q' As.length) (hl : Cond.methodLink q.1.cls i q'.1 ∈ mm_T) (hc : vwCl[c]? = some (C, T, N)) (hcl : q'.1.cls = C) (ho : 2 ≤ o) (hs : Sh[o]? = some (.inr c)) (hin : Cond.instanceMethod q'.1 ∈ mm_T) (hse : Cond.selects q'.1.cls q'.1 q'.1 ∈ mm_T) (hs0 : st0 = As.reverse ++ vR o :: st) (hfr : d + 1 ≤ R.frames) (hlo : 40 * (d + 1) ≤ R.locals) (hce : cs + mc' ≤ R.cells) (hsl : sl + ms' ≤ R.slots) (hrm : (st.map mm_cw).sum ≤ 8) (kk : vmX X E d mc' ms' q' (vR o :: As) Sh σ (fun v Sh' σ' => vx X E R q mc ms (cs + mc') (sl + ms') Sh' pc' ls (v.toList ++ st) σ' Q)) : vx X E R q mc ms cs sl Sh pc ls st0 σ Q := by
  subst hp
  intro p l e s m args below meth c9 H locs la QM hC hX hR hS hL hret
  have hts := hC.2.2.2.2.1
  have hK := hC.2.2.2.2.2.1
  have he := mm_W_get (E := E) (σ := σ) ho hs
  have hcw : Cond.code q'.1 q'.2.1 q'.2.2.1 q'.2.2.2 ∈ mm_ws q' := by show Cond.code q'.1 q'.2.1 q'.2.2.1 q'.2.2.2 ∈ Cond.code q'.1 q'.2.1 q'.2.2.1 q'.2.2.2 :: mm_T; exact List.mem_cons_self
  have hws : ∀ w ∈ mm_ws q', ∀ (a' : Array Value) (U : State), s.WarmedH U.vm → w.before a' U = true := by
    intro w hw a' U hW
    rcases List.mem_cons.mp hw with rfl | hw
    · exact mm_T_pay hts _ hg.1 a' U hW
    · exact mm_T_pay hts _ hw a' U hW
  have hlen : ∀ sig, parseMethodDescriptor q'.1.desc = some sig → (As.map (mm_up E)).length = sig.parameters.length := by
    intro sig h
    have h2 := hg.2.2.2.1
    rw [h] at h2
    rw [List.length_map]
    exact (Option.some.inj h2).symm
  have hrun := va_runV (l := l) (e := e) (below := below) (meth := meth) (locs := locs) (cells := cs) (slots := sl) (g := F0 m pc la (st0.map (mm_up E))) (As := As.map (mm_up E)) (b := mm_ad E o) (rest := st.map (mm_up E)) (C := q'.1.cls) (bytes := q'.2.1) (maxL := q'.2.2.1) (ret := q'.2.2.2) (n := (As.map (mm_up E)).length) (H := H) (R := R) ⟨hC.1, hC.2.1, hC.2.2.1, hC.2.2.2.1, hts⟩ (kk l)
    ⟨⟨rfl, rfl, hfr, by have := hg.2.2.2.2; show 8 + (q'.2.2.1 + 11) + 40 * d ≤ R.locals; omega, hws, hcw, hts _ hg.1, hts _ hg.2.1, hg.2.2.1, hlen, hts _ hl⟩, hts _ hin, hts _ hse⟩
    ⟨mm_blindX hXO, hcl ▸ va_recv hK hR.1 hc he, fun U hU hW => ⟨by rw [List.map_cons, mm_up_ref (by omega)], by rw [hU]; exact hR.moved hW.alike, va_K.moved hW.alike hK, hXO s U H locs hS hW hU hX⟩⟩
    rfl rfl hL.1 (by rw [hs0, List.map_append, List.map_reverse, List.map_cons, mm_up_ref (by omega)]) (by rw [mm_cw_sum]; show 2 * 0 + _ ≤ 8; omega) hd ⟨hce, hsl⟩
  refine mm_back hrun hS ?_
  intro v Sh' σ' H1 locs1 hq hR1 hS1
  rw [mm_tl]
  exact hq p l e s m args below meth c9 H1 locs1 la QM hC hX hR1 hS1 hL hret
theorem vx_invVN (hXO : XO E X) {i d mc' ms' : Nat} {q' : mm_Y} {As st0 : List mm_PV} {o c : Nat} {C : String} {T : u_T} {N : Nat} {host : String} (hd : decode q.2.1 pc = .ok (.invokevirtual i, 3)) (hp : pc + 3 = pc') (hg : mm_good q' As.length) (hl : Cond.methodLinkNest q.1.cls i q'.1 host ∈ mm_T) (hc : vwCl[c]? = some (C, T, N)) (hcl : q'.1.cls = C) (ho : 2 ≤ o) (hs : Sh[o]? = some (.inr c)) (hin : Cond.instanceMethod q'.1 ∈ mm_T) (hse : Cond.selects q'.1.cls q'.1 q'.1 ∈ mm_T) (hs0 : st0 = As.reverse ++ vR o :: st) (hfr : d + 1 ≤ R.frames) (hlo : 40 * (d + 1) ≤ R.locals) (hce : cs + mc' ≤ R.cells) (hsl : sl + ms' ≤ R.slots) (hrm : (st.map mm_cw).sum ≤ 8) (kk : vmX X E d mc' ms' q' (vR o :: As) Sh σ (fun v Sh' σ' => vx X E R q mc ms (cs + mc') (sl + ms') Sh' pc' ls (v.toList ++ st) σ' Q)) : vx X E R q mc ms cs sl Sh pc ls st0 σ Q := by
  subst hp
  intro p l e s m args below meth c9 H locs la QM hC hX hR hS hL hret
  have hts := hC.2.2.2.2.1
  have hK := hC.2.2.2.2.2.1
  have he := mm_W_get (E := E) (σ := σ) ho hs
  have hcw : Cond.code q'.1 q'.2.1 q'.2.2.1 q'.2.2.2 ∈ mm_ws q' := by show Cond.code q'.1 q'.2.1 q'.2.2.1 q'.2.2.2 ∈ Cond.code q'.1 q'.2.1 q'.2.2.1 q'.2.2.2 :: mm_T; exact List.mem_cons_self
  have hws : ∀ w ∈ mm_ws q', ∀ (a' : Array Value) (U : State), s.WarmedH U.vm → w.before a' U = true := by
    intro w hw a' U hW
    rcases List.mem_cons.mp hw with rfl | hw
    · exact mm_T_pay hts _ hg.1 a' U hW
    · exact mm_T_pay hts _ hw a' U hW
  have hlen : ∀ sig, parseMethodDescriptor q'.1.desc = some sig → (As.map (mm_up E)).length = sig.parameters.length := by
    intro sig h
    have h2 := hg.2.2.2.1
    rw [h] at h2
    rw [List.length_map]
    exact (Option.some.inj h2).symm
  have hrun := va_runVN (l := l) (e := e) (below := below) (meth := meth) (locs := locs) (cells := cs) (slots := sl) (g := F0 m pc la (st0.map (mm_up E))) (As := As.map (mm_up E)) (b := mm_ad E o) (rest := st.map (mm_up E)) (C := q'.1.cls) (bytes := q'.2.1) (maxL := q'.2.2.1) (ret := q'.2.2.2) (n := (As.map (mm_up E)).length) (H := H) (R := R) ⟨hC.1, hC.2.1, hC.2.2.1, hC.2.2.2.1, hts⟩ (kk l)
    ⟨⟨⟨rfl, rfl, hfr, by have := hg.2.2.2.2; show 8 + (q'.2.2.1 + 11) + 40 * d ≤ R.locals; omega, hws, hcw⟩, hts _ hg.1, hts _ hg.2.1, hg.2.2.1, hlen, hts _ hl⟩, hts _ hin, hts _ hse⟩
    ⟨mm_blindX hXO, hcl ▸ va_recv hK hR.1 hc he, fun U hU hW => ⟨by rw [List.map_cons, mm_up_ref (by omega)], by rw [hU]; exact hR.moved hW.alike, va_K.moved hW.alike hK, hXO s U H locs hS hW hU hX⟩⟩
    rfl rfl hL.1 (by rw [hs0, List.map_append, List.map_reverse, List.map_cons, mm_up_ref (by omega)]) (by rw [mm_cw_sum]; show 2 * 0 + _ ≤ 8; omega) hd ⟨hce, hsl⟩
  refine mm_back hrun hS ?_
  intro v Sh' σ' H1 locs1 hq hR1 hS1
  rw [mm_tl]
  exact hq p l e s m args below meth c9 H1 locs1 la QM hC hX hR1 hS1 hL hret
theorem vx_invS (hXO : XO E X) {i d mc' ms' : Nat} {q' : mm_Y} {As st0 : List mm_PV} (hd : decode q.2.1 pc = .ok (.invokestatic i, 3)) (hp : pc + 3 = pc') (hg : mm_good q' As.length) (hl : Cond.methodLink q.1.cls i q'.1 ∈ mm_T) (hstt : Cond.static q'.1 ∈ mm_T) (hs0 : st0 = As.reverse ++ st) (hfr : d + 1 ≤ R.frames) (hlo : 40 * (d + 1) ≤ R.locals) (hce : cs + mc' ≤ R.cells) (hsl : sl + ms' ≤ R.slots) (hrm : (st.map mm_cw).sum ≤ 8) (kk : vmX X E d mc' ms' q' (As) Sh σ (fun v Sh' σ' => vx X E R q mc ms (cs + mc') (sl + ms') Sh' pc' ls (v.toList ++ st) σ' Q)) : vx X E R q mc ms cs sl Sh pc ls st0 σ Q := by
  subst hp
  intro p l e s m args below meth c9 H locs la QM hC hX hR hS hL hret
  have hts := hC.2.2.2.2.1
  have hK := hC.2.2.2.2.2.1
  have hcw : Cond.code q'.1 q'.2.1 q'.2.2.1 q'.2.2.2 ∈ mm_ws q' := by show Cond.code q'.1 q'.2.1 q'.2.2.1 q'.2.2.2 ∈ Cond.code q'.1 q'.2.1 q'.2.2.1 q'.2.2.2 :: mm_T; exact List.mem_cons_self
  have hws : ∀ w ∈ mm_ws q', ∀ (a' : Array Value) (U : State), s.WarmedH U.vm → w.before a' U = true := by
    intro w hw a' U hW
    rcases List.mem_cons.mp hw with rfl | hw
    · exact mm_T_pay hts _ hg.1 a' U hW
    · exact mm_T_pay hts _ hw a' U hW
  have hlen : ∀ sig, parseMethodDescriptor q'.1.desc = some sig → (As.map (mm_up E)).length = sig.parameters.length := by
    intro sig h
    have h2 := hg.2.2.2.1
    rw [h] at h2
    rw [List.length_map]
    exact (Option.some.inj h2).symm
  have hrun := va_runS (l := l) (e := e) (below := below) (meth := meth) (locs := locs) (cells := cs) (slots := sl) (g := F0 m pc la (st0.map (mm_up E))) (As := As.map (mm_up E)) (rest := st.map (mm_up E)) (bytes := q'.2.1) (maxL := q'.2.2.1) (ret := q'.2.2.2) (n := (As.map (mm_up E)).length) (H := H) (R := R) ⟨hC.1, hC.2.1, hC.2.2.1, hC.2.2.2.1, hts⟩ (kk l)
    ⟨⟨rfl, rfl, hfr, by have := hg.2.2.2.2; show 8 + (q'.2.2.1 + 11) + 40 * d ≤ R.locals; omega, hws, hcw, hts _ hg.1, hts _ hg.2.1, hg.2.2.1, hlen, hts _ hl⟩, hts _ hstt⟩
    ⟨mm_blindX hXO, fun U hU hW => ⟨rfl, by rw [hU]; exact hR.moved hW.alike, va_K.moved hW.alike hK, hXO s U H locs hS hW hU hX⟩⟩
    rfl rfl hL.1 (by rw [hs0, List.map_append, List.map_reverse]) (by rw [mm_cw_sum]; show 2 * 0 + _ ≤ 8; omega) hd ⟨hce, hsl⟩
  refine mm_back hrun hS ?_
  intro v Sh' σ' H1 locs1 hq hR1 hS1
  rw [mm_tl]
  exact hq p l e s m args below meth c9 H1 locs1 la QM hC hX hR1 hS1 hL hret
theorem vx_invSN (hXO : XO E X) {i d mc' ms' : Nat} {q' : mm_Y} {As st0 : List mm_PV} {host : String} (hd : decode q.2.1 pc = .ok (.invokestatic i, 3)) (hp : pc + 3 = pc') (hg : mm_good q' As.length) (hl : Cond.methodLinkNest q.1.cls i q'.1 host ∈ mm_T) (hstt : Cond.static q'.1 ∈ mm_T) (hs0 : st0 = As.reverse ++ st) (hfr : d + 1 ≤ R.frames) (hlo : 40 * (d + 1) ≤ R.locals) (hce : cs + mc' ≤ R.cells) (hsl : sl + ms' ≤ R.slots) (hrm : (st.map mm_cw).sum ≤ 8) (kk : vmX X E d mc' ms' q' (As) Sh σ (fun v Sh' σ' => vx X E R q mc ms (cs + mc') (sl + ms') Sh' pc' ls (v.toList ++ st) σ' Q)) : vx X E R q mc ms cs sl Sh pc ls st0 σ Q := by
  subst hp
  intro p l e s m args below meth c9 H locs la QM hC hX hR hS hL hret
  have hts := hC.2.2.2.2.1
  have hK := hC.2.2.2.2.2.1
  have hcw : Cond.code q'.1 q'.2.1 q'.2.2.1 q'.2.2.2 ∈ mm_ws q' := by show Cond.code q'.1 q'.2.1 q'.2.2.1 q'.2.2.2 ∈ Cond.code q'.1 q'.2.1 q'.2.2.1 q'.2.2.2 :: mm_T; exact List.mem_cons_self
  have hws : ∀ w ∈ mm_ws q', ∀ (a' : Array Value) (U : State), s.WarmedH U.vm → w.before a' U = true := by
    intro w hw a' U hW
    rcases List.mem_cons.mp hw with rfl | hw
    · exact mm_T_pay hts _ hg.1 a' U hW
    · exact mm_T_pay hts _ hw a' U hW
  have hlen : ∀ sig, parseMethodDescriptor q'.1.desc = some sig → (As.map (mm_up E)).length = sig.parameters.length := by
    intro sig h
    have h2 := hg.2.2.2.1
    rw [h] at h2
    rw [List.length_map]
    exact (Option.some.inj h2).symm
  have hrun := va_runSN (l := l) (e := e) (below := below) (meth := meth) (locs := locs) (cells := cs) (slots := sl) (g := F0 m pc la (st0.map (mm_up E))) (As := As.map (mm_up E)) (rest := st.map (mm_up E)) (bytes := q'.2.1) (maxL := q'.2.2.1) (ret := q'.2.2.2) (n := (As.map (mm_up E)).length) (H := H) (R := R) ⟨hC.1, hC.2.1, hC.2.2.1, hC.2.2.2.1, hts⟩ (kk l)
    ⟨⟨⟨rfl, rfl, hfr, by have := hg.2.2.2.2; show 8 + (q'.2.2.1 + 11) + 40 * d ≤ R.locals; omega, hws, hcw⟩, hts _ hg.1, hts _ hg.2.1, hg.2.2.1, hlen, hts _ hl⟩, hts _ hstt, trivial⟩
    ⟨mm_blindX hXO, fun U hU hW => ⟨rfl, by rw [hU]; exact hR.moved hW.alike, va_K.moved hW.alike hK, hXO s U H locs hS hW hU hX⟩⟩
    rfl rfl hL.1 (by rw [hs0, List.map_append, List.map_reverse]) (by rw [mm_cw_sum]; show 2 * 0 + _ ≤ 8; omega) hd ⟨hce, hsl⟩
  refine mm_back hrun hS ?_
  intro v Sh' σ' H1 locs1 hq hR1 hS1
  rw [mm_tl]
  exact hq p l e s m args below meth c9 H1 locs1 la QM hC hX hR1 hS1 hL hret
theorem vx_invI (hXO : XO E X) {i d mc' ms' : Nat} {q' : mm_Y} {As st0 : List mm_PV} {o : Nat} (hd : decode q.2.1 pc = .ok (.invokespecial i, 3)) (hp : pc + 3 = pc') (hg : mm_good q' As.length) (hl : Cond.methodLink q.1.cls i q'.1 ∈ mm_T) (ho : 2 ≤ o) (hin : Cond.instanceMethod q'.1 ∈ mm_T) (hnm : q'.1.name = "<init>") (hrt : q'.2.2.2 = none) (hs0 : st0 = As.reverse ++ vR o :: st) (hfr : d + 1 ≤ R.frames) (hlo : 40 * (d + 1) ≤ R.locals) (hce : cs + mc' ≤ R.cells) (hsl : sl + ms' ≤ R.slots) (hrm : (st.map mm_cw).sum ≤ 8) (kk : vmX X E d mc' ms' q' (vR o :: As) Sh σ (fun v Sh' σ' => vx X E R q mc ms (cs + mc') (sl + ms') Sh' pc' ls (v.toList ++ st) σ' Q)) : vx X E R q mc ms cs sl Sh pc ls st0 σ Q := by
  subst hp
  intro p l e s m args below meth c9 H locs la QM hC hX hR hS hL hret
  have hts := hC.2.2.2.2.1
  have hK := hC.2.2.2.2.2.1
  have hcw : Cond.code q'.1 q'.2.1 q'.2.2.1 none ∈ mm_ws q' := by show Cond.code q'.1 q'.2.1 q'.2.2.1 none ∈ Cond.code q'.1 q'.2.1 q'.2.2.1 q'.2.2.2 :: mm_T; rw [hrt]; exact List.mem_cons_self
  have hws : ∀ w ∈ mm_ws q', ∀ (a' : Array Value) (U : State), s.WarmedH U.vm → w.before a' U = true := by
    intro w hw a' U hW
    rcases List.mem_cons.mp hw with rfl | hw
    · exact mm_T_pay hts _ hg.1 a' U hW
    · exact mm_T_pay hts _ hw a' U hW
  have hlen : ∀ sig, parseMethodDescriptor q'.1.desc = some sig → (As.map (mm_up E)).length = sig.parameters.length := by
    intro sig h
    have h2 := hg.2.2.2.1
    rw [h] at h2
    rw [List.length_map]
    exact (Option.some.inj h2).symm
  have hrun := va_runI (l := l) (e := e) (below := below) (meth := meth) (locs := locs) (cells := cs) (slots := sl) (g := F0 m pc la (st0.map (mm_up E))) (As := As.map (mm_up E)) (b := mm_ad E o) (rest := st.map (mm_up E)) (bytes := q'.2.1) (maxL := q'.2.2.1) (n := (As.map (mm_up E)).length) (H := H) (R := R) ⟨hC.1, hC.2.1, hC.2.2.1, hC.2.2.2.1, hts⟩ (kk l)
    ⟨⟨rfl, rfl, hfr, by have := hg.2.2.2.2; show 8 + (q'.2.2.1 + 11) + 40 * d ≤ R.locals; omega, hws, hcw, hrt ▸ hts _ hg.1, hts _ hg.2.1, hg.2.2.1, hlen, hts _ hl⟩, hnm, hts _ hin⟩
    ⟨mm_blindX hXO, fun U hU hW => ⟨by rw [List.map_cons, mm_up_ref (by omega)], by rw [hU]; exact hR.moved hW.alike, va_K.moved hW.alike hK, hXO s U H locs hS hW hU hX⟩⟩
    rfl rfl hL.1 (by rw [hs0, List.map_append, List.map_reverse, List.map_cons, mm_up_ref (by omega)]) (by rw [mm_cw_sum]; show 2 * 0 + _ ≤ 8; omega) hd ⟨hce, hsl⟩
  refine mm_back hrun hS ?_
  intro v Sh' σ' H1 locs1 hq hR1 hS1
  rw [mm_tl]
  exact hq p l e s m args below meth c9 H1 locs1 la QM hC hX hR1 hS1 hL hret
theorem vx_invIN (hXO : XO E X) {i d mc' ms' : Nat} {q' : mm_Y} {As st0 : List mm_PV} {o : Nat} {host : String} (hd : decode q.2.1 pc = .ok (.invokespecial i, 3)) (hp : pc + 3 = pc') (hg : mm_good q' As.length) (hl : Cond.methodLinkNest q.1.cls i q'.1 host ∈ mm_T) (ho : 2 ≤ o) (hin : Cond.instanceMethod q'.1 ∈ mm_T) (hnm : q'.1.name = "<init>") (hrt : q'.2.2.2 = none) (hs0 : st0 = As.reverse ++ vR o :: st) (hfr : d + 1 ≤ R.frames) (hlo : 40 * (d + 1) ≤ R.locals) (hce : cs + mc' ≤ R.cells) (hsl : sl + ms' ≤ R.slots) (hrm : (st.map mm_cw).sum ≤ 8) (kk : vmX X E d mc' ms' q' (vR o :: As) Sh σ (fun v Sh' σ' => vx X E R q mc ms (cs + mc') (sl + ms') Sh' pc' ls (v.toList ++ st) σ' Q)) : vx X E R q mc ms cs sl Sh pc ls st0 σ Q := by
  subst hp
  intro p l e s m args below meth c9 H locs la QM hC hX hR hS hL hret
  have hts := hC.2.2.2.2.1
  have hK := hC.2.2.2.2.2.1
  have hcw : Cond.code q'.1 q'.2.1 q'.2.2.1 none ∈ mm_ws q' := by show Cond.code q'.1 q'.2.1 q'.2.2.1 none ∈ Cond.code q'.1 q'.2.1 q'.2.2.1 q'.2.2.2 :: mm_T; rw [hrt]; exact List.mem_cons_self
  have hws : ∀ w ∈ mm_ws q', ∀ (a' : Array Value) (U : State), s.WarmedH U.vm → w.before a' U = true := by
    intro w hw a' U hW
    rcases List.mem_cons.mp hw with rfl | hw
    · exact mm_T_pay hts _ hg.1 a' U hW
    · exact mm_T_pay hts _ hw a' U hW
  have hlen : ∀ sig, parseMethodDescriptor q'.1.desc = some sig → (As.map (mm_up E)).length = sig.parameters.length := by
    intro sig h
    have h2 := hg.2.2.2.1
    rw [h] at h2
    rw [List.length_map]
    exact (Option.some.inj h2).symm
  have hrun := va_runIN (l := l) (e := e) (below := below) (meth := meth) (locs := locs) (cells := cs) (slots := sl) (g := F0 m pc la (st0.map (mm_up E))) (As := As.map (mm_up E)) (b := mm_ad E o) (rest := st.map (mm_up E)) (bytes := q'.2.1) (maxL := q'.2.2.1) (n := (As.map (mm_up E)).length) (H := H) (R := R) ⟨hC.1, hC.2.1, hC.2.2.1, hC.2.2.2.1, hts⟩ (kk l)
    ⟨⟨⟨rfl, rfl, hfr, by have := hg.2.2.2.2; show 8 + (q'.2.2.1 + 11) + 40 * d ≤ R.locals; omega, hws, hcw⟩, hrt ▸ hts _ hg.1, hts _ hg.2.1, hg.2.2.1, hlen, hts _ hl⟩, hnm, hts _ hin⟩
    ⟨mm_blindX hXO, fun U hU hW => ⟨by rw [List.map_cons, mm_up_ref (by omega)], by rw [hU]; exact hR.moved hW.alike, va_K.moved hW.alike hK, hXO s U H locs hS hW hU hX⟩⟩
    rfl rfl hL.1 (by rw [hs0, List.map_append, List.map_reverse, List.map_cons, mm_up_ref (by omega)]) (by rw [mm_cw_sum]; show 2 * 0 + _ ≤ 8; omega) hd ⟨hce, hsl⟩
  refine mm_back hrun hS ?_
  intro v Sh' σ' H1 locs1 hq hR1 hS1
  rw [mm_tl]
  exact hq p l e s m args below meth c9 H1 locs1 la QM hC hX hR1 hS1 hL hret
end VxRows
