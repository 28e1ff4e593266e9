def mm_lxor (a b : Int) : Int := (Int64.ofInt a ^^^ Int64.ofInt b).toInt
theorem mm_lxor_eq (a b : Int) : Int64.ofInt (mm_lxor a b) = Int64.ofInt a ^^^ Int64.ofInt b := Int64.ofInt_toInt _
theorem u_lxor {E : mm_Env} {d : Nat} {q : mm_Y} {pc pc' : Nat} {ls : List (Option mm_PV)} {st : List mm_PV} {τ : mm_Mem} {Q : mm_Q0} {a b : Int} (hd : decode q.2.1 pc = .ok (.lxor, 1)) (hp : pc + 1 = pc') (k : V0 E d q pc' ls (vL (mm_lxor a b) :: st) τ Q) : V0 E d q pc ls (vL b :: vL a :: st) τ Q := by
  subst hp
  intro p l e s m args below meth c H locs la QM hC hR hS hL hret
  refine lv_lxor hC.1 hC.2.1 hd ?_
  rw [← mm_lxor_eq]
  exact k p l e s m args below meth c H locs la QM hC hR hS hL hret
theorem vm_ofF {E : mm_Env} {d mc ms : Nat} {q : mm_Y} {As : List mm_PV} {Sh : List mm_Kd} {σ : mm_Mem} {Q : mm_Q} (hp : plainFor q.1 = true) (hn : (mm_ent As).length ≤ q.2.2.1) (ls : List (Option mm_PV)) (hls : mm_loc As q.2.2.1 = ls) (h : vv E (mm_rm d mc ms) q mc ms 0 0 Sh 0 ls [] σ Q) : vm E d mc ms q As Sh σ Q := by
  intro l
  refine va_MetF (cc := q.2.1) (maxL := q.2.2.1) (ret := q.2.2.2) hp rfl ?_
  intro p e s m args below meth c s₁ B hml hv
  obtain ⟨rfl, hR, hK⟩ := hv
  have hts := atoms_spec (ws := mm_ws q) B.pre
  have hown : s.vm.findClass q.1.cls = some m.cls := findClass_of_methodNamed B.named
  have hlocks := B.notSynchronized
  have hbytes := B.bytes
  have hx := B.exec
  have hr := B.returns
  rw [lg_entry_eq]
  have hl := lv_entry (As.map (mm_up E)) (n := q.2.2.1) (by rw [mm_ent_len]; exact hn)
  have hls2 : mm_Ls E ((lg_sl (As.map (mm_up E)) ++ List.replicate (q.2.2.1 - (lg_sl (As.map (mm_up E))).length) Slot.unset).toArray) q.2.2.1 ls := by
    subst hls
    unfold mm_Ls mm_loc
    rw [mm_ent_args]
    exact hl
  have hbs : E.2.2.2.1 ≤ s.heap.size := by rw [hR.2.1]; omega
  refine h p l e s m _ below meth c s.heap [] _ _ ⟨hx, hbytes, hml, hown, fun w hw => hts w (List.mem_cons_of_mem _ hw), hK, hbs, (name_of_methodNamed B.named B.method).1⟩ hR va_S.rf hls2 ?_
  intro pc' la' v Sh' σ' H' locs' hQ hfit hR' hS' hd
  have hq : ∀ t : State, t.heap = H' → s.WarmedH t.vm → mm_Post E Q ((As.map (mm_up E)).toArray) s (.returned (v.map (mm_up E))) t := fun t ht hW => ⟨⟨v, Sh', σ', rfl, hQ, by rw [ht]; exact hR'.moved hW.alike⟩, hS'.F ht⟩
  generalize hrq : q.2.2.2 = rt at *
  cases rt with
  | none =>
    have e : v = none := hfit
    subst e
    exact W.vret hx hbytes hr hq hS'.2.2 hd
  | some ty =>
    cases ty with
    | int => obtain ⟨z, rfl⟩ := hfit; exact W.iret hx hbytes hr hq hS'.2.2 hd
    | boolean => obtain ⟨z, rfl, hz⟩ := hfit; exact W.zret hx hbytes hr (mm_nb hz) hq hS'.2.2 hd
    | long => obtain ⟨z, rfl⟩ := hfit; exact W.lret hx hbytes hr hq hS'.2.2 hd
    | object C => obtain ⟨o, rfl⟩ := hfit; exact W.aret hx hbytes hr (Or.inl ⟨C, rfl⟩) mm_ref_or hq hS'.2.2 hd
    | _ => exact hfit.elim
theorem M0_ofF {E : mm_Env} {d : Nat} {q : mm_Y} {As : List mm_PV} {τ : mm_Mem} {Q : mm_Q0} (hp : plainFor q.1 = true) (hn : (mm_ent As).length ≤ q.2.2.1) (ls : List (Option mm_PV)) (hls : mm_loc As q.2.2.1 = ls) (h : V0 E d q 0 ls [] τ Q) : M0 E d q As τ Q := vm_ofF hp hn ls hls h
