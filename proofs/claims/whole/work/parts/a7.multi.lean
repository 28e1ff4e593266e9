/-! an array of arrays -/
theorem mm_Rep.grow {E : mm_Env} {Sh M : List mm_Kd} {σ σ' : mm_Mem} {s : State} {H H1 : Heap} (hR : mm_Rep E Sh σ s H) (hσ : ∀ o, o < Sh.length → σ' o = σ o) (hat : ∀ (j : Nat) (kd : mm_Kd), M[j]? = some kd → va_at E.1 vwCl (H.size + j, mm_E E kd (σ' (Sh.length + j))) H1) (hr : ∀ (j : Nat) (kd : mm_Kd) (k : Nat), M[j]? = some kd → mm_slotI kd k = true → inR (σ' (Sh.length + j) k)) (z1 : H1.size = H.size + M.length) (o1 : ∀ q, q < H.size → H1[q]? = H[q]?) : mm_Rep E (Sh ++ M) σ' s H1 := by
  obtain ⟨hP, h2, h3, h4, h5, h6⟩ := hR
  have e1 : σ' 1 = σ 1 := hσ 1 (by omega)
  refine ⟨fun i x hx => ?_, ?_, ?_, ?_, h5, fun o k kd' q1 q2 => ?_⟩
  · obtain ⟨hi, rfl⟩ := mm_W_some hx
    rw [List.length_append] at hi
    by_cases q : i + 2 < Sh.length
    · have hg : (Sh ++ M).getD (i + 2) (.inr 99) = Sh.getD (i + 2) (.inr 99) := by rw [List.getD_eq_getElem?_getD, List.getD_eq_getElem?_getD, List.getElem?_append_left q]
      rw [hg, hσ _ q]
      obtain ⟨kd, hkd⟩ : ∃ kd, Sh[i + 2]? = some kd := ⟨_, List.getElem?_eq_getElem q⟩
      have hw := mm_W_get (E := E) (σ := σ) (o := i + 2) (by omega) hkd
      have hp := hP _ _ hw
      have e : mm_ad E (i + 2) = E.2.2.2.1 + i := by unfold mm_ad; rw [if_neg (by omega)]; omega
      rw [e] at hp
      rw [List.getD_eq_getElem?_getD, hkd]
      exact hp.kept (o1 _ (by rw [h2]; show E.2.2.2.1 + i < _; omega))
    · obtain ⟨kd, hkd⟩ : ∃ kd, M[i + 2 - Sh.length]? = some kd := ⟨_, List.getElem?_eq_getElem (by omega)⟩
      have hp := hat _ _ hkd
      rw [List.getD_eq_getElem?_getD, List.getElem?_append_right (by omega), hkd]
      rw [h2, show E.2.2.2.1 + (Sh.length - 2) + (i + 2 - Sh.length) = E.2.2.2.1 + i by omega, show Sh.length + (i + 2 - Sh.length) = i + 2 by omega] at hp
      exact hp
  · rw [z1, h2, List.length_append]; omega
  · rw [List.length_append]; omega
  · rw [e1]; exact h4.kept (o1 _ (by omega))
  · by_cases q : o < Sh.length
    · rw [List.getElem?_append_left q] at q1
      rw [hσ o q]; exact h6 o k kd' q1 q2
    · rw [List.getElem?_append_right (by omega)] at q1
      have := hr _ _ k q1 q2
      rw [show Sh.length + (o - Sh.length) = o by omega] at this
      exact this
section VxMulti
variable {X : State → Prop} {E : mm_Env} {R : Room} {q : mm_Y} {mc ms cs sl : Nat} {Sh : List mm_Kd} {pc pc' : Nat} {ls : List (Option mm_PV)} {st : List mm_PV} {σ : mm_Mem} {Q : mm_Q}
def mul3 (σ : mm_Mem) (n : Nat) : mm_Mem := wr (wr (wr σ n 0 ((n + 1 : Nat) : Int)) n 1 ((n + 2 : Nat) : Int)) n 2 ((n + 3 : Nat) : Int)
theorem vx_multi {i n : Nat} (hd : decode q.2.1 pc = .ok (.multianewarray i 2, 4)) (hp : pc + 4 = pc') (hl : Cond.classLink q.1.cls i "[[I" ∈ mm_T) (hov : ∀ s, X s → (Cond.arrayOver (.array .int)).before #[] s = true) (hn : Sh.length = n) (hz : ∀ o, n ≤ o → ∀ k, σ o k = 0) (hce : cs + (1 + 3) ≤ R.cells) (hsl : sl + (3 + 3 * 1000) ≤ R.slots) (kk : vx X E R q mc ms (cs + 1 + 3) (sl + 3 + 3 * 1000) (Sh ++ [.inl (.array .int, 3), .inl (.int, 1000), .inl (.int, 1000), .inl (.int, 1000)]) pc' ls (vR n :: st) (mul3 σ n) Q) : vx X E R q mc ms cs sl Sh pc ls (vI 1000 :: vI 3 :: st) σ Q := by
  subst hp
  intro p l e s m args below meth c9 H locs la QM hC hX hR hS hL hret
  have hts := hC.2.2.2.2.1
  have hK := hC.2.2.2.2.2.1
  have hu := mm_up_new hR
  have h2 := hR.2.1
  have h3 := hR.2.2.1
  have t3 : (Int32.ofInt 3).toNatClampNeg = 3 := by decide
  have t1 : (Int32.ofInt 1000).toNatClampNeg = 1000 := by decide
  intro T hT XS
  obtain ⟨vm₁, cA, comp, hW, hfA, hfC, hO, hI, X1, step⟩ := XS.multianewarray2F (g := F0 m pc la ((vI 1000 :: vI 3 :: st).map (mm_up E))) hC.1 (index := i) (ty := .int) hC.2.2.2.1 (hts _ hl) (hov s hX) (hts _ wm_72) rfl (by rw [hC.2.1]; exact hd) (n := Int32.ofInt 3) (k := Int32.ofInt 1000) (rest := st.map (mm_up E)) rfl (by decide) (by decide) (by rw [t3]; omega) (by rw [t1]; simp [componentBytes]) (by rw [t1]; omega) rfl rfl (by rw [t3]; exact hce) (by rw [t3, t1]; exact hsl)
  rw [t3, t1] at X1 step
  have ecA : cA = E.2.1 (.array .int) := by
    have h9 : s.vm.findClass ("[" ++ (FieldType.array .int).toString) = some (E.2.1 (.array .int)) := (hK.2 5 _ rfl).2
    exact Option.some.inj (hfA.symm.trans h9)
  have eco : comp = E.2.1 .int := by
    have h9 : s.vm.findClass ("[" ++ (FieldType.int).toString) = some (E.2.1 .int) := (hK.2 0 _ rfl).2
    exact Option.some.inj (hfC.symm.trans h9)
  subst ecA; subst eco; subst hT
  obtain ⟨f1, f2, f3, f4⟩ := Jvm.Free.Multi.fill_facts (T.setVm vm₁) (E.2.1 (.array .int)) (E.2.1 .int) 3 1000 (defaultValue .int) 3
  have fo := fun (a : Addr) (ha : a < T.heap.size) => Jvm.Free.Multi.fill_old (T.setVm vm₁) (E.2.1 (.array .int)) (E.2.1 .int) 3 1000 (defaultValue .int) (a := a) ha 3
  have fi := fun (j : Nat) (hj : j < 3) => Jvm.Free.Multi.fill_inner (T.setVm vm₁) (E.2.1 (.array .int)) (E.2.1 .int) 3 1000 (defaultValue .int) 3 j hj
  have fs : (T.setVm vm₁).heap.size = T.heap.size := rfl
  rw [fs] at f1 f2 fi
  generalize hF : Jvm.Free.Multi.fill (T.setVm vm₁) (E.2.1 (.array .int)) (E.2.1 .int) 3 1000 (defaultValue .int) 3 = F at *
  have z1 : F.heap.size = T.heap.size + 4 := by rw [f1]
  have m0 : ∀ j k, 1 ≤ j → mul3 σ n (n + j) k = 0 := fun j k hj => by
    unfold mul3
    rw [wr_obj (by omega), wr_obj (by omega), wr_obj (by omega)]; exact hz _ (by omega) k
  have hR1 : mm_Rep E (Sh ++ [.inl (.array .int, 3), .inl (.int, 1000), .inl (.int, 1000), .inl (.int, 1000)]) (mul3 σ n) s F.heap := by
    have inn : ∀ j, j < 3 → va_at E.1 vwCl (T.heap.size + (j + 1), mm_E E (.inl (.int, 1000)) (mul3 σ n (Sh.length + (j + 1)))) F.heap := fun j hj => by
      show F.heap[T.heap.size + (j + 1)]? = some (vp_cell (E.2.1 .int) (1000, mm_ar E .int (mul3 σ n (Sh.length + (j + 1)))))
      rw [mm_ar0 (fun k => by rw [hn]; exact m0 (j + 1) k (by omega)) (Or.inl rfl), show T.heap.size + (j + 1) = T.heap.size + 1 + j by omega, fi j hj, ← arrV_new]
      rfl
    refine hR.grow (fun o ho => ?_) (fun j kd hj => ?_) (fun j kd k hj hs => ?_) z1 (fun q hq => fo q hq)
    · unfold mul3
      rw [wr_obj (by omega), wr_obj (by omega), wr_obj (by omega)]
    · have hj4 : j < 4 := (List.getElem?_eq_some_iff.mp hj).1
      match j, hj4, hj with
      | 0, _, hj =>
        cases hj
        show F.heap[T.heap.size]? = some (vp_cell (E.2.1 (.array .int)) (3, mm_ar E (.array .int) (mul3 σ n (Sh.length + 0))))
        rw [f2]
        sorry
      | 1, _, hj => cases hj; exact inn 0 (by omega)
      | 2, _, hj => cases hj; exact inn 1 (by omega)
      | 3, _, hj => cases hj; exact inn 2 (by omega)
      | j + 4, h, _ => omega
    · have hj4 : j < 4 := (List.getElem?_eq_some_iff.mp hj).1
      match j, hj4, hj with
      | 0, _, hj => cases hj; simp [mm_slotI, mm_isI] at hs
      | 1, _, hj => rw [hn, m0 1 k (by omega)]; exact ⟨by decide, by decide⟩
      | 2, _, hj => rw [hn, m0 2 k (by omega)]; exact ⟨by decide, by decide⟩
      | 3, _, hj => rw [hn, m0 3 k (by omega)]; exact ⟨by decide, by decide⟩
      | j + 4, h, _ => omega
  have hS1 : va_S (mm_A E) s.heap F.heap locs := ⟨Nat.le_trans hS.1 (by omega), fun x h1 h2 => (fo x (Nat.lt_of_lt_of_le h1 hS.1)).trans (hS.2.1 x h1 h2), hS.2.2⟩
  have K := kk p l e s m args below meth c9 F.heap locs la QM hC hX hR1 hS1 hL hret
  rw [List.map_cons, ← hn, hu] at K
  obtain ⟨t, a1, b1⟩ := K F rfl X1
  exact ⟨t, step t a1, b1⟩
end VxMulti
