/-! arrays of references, arrays of arrays -/
section VxNew2
variable {X : State → Prop} {E : mm_Env} {R : Room} {q : mm_Y} {mc ms cs sl : Nat} {Sh : List mm_Kd} {pc pc' : Nat} {ls : List (Option mm_PV)} {st : List mm_PV} {σ : mm_Mem} {Q : mm_Q}
theorem vx_anew {i t0 : Nat} {C : String} {n : Int} {N : Nat} (hd : decode q.2.1 pc = .ok (.anewarray i, 3)) (hp : pc + 3 = pc') (hl : Cond.classLink q.1.cls i C ∈ mm_T) (hov : ∀ s, X s → va_AO C s) (ht0 : ∀ E : mm_Env, (mm_tys E)[t0]? = some (E.2.1 (.object C), .object C)) (hn : n = (N : Int)) (hN : N ≤ 100000) (hz : ∀ k, σ Sh.length k = 0) (hce : cs + 1 ≤ R.cells) (hsl : sl + N ≤ R.slots) (kk : vx X E R q mc ms (cs + 1) (sl + N) (Sh ++ [.inl (.object C, N)]) pc' ls (vR Sh.length :: st) σ Q) : vx X E R q mc ms cs sl Sh pc ls (vI n :: st) σ Q := by
  subst hp
  intro p l e s m args below meth c9 H locs la QM hC hX hR hS hL hret
  have hts := hC.2.2.2.2.1
  have hK := hC.2.2.2.2.2.1
  obtain ⟨e1, e2⟩ := mm_ix (j := n) (n := 100001) (by omega) (by omega) (by omega)
  rw [List.map_cons]
  have eN : (Int32.ofInt n).toNatClampNeg = N := by rw [e1]; omega
  refine W.anew hC.1 hC.2.1 hC.2.2.2.1 (hts _ hl) (va_AO.use (hov s hX)) rfl hd rfl (fun z => e2 (Or.inl z)) (by rw [eN]; omega) hce (by rw [eN]; exact hsl) (fun cA kA comp f1 f2 f3 f4 => ?_)
  rw [eN]
  generalize hH1 : H.push ({ cls := cA, slots := Array.replicate N .null, vm := .none } : Cell) = H1
  have z1 : H1.size = H.size + 1 := by rw [← hH1, Array.size_push]
  have g1 : H1[H.size]? = some (arrV cA N (fun _ => .null)) := by rw [← hH1, Array.getElem?_push_size, ← arrV_new]
  have o1 : ∀ q : Nat, q < H.size → H1[q]? = H[q]? := fun q hq => by rw [← hH1, Array.getElem?_push, if_neg (Nat.ne_of_lt hq)]
  have hu := mm_up_new hR
  have h2 := hR.2.1
  obtain ⟨kA', comp', -, -, -, h9⟩ := (hK.2 t0 _ (ht0 E)).2
  have ecA : cA = E.2.1 (.object C) := Option.some.inj (f1.symm.trans h9)
  subst ecA
  have hR1 : mm_Rep E (Sh ++ [.inl (.object C, N)]) σ s H1 := hR.push hz (by
    rw [← h2]
    show H1[H.size]? = some (vp_cell (E.2.1 (.object C)) (N, mm_ar E (.object C) (σ Sh.length)))
    rw [mm_ar0 hz (Or.inr (Or.inr (Or.inr rfl))), g1]
    rfl) z1 o1
  have K := kk p l e s m args below meth c9 H1 locs la QM hC hX hR1 (mm_S.push hS z1 o1) hL hret
  rw [List.map_cons, hu] at K
  exact K
theorem vx_aast {o v n c t0 : Nat} {j : Int} {C : String} {T : u_T} {N : Nat} (hd : decode q.2.1 pc = .ok (.aastore, 1)) (hp : pc + 1 = pc') (ho : 2 ≤ o) (hs : Sh[o]? = some (.inl (.object C, n))) (hv2 : 2 ≤ v) (hv : Sh[v]? = some (.inr c)) (hc : vwCl[c]? = some (C, T, N)) (ht0 : ∀ E : mm_Env, (mm_tys E)[t0]? = some (E.2.1 (.object C), .object C)) (hj : 0 ≤ j) (hj2 : j < n) (hn : n ≤ 2147483647) (kk : vx X E R q mc ms cs sl Sh pc' ls st (wr σ o j.toNat (v : Int)) Q) : vx X E R q mc ms cs sl Sh pc ls (vR v :: vI j :: vR o :: st) σ Q := by
  subst hp
  intro p l e s m args below meth c9 H locs la QM hC hX hR hS hL hret
  have hK := hC.2.2.2.2.2.1
  have he := mm_W_get (E := E) (σ := σ) ho hs
  have hve := mm_W_get (E := E) (σ := σ) hv2 hv
  obtain ⟨e1, e2⟩ := mm_ix hj hj2 hn
  rw [List.map_cons, List.map_cons, List.map_cons, mm_up_ref (by omega), mm_up_ref (by omega)]
  have hD : va_D (mm_A E) (mm_W E Sh σ) := mm_D
  have hlt : (Int32.ofInt j).toNatClampNeg < n := Nat.not_le.mp fun q => e2 (Or.inr q)
  have h0 : ¬ Int32.ofInt j < 0 := fun q => e2 (Or.inl q)
  obtain ⟨r', hr', cellV, g1, g2, g3, -⟩ := hR.1 (v - 2) _ hve
  have hcls := (hK.1 c _ hc).2
  obtain ⟨kA, comp, k1, k2, k3, -⟩ := (hK.2 t0 _ (ht0 E)).2
  have hcomp : comp = E.1.1 c := Option.some.inj (k3.symm.trans hcls.1)
  subst hcomp
  obtain ⟨kC, hkC, -⟩ := hcls.2
  refine W.aast hC.1 hC.2.1 (hR.1 (o - 2) _ he) (fun q h => by cases h) (fun h => by cases h) k1 k2 rfl hkC ⟨h0, by show _ < (arrV _ _ _).slots.size; rw [arrV_size]; exact hlt⟩ g1 (fun q h => by rw [g3] at h; cases h) (by rw [g2]; exact hkC) (by rw [g2]; exact va_assign hcls) rfl rfl hd (fun H1 f1 f2 f3 => ?_)
  rw [e1] at f1
  have f4 : H1[mm_ad E o]? = some (vp_cell (E.2.1 (.object C)) (n, mm_ar E (.object C) (wr σ o j.toNat (v : Int) o))) := by
    rw [f1]
    show some ((arrV (E.2.1 (.object C)) n (fun k => va_rf (mm_ro E (σ o k).toNat))).setSlot j.toNat _) = some (arrV (E.2.1 (.object C)) n (fun k => va_rf (mm_ro E (wr σ o j.toNat (v : Int) o k).toNat)))
    rw [arrV_store]
    congr 2
    funext k
    by_cases hk : k = j.toNat
    · subst hk
      rw [wr_same]
      simp [updV, va_rf, mm_ro, show ¬ v = 0 by omega]
    · rw [wr_row hk]
      simp [updV, hk]
  have hP1 := hR.1.set hD he (e := .inl (E.2.1 (.object C), n, mm_ar E (.object C) (wr σ o j.toNat (v : Int) o))) f4 f3
  have hP2 : va_P E.1 vwCl (mm_W E Sh (wr σ o j.toNat (v : Int))) H1 := by
    rw [← mm_W_set ho hs (σ := σ) (σ' := wr σ o j.toNat (v : Int)) rfl (fun o' h' => wr_obj h')]
    exact hP1
  have hS1 := hS.put f2 f3 (hD.2 _ _ he) (k := j.toNat)
  rw [e1]
  exact kk p l e s m args below meth c9 H1 _ la QM hC hX (hR.put1 (A := mm_A E) hC.2.2.2.2.2.2.1 hS hS1 ho hs (fun h => by simp [mm_slotI, mm_isI] at h) f2 hP2) hS1 hL hret
end VxNew2
