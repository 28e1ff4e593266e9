/-! what the words say of classes and arrays at the start -/
theorem mm_ins {c : Nat} {C : String} {T : u_T} {N : Nat} (h : vwCl[c]? = some (C, T, N)) : Cond.instantiable C N ∈ mm_T := by
  match c, h with
  | 0, h => cases h; exact wm_73
  | 1, h => cases h; exact wm_440
  | 2, h => cases h; exact wm_29
  | 3, h => cases h; exact wm_133
  | 4, h => cases h; exact wm_328
  | 5, h => cases h; exact wm_39
  | 6, h => cases h; exact wm_246
  | 7, h => cases h; exact wm_421
  | 8, h => cases h; exact wm_397
  | 9, h => cases h; exact wm_364
  | 10, h => cases h; exact wm_21
  | 11, h => cases h; exact wm_1219
  | c + 12, h => simp [vwCl] at h
theorem mm_arr {s : State} {args : Array Value} {ty : FieldType} (h3 : ty = .int ∨ ty = .long ∨ ty = .boolean) (h : (Cond.arrayClass ty).before args s = true) : ∃ cA, ArrOfT s cA ty ∧ va_RA s cA ty := by
  obtain ⟨c, k, comp, h1, h2, hk⟩ := Cond.arrayClass_spec h
  refine ⟨c, fun n z => ⟨(fun k h => by cases h), k, h2, comp, hk⟩, ?_⟩
  rcases h3 with rfl | rfl | rfl <;> exact h1
theorem mm_arrO {s : State} {C : String} (h : va_AO C s) : ∃ cA, ArrOfT s cA (.object C) ∧ va_RA s cA (.object C) := by
  obtain ⟨comp, c, k, h1, -, h2, hk, h4⟩ := Cond.arrayOver_spec h
  exact ⟨c, fun n z => ⟨(fun k h => by cases h), k, h2, comp, hk⟩, k, comp, h2, hk, h1, h4⟩
theorem mm_arrA {s : State} (h : (Cond.arrayOver (.array .int)).before #[] s = true) : ∃ cA, ArrOfT s cA (.array .int) ∧ va_RA s cA (.array .int) := by
  obtain ⟨comp, c, k, h1, -, h2, hk, h4⟩ := arrayOverA_spec h
  exact ⟨c, fun n z => ⟨(fun k h => by cases h), k, h2, comp, hk⟩, h4⟩
theorem mm_env {s : State} {args : Array Value} (hts : ∀ w ∈ mm_T, w.before args s = true) (hD : va_AO "TuneDoor$Door" s) (hP : va_AO "TuneDoor$Person" s) (hA : (Cond.arrayOver (.array .int)).before #[] s = true) (b L : Nat) : ∃ E : mm_Env, E.2.2.1 = b ∧ E.2.2.2.1 = s.heap.size ∧ E.2.2.2.2 = L ∧ va_K E.1 vwCl (mm_tys E) s := by
  have hc : ∀ c : Nat, ∃ p : ClassId × (Nat → Nat), ∀ r, vwCl[c]? = some r → u_Kn s r.1 r.2.1 r.2.2 p.1 p.2 := fun c => by
    cases h : vwCl[c]? with
    | none => exact ⟨(0, fun _ => 0), fun r hr => by cases hr⟩
    | some r =>
      obtain ⟨C, T, N⟩ := r
      obtain ⟨cC, iS, hk⟩ := u_known hts (mm_cls h).2.2.2 (hts _ (mm_ins h))
      exact ⟨(cC, iS), fun r hr => by cases hr; exact hk⟩
  obtain ⟨g, hg⟩ := Classical.axiomOfChoice hc
  obtain ⟨c1, a1⟩ := mm_arr (Or.inl rfl) (hts _ wm_72)
  obtain ⟨c2, a2⟩ := mm_arr (Or.inr (Or.inl rfl)) (hts _ wm_1447)
  obtain ⟨c3, a3⟩ := mm_arr (Or.inr (Or.inr rfl)) (hts _ wm_458)
  obtain ⟨c4, a4⟩ := mm_arrO hD
  obtain ⟨c5, a5⟩ := mm_arrO hP
  obtain ⟨c6, a6⟩ := mm_arrA hA
  refine ⟨((fun c => (g c).1, fun c => (g c).2), (fun ty => match ty with
    | .int => c1
    | .long => c2
    | .boolean => c3
    | .object n => if n = "TuneDoor$Door" then c4 else c5
    | _ => c6), b, s.heap.size, L), rfl, rfl, rfl, fun c r hr => hg c r hr, fun k r hr => ?_⟩
  have hk : k < 6 := (List.getElem?_eq_some_iff.mp hr).1
  match k, hk, hr with
  | 0, _, hr => cases hr; exact a1
  | 1, _, hr => cases hr; exact a2
  | 2, _, hr => cases hr; exact a3
  | 3, _, hr => cases hr; exact a4
  | 4, _, hr => cases hr; exact a5
  | 5, _, hr => cases hr; exact a6
  | k + 6, h, _ => omega
