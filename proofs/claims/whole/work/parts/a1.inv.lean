/-! what every call keeps -/
def nz (α : mm_Mem) : Prop := wfNm α ∧ wfZ α
def okJ (α α' : mm_Mem) : Prop := (∀ i, 5 ≤ i → i ≤ 7 → α' 0 i = α 0 i) ∧ ∀ j, (2 ≤ j ∧ j ≤ 9) ∨ (15 ≤ j ∧ j ≤ 17) → α' j = α j
def IV (k : Nat) (α : mm_Mem) : Prop := WF k α ∧ nz α
section Inv
variable {α α' β : mm_Mem} {k : Nat}
theorem okJ.rf : okJ α α := ⟨fun _ _ _ => rfl, fun _ _ => rfl⟩
theorem okJ.w0 {i : Nat} {v : Int} (o : okJ α α') (h : i < 5 ∨ 7 < i) : okJ α (wr α' 0 i v) := ⟨fun j p q => by rw [wr_row (by omega)]; exact o.1 j p q, fun j p => by rw [wr_obj (by omega)]; exact o.2 j p⟩
theorem okJ.wo {x i : Nat} {v : Int} (o : okJ α α') (h : x = 1 ∨ (10 ≤ x ∧ x < 15) ∨ 17 < x) : okJ α (wr α' x i v) := ⟨fun j p q => by rw [wr_obj (by omega)]; exact o.1 j p q, fun j p => by rw [wr_obj (by omega)]; exact o.2 j p⟩
theorem okJ.put (o : okJ α α') (x s : Int) : okJ α (putA α' x s) := (o.wo (by omega)).w0 (by omega)
theorem okJ.put4_ (o : okJ α α') (x : Int) : okJ α (put4 α' x) := (((o.put x 24).put x 16).put x 8).put x 0
theorem okJ.ref {i : Nat} (o : okJ α α') : okJ α (refA α' i) := o.wo (by omega)
theorem nm_cg (N : wfNm α) (a : ∀ i, 5 ≤ i → i ≤ 7 → α' 0 i = α 0 i) (b : ∀ j, 2 ≤ j → j ≤ 4 → α' j = α j) : wfNm α' := by
  unfold wfNm
  rw [a 5 (by omega) (by omega), a 6 (by omega) (by omega), a 7 (by omega) (by omega), b 2 (by omega) (by omega), b 3 (by omega) (by omega), b 4 (by omega) (by omega)]
  exact N
theorem nz.ok (N : nz α) (o : okJ α α') : nz α' := by
  refine ⟨nm_cg N.1 o.1 (fun j p q => o.2 j (by omega)), fun dd t hd ht he => ?_⟩
  rw [o.1 6 (by omega) (by omega)] at hd
  rw [earA_cg (o.1 7 (by omega) (by omega)) (o.2 8 (by omega)) (o.2 9 (by omega))] at he
  rw [o.2 15 (by omega), o.2 16 (by omega), o.2 17 (by omega)]
  exact N.2 dd t hd ht he
theorem nz.hn {dd : Nat} {f : Nat → Nat} (N : nz α) : nz (hnA α dd f) := by
  refine ⟨nm_cg N.1 (fun i _ _ => by rw [hnA_o (by omega)]) (fun j _ _ => hnA_o (by omega)), fun d2 t hd ht he => ?_⟩
  rw [hnA_o (by omega)] at hd
  rw [earA_cg (by rw [hnA_o (by omega)]) (hnA_o (by omega)) (hnA_o (by omega))] at he
  rw [hnA_e (by omega), hnA_e (by omega), hnA_e (by omega)]
  obtain ⟨z1, z2, z3⟩ := N.2 d2 t hd ht he
  unfold heA afD setE
  by_cases q : d2 = dd
  · subst q
    have e : e3 (earA α d2 0) (earA α d2 1) (earA α d2 2) (t : Int) = false := by
      have : t = 0 ∨ t = 1 ∨ t = 2 := by omega
      rcases this with rfl | rfl | rfl <;> exact he
    have on : ∀ c hf tr, oneA α f (α 5 d2) (α 6 d2) (α 7 d2) (earA α d2 0) (earA α d2 1) (earA α d2 2) c hf tr t = -1 := fun c hf tr => by
      unfold oneA; rw [e]; rfl
    have nt : ¬ hrA α f (α 5 d2) (α 6 d2) (α 7 d2) (earA α d2 0) (earA α d2 1) (earA α d2 2) (c15 α d2) (c16 α d2) (c17 α d2) = (t : Int) := fun h => hrA_ne h (on _ _ _)
    have hc : 3 * d2 ≤ 3 * d2 + t ∧ 3 * d2 + t < 3 * d2 + 3 := by omega
    have ht' : 3 * d2 + t - 3 * d2 = t := by omega
    refine ⟨?_, ?_, ?_⟩
    · rw [if_pos hc, if_pos rfl, ht']
      unfold afC
      rw [if_neg nt]; exact z1
    · rw [if_pos hc, if_neg (show ¬ (16 : Nat) = 15 by omega), if_pos rfl, ht']
      unfold afH vnH
      rw [e, if_neg nt, if_neg (show ¬ false = true by decide), ite_self]; exact z2
    · rw [if_pos hc, if_neg (show ¬ (17 : Nat) = 15 by omega), if_neg (show ¬ (17 : Nat) = 16 by omega), if_pos rfl, ht']
      unfold afT vnT
      rw [e, if_neg nt, if_neg (show ¬ false = true by decide), ite_self]; exact z3
  · rw [if_neg (by omega), if_neg (by omega), if_neg (by omega)]
    exact ⟨z1, z2, z3⟩
theorem nz.cm {p : Nat} {f : Nat → Nat} (N : nz α) : nz (cmA α p f) := (N.hn (dd := (α 8 p).toNat) (f := f)).ok (((okJ.rf.wo (by omega)).wo (by omega)).wo (by omega))
theorem nz.ng (N : nz α) : nz (ngA α) := by
  have N2 : nz (ng2 α) := N.ok ((okJ.rf.w0 (by omega)).wo (by omega))
  unfold ngA
  split
  · exact N2.cm
  · exact N2
theorem nz.ns : ∀ (n : Nat) (α : mm_Mem), nz α → nz (nsA n α)
  | 0, _, N => N
  | n + 1, α, N => nz.ns n (ngA α) N.ng
theorem nz.ref {i : Nat} (N : nz α) : nz (refA α i) := N.ok okJ.rf.ref
theorem nz.t0 (N : nz α) : nz (wr α 0 0 0) := N.ok (okJ.rf.w0 (by omega))
theorem IV.feed {a b c d e : Int} (I : IV k α) : IV (k + 1) (feedA α a b c d e) := ⟨I.1.feed, by
  unfold feedA
  split
  · exact I.2.ok (((((okJ.rf.put4_ a).put4_ b).put4_ c).put4_ d).put4_ e)
  · exact I.2.ref⟩
theorem IV.end_ {a : Int} (I : IV k α) : IV (k + 1) (endA α a) := ⟨I.1.end_, by
  unfold endA
  split
  · exact I.2.ok (okJ.rf.w0 (by omega))
  · exact I.2.ref⟩
theorem IV.seed_ {a : Int} (I : IV k α) (ha : inR a) : IV (k + 1) (seedA α a) := ⟨I.1.seed_ ha, by
  unfold seedA
  split
  · exact I.2.ok (okJ.rf.w0 (by omega))
  · exact I.2.ref⟩
theorem IV.come {a : Int} (I : IV k α) : IV (k + 1) (comeA α a) := ⟨I.1.come, by
  unfold comeA
  split
  · exact I.2.cm
  · exact I.2.ref⟩
theorem IV.slip {a q v : Int} (I : IV k α) : IV (k + 1) (slipA α a q v) := ⟨I.1.slip, by
  unfold slipA
  split
  · exact I.2.cm
  · exact I.2.ref⟩
theorem IV.waste {a n : Int} (I : IV k α) : IV (k + 1) (wasteA α a n) := ⟨I.1.waste, by
  unfold wasteA
  split
  · exact I.2.ok (okJ.rf.wo (by omega))
  · exact I.2.ref⟩
theorem IV.lis {a : Int} (I : IV k α) : IV (k + 1) (lisA α a) := ⟨I.1.lis, by
  unfold lisA
  split
  · exact I.2.t0.hn
  · exact I.2.t0.ref⟩
theorem IV.nights {a : Int} (I : IV k α) : IV (k + 1) (nightsA α a) := ⟨I.1.nights, by
  unfold nightsA
  split
  · exact nz.ns _ _ I.2
  · exact I.2.ref⟩
theorem IV.up {k' : Nat} (I : IV k α) (h : k ≤ k') : IV k' α := ⟨I.1.up h, I.2⟩
theorem IV.img (I : IV k α) : IV (k + 1) (imgA α) := by
  obtain ⟨-, o, -⟩ := I.1.w_imB
  have o2 : okP α (imgA α) := o.tr okP.p1
  exact ⟨I.1.img.up (by omega), I.2.ok ⟨fun i _ _ => o2.2 i (by omega), fun j _ => o2.1 j (by omega) (by omega)⟩⟩
theorem IV.on_ (I : IV k α) (p : onP α) : IV (k + 1) (onA α) := by
  obtain ⟨w, o, z⟩ := I.1.w_onA I.2.2 p
  exact ⟨w.up (by omega), nm_cg I.2.t0.1 (fun i _ _ => by rw [o 0 (by omega) (by omega) (by omega) (by omega)]) (fun j _ _ => o j (by omega) (by omega) (by omega) (by omega)), z⟩
theorem IV.onF (I : IV k α) : IV (k + 1) (refA (wr α 0 0 0) 5) := ⟨I.1.tap0.ref, I.2.t0.ref⟩
theorem IV.house (I : IV k α) : IV (k + 1) (houseA α) := by
  have hr : ∀ i, 0 ≤ α 1 i ∧ α 1 i ≤ 255 := I.1.1.2.2.1
  have w1 := I.1.1
  have sp := si_hs (r := α 1) (n := (α 0 0).toNat) (by omega) hr
  unfold houseA houseX
  generalize hx : hsP (α 1) (α 0 0).toNat = x at *
  rcases x with ⟨kk, p⟩ | ⟨m, β, c, c'⟩
  · obtain ⟨s1, s2, s3⟩ := sp
    refine ⟨?_, I.2.ok (((okJ.rf.w0 (by omega)).w0 (by omega)).w0 (by omega)).ref⟩
    refine WF.ref ?_
    refine I.1.most (Nat.le_refl k) (fun i a b => by rw [wr_row (by omega), wr_row (by omega), wr_row (by omega)]) (fun j a b => by rw [wr_obj (by omega), wr_obj (by omega), wr_obj (by omega)]) ⟨?_, ?_, ?_, ?_, ?_, ?_, ?_⟩ ?_ ⟨?_, ?_, ?_⟩ ?_
    · rw [wr_row (by omega), wr_row (by omega), wr_same]; omega
    · rw [wr_row (by omega), wr_row (by omega), wr_same]; omega
    · rw [wr_obj (by omega), wr_obj (by omega), wr_obj (by omega)]; exact hr
    · rw [wr_row (by omega), wr_same]; omega
    · rw [wr_row (by omega), wr_same]; have : kk ≤ 5 := s2; omega
    · rw [wr_same]; omega
    · rw [wr_same]; have : p ≤ (α 0 0).toNat := s3; omega
    · rw [wr_row (by omega), wr_row (by omega), wr_row (by omega)]; exact I.1.2.2.2.2.2.2.2.1
    · rw [wr_row (by omega), wr_row (by omega), wr_row (by omega)]; exact I.1.2.2.2.2.2.2.2.2.1
    · rw [wr_row (by omega), wr_row (by omega), wr_row (by omega)]; exact I.1.2.2.2.2.2.2.2.2.2.1
    · rw [wr_obj (by omega), wr_obj (by omega), wr_obj (by omega)]; exact I.1.2.2.2.2.2.2.2.2.2.2
    · rw [wr_obj (by omega), wr_obj (by omega), wr_obj (by omega)]; exact I.1.2.2.2.2.2.1.2.2
  · obtain ⟨-, a, S⟩ := sp
    obtain ⟨x1, x2, x3⟩ := I.1.hs S
    exact ⟨x1, x2, x3⟩
end Inv
