/-! on, the methods -/
section On2
variable {E : mm_Env} {d k h b : Nat} {α β τ : mm_Mem} {Q : mm_Q0}
theorem WF.w_reE {dd t : Nat} (w : WF k α) (e : efP α dd t) : WF k (reE α dd t) ∧ okR α (reE α dd t) := by
  have t1 := tw_r w (plE α dd t)
  have t2 := tw_r w (plE α dd t + 2)
  have b4 := w.1.2.2.1 (plE α dd t + 4)
  obtain ⟨ea, eb⟩ := e
  refine ⟨w.w_earW ?_ ?_ b4, okR.e⟩
  · by_cases q : earA α dd t = true
    · exact ⟨t1.1, (ea q).1⟩
    · have := (eb (by simpa using q)).1; omega
  · by_cases q : earA α dd t = true
    · obtain ⟨-, e2, e3⟩ := ea q
      by_cases q2 : α 5 dd = 2
      · have := e2 q2; omega
      · have := e3 q2; omega
    · have := (eb (by simpa using q)).2.1; omega
theorem wfZ.z_reE {dd t : Nat} (z : wfZ α) (ht : t < 3) (e : efP α dd t) : wfZ (reE α dd t) := by
  intro d' t' h1 h2 h3
  have o : okR α (reE α dd t) := okR.e
  rw [o 0 (by omega) (by omega) (by omega) (by omega)] at h1
  rw [o.ear] at h3
  have zz := z d' t' h1 h2 h3
  unfold reE
  obtain ⟨e1, e2, e3⟩ := earW_at (α := α) (e := 3 * dd + t) (x := tw α (plE α dd t)) (y := tw α (plE α dd t + 2) - 1) (z := α 1 (plE α dd t + 4))
  rw [e1, e2, e3]
  by_cases q : 3 * d' + t' = 3 * dd + t
  · have q1 : d' = dd := by omega
    have q2 : t' = t := by omega
    subst q1 q2
    rw [wr_same, wr_same, wr_same]
    have := e.2 h3
    omega
  · rw [wr_row q, wr_row q, wr_row q]; exact zz
theorem WF.w_reP : ∀ (c p : Nat) (β : mm_Mem), WF k β → wfZ β → fitP β → (p : Int) + c ≤ β 0 7 → WF k (reP c p β) ∧ okR β (reP c p β) ∧ wfZ (reP c p β)
  | 0, p, β, w, z, _, _ => ⟨w, okR.rf, z⟩
  | c + 1, p, β, w, z, f, hp => by
    have o : okR β (wr β 12 p (tw β (2 * p))) := okR.p
    have r := tw_r w (2 * p)
    have fp := f p (by omega)
    obtain ⟨a, a2, a3⟩ := WF.w_reP c (p + 1) (wr β 12 p (tw β (2 * p))) (w.cnt1 ⟨r.1, fp⟩) (fun dd t h1 h2 h3 => by
      rw [wr_obj (by omega)] at h1
      rw [o.ear] at h3
      rw [wr_obj (by omega), wr_obj (by omega), wr_obj (by omega)]
      exact z dd t h1 h2 h3) (o.fp f) (by rw [wr_obj (by omega)]; omega)
    exact ⟨a, o.tr a2, a3⟩
theorem WF.w_reT {dd : Nat} : ∀ (c t : Nat) (β : mm_Mem), WF k β → wfZ β → fitE β → (dd : Int) < β 0 6 → (t : Int) + c ≤ β 0 5 → WF k (reT dd c t β) ∧ okR β (reT dd c t β) ∧ wfZ (reT dd c t β)
  | 0, p, β, w, z, _, _, _ => ⟨w, okR.rf, z⟩
  | c + 1, t, β, w, z, f, hd, hp => by
    have hw := w.le
    have e := f dd t hd (by omega)
    obtain ⟨w1, o⟩ := w.w_reE e
    obtain ⟨a, a2, a3⟩ := WF.w_reT c (t + 1) (reE β dd t) w1 (z.z_reE (by omega) e) (o.fe f) (by rw [o 0 (by omega) (by omega) (by omega) (by omega)]; exact hd) (by rw [o 0 (by omega) (by omega) (by omega) (by omega)]; omega)
    exact ⟨a, o.tr a2, a3⟩
theorem WF.w_reD : ∀ (c dd : Nat) (β : mm_Mem), WF k β → wfZ β → fitE β → (dd : Int) + c ≤ β 0 6 → WF k (reD c dd β) ∧ okR β (reD c dd β) ∧ wfZ (reD c dd β)
  | 0, p, β, w, z, _, _ => ⟨w, okR.rf, z⟩
  | c + 1, dd, β, w, z, f, hd => by
    have hw := w.le
    obtain ⟨w1, o, z1⟩ := WF.w_reT (dd := dd) (β 0 5).toNat 0 β w z f (by omega) (by omega)
    obtain ⟨a, a2, a3⟩ := WF.w_reD c (dd + 1) (reT dd (β 0 5).toNat 0 β) w1 z1 (o.fe f) (by rw [o 0 (by omega) (by omega) (by omega) (by omega)]; omega)
    exact ⟨a, o.tr a2, a3⟩
theorem tap_fit (fp : fitP α) : fitP (wr α 0 0 0) := by
  intro p hp
  rw [wr_row (by omega)] at hp
  unfold tw; rw [wr_obj (by omega)]; exact fp p hp
theorem tap_pl {dd t : Nat} : plE (wr α 0 0 0) dd t = plE α dd t := by
  unfold plE; rw [wr_row (by omega), wr_row (by omega)]
theorem tap_ef {dd t : Nat} (e : efP α dd t) : efP (wr α 0 0 0) dd t := by
  unfold efP tw
  rw [tap_pl, earA_cg (α := α) (α' := wr α 0 0 0) (wr_row (by omega)) (wr_obj (by omega)) (wr_obj (by omega)), wr_obj (by omega), wr_obj (by omega)]
  exact e
theorem tap_fe (fe : fitE α) : fitE (wr α 0 0 0) := by
  intro dd t h1 h2
  rw [wr_row (by omega)] at h1 h2
  exact tap_ef (fe dd t h1 h2)
theorem wfZ.tap (z : wfZ α) : wfZ (wr α 0 0 0) := by
  intro dd t h1 h2 h3
  rw [wr_row (by omega)] at h1
  rw [earA_cg (α := α) (α' := wr α 0 0 0) (wr_row (by omega)) (wr_obj (by omega)) (wr_obj (by omega))] at h3
  rw [wr_obj (by omega), wr_obj (by omega), wr_obj (by omega)]
  exact z dd t h1 h2 h3
theorem WF.w_onA (w : WF k α) (z : wfZ α) (p : onP α) : WF k (onA α) ∧ okR (wr α 0 0 0) (onA α) ∧ wfZ (onA α) := by
  have hw := w.le
  obtain ⟨-, -, -, fp, fe⟩ := p
  obtain ⟨w1, o1, z1⟩ := WF.w_reP (k := k) (α 0 7).toNat 0 (wr α 0 0 0) w.tap0 z.tap (tap_fit fp) (by rw [wr_row (by omega)]; omega)
  have e6 : reP (α 0 7).toNat 0 (wr α 0 0 0) 0 6 = α 0 6 := by rw [o1 0 (by omega) (by omega) (by omega) (by omega)]; exact wr_row (by omega)
  obtain ⟨w2, o2, z2⟩ := WF.w_reD (k := k) (α 0 6).toNat 0 _ w1 z1 (o1.fe (tap_fe fe)) (by rw [e6]; omega)
  exact ⟨w2, o1.tr o2, z2⟩
theorem RepC.r_earW {dd t : Nat} {x y z : Int} (w : WF k α) (H : RepC k h α τ) (hd : dd < 4) (ht : t < 3) : RepC k h (earW α (3 * dd + t) x y z) (wr (wr (wr τ (h + 14 + 4 * dd + 1) t x) (h + 14 + 4 * dd + 2) t y) (h + 14 + 4 * dd + 3) t z) := by
  have hw := w.le
  have hh := H.2.2.1.1
  have o := okR.e (α := α) (e := 3 * dd + t) (x := x) (y := y) (z := z)
  obtain ⟨e1, e2, e3⟩ := earW_at (α := α) (e := 3 * dd + t) (x := x) (y := y) (z := z)
  have r12 : earW α (3 * dd + t) x y z 12 = α 12 := by rw [earW, wr_obj (by omega), wr_obj (by omega), wr_obj (by omega)]
  generalize earW α (3 * dd + t) x y z = β at o e1 e2 e3 r12
  have r : ∀ j, (j < 15 ∨ 17 < j) → β j = α j := fun j hj => by
    by_cases q : j = 12
    · subst q; exact r12
    · exact o j q (by omega) (by omega) (by omega)
  have F : ∀ x' , x' ≠ h + 14 + 4 * dd + 1 → x' ≠ h + 14 + 4 * dd + 2 → x' ≠ h + 14 + 4 * dd + 3 → wr (wr (wr τ (h + 14 + 4 * dd + 1) t x) (h + 14 + 4 * dd + 2) t y) (h + 14 + 4 * dd + 3) t z x' = τ x' := fun x' a b c => by rw [wr_obj c, wr_obj b, wr_obj a]
  have n1 : wr (wr (wr τ (h + 14 + 4 * dd + 1) t x) (h + 14 + 4 * dd + 2) t y) (h + 14 + 4 * dd + 3) t z (h + 14 + 4 * dd + 1) = wr τ (h + 14 + 4 * dd + 1) t x (h + 14 + 4 * dd + 1) := by rw [wr_obj (by omega), wr_obj (by omega)]
  have n2 : ∀ i, wr (wr (wr τ (h + 14 + 4 * dd + 1) t x) (h + 14 + 4 * dd + 2) t y) (h + 14 + 4 * dd + 3) t z (h + 14 + 4 * dd + 2) i = if i = t then y else τ (h + 14 + 4 * dd + 2) i := fun i => by
    rw [wr_obj (by omega)]
    by_cases q : i = t
    · subst q; rw [wr_same, if_pos rfl]
    · rw [wr_row q, wr_obj (by omega), if_neg q]
  have n3 : ∀ i, wr (wr (wr τ (h + 14 + 4 * dd + 1) t x) (h + 14 + 4 * dd + 2) t y) (h + 14 + 4 * dd + 3) t z (h + 14 + 4 * dd + 3) i = if i = t then z else τ (h + 14 + 4 * dd + 3) i := fun i => by
    by_cases q : i = t
    · subst q; rw [wr_same, if_pos rfl]
    · rw [wr_row q, wr_obj (by omega), wr_obj (by omega), if_neg q]
  generalize wr (wr (wr τ (h + 14 + 4 * dd + 1) t x) (h + 14 + 4 * dd + 2) t y) (h + 14 + 4 * dd + 3) t z = τ' at F n1 n2 n3
  refine H.cst ⟨hw.1, hw.2.1, hw.2.2.1⟩ (Nat.le_refl _) (fun j hj => r j (by omega)) (fun o' j _ ho => by rw [F o' (by omega) (by omega) (by omega)]) (fun x' hx => by rw [F _ (by omega) (by omega) (by omega)]) (fun x' hx => by rw [F _ (by omega) (by omega) (by omega)]) (fun x' hx => ?_) (fun x' hx i hi => ?_) (fun o' o1 o2 => by rw [F o' (by omega) (by omega) (by omega)]; exact H.2.2.2.2.2.2.2.2.2.2.2.2 o' o1 o2)
  · rw [r 0 (by omega)] at hx
    have em : maskA β = maskA α := maskA_cg (by rw [r 0 (by omega)]) (r 8 (by omega)) (r 9 (by omega))
    obtain ⟨g1, g2⟩ := H.2.2.2.2.2.1 x' hx
    refine ⟨?_, fun t' ht' => ?_⟩
    · rw [em, r 5 (by omega), r 6 (by omega), r 7 (by omega), r 18 (by omega), r 19 (by omega), r 20 (by omega), F _ (by omega) (by omega) (by omega)]; exact g1
    · have g2 := g2 t' ht'
      rw [e1, e2, e3]
      by_cases q : x' = dd
      · subst q
        by_cases q2 : t' = t
        · subst q2
          rw [n1, n2, n3, if_pos rfl, if_pos rfl, wr_same, wr_same, wr_same, wr_same]
          exact ⟨rfl, rfl, rfl⟩
        · rw [n1, n2, n3, if_neg q2, if_neg q2, wr_row q2, wr_row (by omega), wr_row (by omega), wr_row (by omega)]
          exact g2
      · rw [F _ (by omega) (by omega) (by omega), F _ (by omega) (by omega) (by omega), F _ (by omega) (by omega) (by omega), wr_row (by omega), wr_row (by omega), wr_row (by omega)]
        exact g2
  · rw [r 0 (by omega)] at hx
    rw [r _ (by omega), F _ (by omega) (by omega) (by omega)]
    exact H.2.2.2.2.2.2.1 x' hx i hi
theorem RepM.r_earW {e : Nat} {x y z : Int} (H : RepM b α τ) : RepM b (earW α e x y z) (wr (wr (wr τ 182 e x) 183 e y) 184 e z) := by
  have o := okR.e (α := α) (e := e) (x := x) (y := y) (z := z)
  obtain ⟨e1, e2, e3⟩ := earW_at (α := α) (e := e) (x := x) (y := y) (z := z)
  have r12 : earW α e x y z 12 = α 12 := by rw [earW, wr_obj (by omega), wr_obj (by omega), wr_obj (by omega)]
  generalize earW α e x y z = β at o e1 e2 e3 r12
  have r : ∀ j, (j < 15 ∨ 17 < j) → β j = α j := fun j hj => by
    by_cases q : j = 12
    · subst q; exact r12
    · exact o j q (by omega) (by omega) (by omega)
  obtain ⟨s1, s2, s3⟩ := H.2.2.2.2.2.2.2.1
  refine H.cst (fun j hj => r j (by omega)) (fun o' j _ ho => by rw [wr_obj (by omega), wr_obj (by omega), wr_obj (by omega)]) ⟨fun p hp => ?_, fun i hi => ?_, fun x' hx => ?_⟩
  · rw [r 12 (by omega), r 13 (by omega), r 14 (by omega)]
    have g : ∀ q, 179 ≤ q → q ≤ 181 → wr (wr (wr τ 182 e x) 183 e y) 184 e z q = τ q := fun q a c => by rw [wr_obj (by omega), wr_obj (by omega), wr_obj (by omega)]
    rw [g 179 (by omega) (by omega), g 180 (by omega) (by omega), g 181 (by omega) (by omega)]
    exact s1 p hp
  · have g := s2 i hi
    rw [e1, e2, e3]
    have n1 : wr (wr (wr τ 182 e x) 183 e y) 184 e z 182 i = wr τ 182 e x 182 i := by rw [wr_obj (by omega), wr_obj (by omega)]
    have n2 : wr (wr (wr τ 182 e x) 183 e y) 184 e z 183 i = wr (wr τ 182 e x) 183 e y 183 i := by rw [wr_obj (by omega)]
    rw [n1, n2]
    by_cases q : i = e
    · subst q
      rw [wr_same, wr_same, wr_same, wr_same, wr_same, wr_same]; exact ⟨rfl, rfl, rfl⟩
    · rw [wr_row q, wr_row q, wr_row q, wr_row q, wr_row q, wr_row q]
      refine ⟨g.1, ?_, ?_⟩
      · rw [wr_obj (by omega)]; exact g.2.1
      · rw [wr_obj (by omega), wr_obj (by omega)]; exact g.2.2
  · rw [r 18 (by omega), r 19 (by omega), r 20 (by omega)]
    have g : ∀ q, 185 ≤ q → q ≤ 187 → wr (wr (wr τ 182 e x) 183 e y) 184 e z q = τ q := fun q a c => by rw [wr_obj (by omega), wr_obj (by omega), wr_obj (by omega)]
    rw [g 185 (by omega) (by omega), g 186 (by omega) (by omega), g 187 (by omega) (by omega)]
    exact s3 x' hx
end On2
