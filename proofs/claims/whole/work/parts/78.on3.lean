/-! on, the loops -/
section On3
variable {E : mm_Env} {d k h b : Nat} {α β τ : mm_Mem} {Q : mm_Q0}
theorem c_tapedTwo {x : Nat} {y : Int} (w : WF k β) (e : ∀ i, i < 1600 → τ 3 i = β 1 i) (hx : x + 1 < 1600) (hy : y = (x : Int)) (k1 : Q (some (vI (tw β x))) τ) : M0 E d qX10_tapedTwo [vR 2, vI y] τ Q := by
  subst hy
  refine mX10_tapedTwo ⟨⟨by omega, by omega⟩, fun q => by omega, fun _ => ⟨⟨by omega, by omega⟩, fun _ => ⟨by omega, by omega, by omega, by omega, ?_⟩, fun q => by omega⟩⟩
  rw [Int.toNat_natCast, show ((x : Int) + 1).toNat = x + 1 by omega, e x (by omega), e (x + 1) (by omega), show β 1 x * 256 + β 1 (x + 1) = tw β x by unfold tw; omega]
  exact k1
theorem c_earPlace {dd t : Nat} (w : WF k β) (H : RepC k h β τ) (hd : (dd : Int) < β 0 6) (ht : (t : Int) < β 0 5) (k1 : Q (some (vI (plE β dd t : Nat))) τ) : M0 E d qX10_earPlace [vR 2, vI (dd : Int), vI (t : Int)] τ Q := by
  obtain ⟨l1, l2⟩ := H.live
  obtain ⟨s1, s2, s3, s4, s5, -⟩ := H.hs
  refine mX10_earPlace ⟨h, l1, l2, h, l1, l2, ?_⟩
  rw [s5, s3, (pl_c w hd ht).1]; exact k1
theorem c_personsFitL (w : WF k β) (H : RepC k h β τ) (k1 : ∀ v : Bool, (v = true ↔ fitP β) → Q (some (vB v)) τ) : ∀ (c p : Nat), (p : Int) + c = β 0 7 → (∀ q, q < p → tw β (2 * q) ≤ 1000) → V0 E (d + 1) qX10_personsFit 2 [some (vR 2), some (vI (p : Int))] [] τ Q
  | 0, p, hp, lo => by
    obtain ⟨l1, l2⟩ := H.live
    obtain ⟨s1, s2, s3, s4, s5, -⟩ := H.hs
    have hw := w.le
    refine bX10_personsFit_2 ⟨h, l1, l2, ⟨by omega, by omega⟩, fun _ => k1 true ⟨fun _ q hq => lo q (by omega), fun _ => rfl⟩, fun q => ?_⟩
    rw [s5] at q; omega
  | c + 1, p, hp, lo => by
    obtain ⟨l1, l2⟩ := H.live
    obtain ⟨s1, s2, s3, s4, s5, -⟩ := H.hs
    have hw := w.le
    have r := tw_r w (2 * p)
    refine bX10_personsFit_2 ⟨h, l1, l2, ⟨by omega, by omega⟩, fun q => ?_, fun _ => c_tapedTwo (x := 2 * p) w H.1.2 (by omega) (by omega) ⟨_, rfl, ⟨by omega, by omega⟩, fun q => ?_, fun q => k1 false ⟨fun e => (by cases e), fun e => absurd (e p (by omega)) q⟩⟩⟩
    · rw [s5] at q; omega
    · rw [show (p : Int) + 1 = ((p + 1 : Nat) : Int) by omega]
      refine c_personsFitL w H k1 c (p + 1) (by omega) (fun x hx => ?_)
      by_cases e : x = p
      · subst e; exact q
      · exact lo x (by omega)
theorem c_earFits {dd t : Nat} (w : WF k β) (H : RepC k h β τ) (hd : (dd : Int) < β 0 6) (ht : (t : Int) < β 0 5) (k1 : ∀ v : Bool, (v = true ↔ efP β dd t) → Q (some (vB v)) τ) : M0 E (d + 1) qX10_earFits [vR 2, vR (h + 14 + 4 * dd), vI (t : Int), vI (plE β dd t : Nat)] τ Q := by
  have hw := w.le
  have hh := H.2.2.1.1
  have pb := (pl_c w hd ht).2
  have t1 := tw_r w (plE β dd t)
  have t2 := tw_r w (plE β dd t + 2)
  have t3 := tw_r w (plE β dd t + 3)
  have a2 := w.1.2.2.1 (plE β dd t + 2)
  have a3 := w.1.2.2.1 (plE β dd t + 3)
  have a4 := w.1.2.2.1 (plE β dd t + 4)
  have kd := kdDoor (dd := dd) hh (by omega)
  have no : ¬ efP β dd t → Q (some (vB false)) τ := fun z => k1 false ⟨fun e => (by cases e), fun e => absurd e z⟩
  have yes : efP β dd t → Q (some (vB true)) τ := fun z => k1 true ⟨fun _ => z, fun _ => rfl⟩
  have ek := (H.2.2.2.2.2.1 dd hd).1.1
  refine mX10_earFits kd (c_tapedTwo w H.1.2 (by omega) rfl ⟨_, rfl, c_tapedTwo (x := plE β dd t + 2) w H.1.2 (by omega) (by omega) ⟨_, rfl, ?_⟩⟩)
  have he := c_hasEarD (E := E) (d := d) (a := (dd : Int)) (t := (t : Int)) w H (by omega) hd ⟨by omega, by omega⟩ (by rw [Int.toNat_natCast]; exact kd) (Q := fun v τ5 => ∃ b6 : Bool, v = some (vB b6) ∧ ((b6 = true → inR (tw β (plE β dd t)) ∧ ((1000 < tw β (plE β dd t) → Q (some (vB false)) τ5) ∧ (¬ 1000 < tw β (plE β dd t) → (((τ5 (h + 14 + 4 * dd) 1) ≠ 2 → inR (tw β (plE β dd t + 2)) ∧ ((0 < tw β (plE β dd t + 2) → Q (some (vB false)) τ5) ∧ (¬ 0 < tw β (plE β dd t + 2) → Q (some (vB true)) τ5))) ∧ ((τ5 (h + 14 + 4 * dd) 1) = 2 → inR (tw β (plE β dd t + 2)) ∧ ((1000 < tw β (plE β dd t + 2) → Q (some (vB false)) τ5) ∧ (¬ 1000 < tw β (plE β dd t + 2) → Q (some (vB true)) τ5))))))) ∧ (b6 = false → inR (tw β (plE β dd t)) ∧ ((tw β (plE β dd t) ≠ 0 → Q (some (vB false)) τ5) ∧ (tw β (plE β dd t) = 0 → inR (tw β (plE β dd t + 2)) ∧ ((tw β (plE β dd t + 2) ≠ 0 → Q (some (vB false)) τ5) ∧ (tw β (plE β dd t + 2) = 0 → M0 E d qX10_tapedTwo [vR 2, vI (((plE β dd t : Nat) : Int) + 3)] τ5 (fun v τ13 => ∃ r14 : Int, v = some (vI r14) ∧ inR r14 ∧ ((r14 ≠ 0 → Q (some (vB false)) τ13) ∧ (r14 = 0 → Q (some (vB true)) τ13)))))))))) ?_
  · rw [Int.toNat_natCast] at he; exact he
  · refine ⟨_, rfl, fun q => ⟨⟨by omega, by omega⟩, fun z => no (fun e => by have := (e.1 q).1; omega), fun z => ?_⟩, fun q => ⟨⟨by omega, by omega⟩, fun z => no (fun e => z (e.2 q).1), fun z => ⟨⟨by omega, by omega⟩, fun z2 => no (fun e => z2 (e.2 q).2.1), fun z2 => c_tapedTwo (x := plE β dd t + 3) w H.1.2 (by omega) (by omega) ⟨_, rfl, ⟨by omega, by omega⟩, fun z3 => no (fun e => z3 ?_), fun z3 => yes ⟨fun q' => ?_, fun _ => ⟨z, z2, ?_⟩⟩⟩⟩⟩⟩
    · rw [ek]
      refine ⟨fun n2 => ⟨⟨by omega, by omega⟩, fun y => no (fun e => ?_), fun y => yes ⟨fun _ => ⟨by omega, fun y2 => absurd y2 n2, fun _ => by omega⟩, fun q' => ?_⟩⟩, fun n2 => ⟨⟨by omega, by omega⟩, fun y => no (fun e => ?_), fun y => yes ⟨fun _ => ⟨by omega, fun _ => by omega, fun y2 => absurd n2 y2⟩, fun q' => ?_⟩⟩⟩
      · have := (e.1 q).2.2 n2; omega
      · rw [q] at q'; cases q'
      · have := (e.1 q).2.1 n2; omega
      · rw [q] at q'; cases q'
    · have := (e.2 q).2.2
      unfold tw at z2 ⊢
      rw [show plE β dd t + 2 + 1 = plE β dd t + 3 by omega] at z2
      rw [show plE β dd t + 3 + 1 = plE β dd t + 4 by omega]
      omega
    · rw [q] at q'; cases q'
    · unfold tw at z3
      rw [show plE β dd t + 3 + 1 = plE β dd t + 4 by omega] at z3
      omega
theorem c_ef21 {dd : Nat} (w : WF k β) (H : RepC k h β τ) (hd : (dd : Int) < β 0 6) (no : ¬ fitE β → Q (some (vB false)) τ) (nx : (∀ t : Nat, (t : Int) < β 0 5 → efP β dd t) → V0 E (d + 2) qX10_earsFit 2 [some (vR 2), some (vI ((dd : Int) + 1)), none, none] [] τ Q) : ∀ (c t : Nat), (t : Int) + c = β 0 5 → (∀ t' : Nat, t' < t → efP β dd t') → V0 E (d + 2) qX10_earsFit 21 [some (vR 2), some (vI (dd : Int)), some (vR (h + 14 + 4 * dd)), some (vI (t : Int))] [] τ Q
  | 0, t, ht, lo => by
    obtain ⟨l1, l2⟩ := H.live
    obtain ⟨s1, s2, s3, s4, s5, -⟩ := H.hs
    have hw := w.le
    refine bX10_earsFit_21 ⟨h, l1, l2, ⟨by omega, by omega⟩, fun _ => nx (fun t' h' => lo t' (by omega)), fun q => ?_⟩
    rw [s3] at q; omega
  | c + 1, t, ht, lo => by
    obtain ⟨l1, l2⟩ := H.live
    obtain ⟨s1, s2, s3, s4, s5, -⟩ := H.hs
    have hw := w.le
    refine bX10_earsFit_21 ⟨h, l1, l2, ⟨by omega, by omega⟩, fun q => ?_, fun _ => ⟨fun q => by omega, fun _ => c_earPlace w H hd (by omega) ⟨_, rfl, c_earFits w H hd (by omega) (fun v hv => ⟨_, rfl, fun q => ?_, fun q => no (fun f => ?_)⟩)⟩⟩⟩
    · rw [s3] at q; omega
    · rw [show (t : Int) + 1 = ((t + 1 : Nat) : Int) by omega]
      refine c_ef21 w H hd no nx c (t + 1) (by omega) (fun x hx => ?_)
      by_cases e : x = t
      · subst e; exact hv.mp q
      · exact lo x (by omega)
    · have := hv.mpr (f dd t hd (by omega)); rw [q] at this; cases this
theorem c_ef2 (w : WF k β) (H : RepC k h β τ) (k1 : ∀ v : Bool, (v = true ↔ fitE β) → Q (some (vB v)) τ) : ∀ (c dd : Nat), (dd : Int) + c = β 0 6 → (∀ d' t : Nat, d' < dd → (t : Int) < β 0 5 → efP β d' t) → V0 E (d + 2) qX10_earsFit 2 [some (vR 2), some (vI (dd : Int)), none, none] [] τ Q
  | 0, dd, hd, lo => by
    obtain ⟨l1, l2⟩ := H.live
    obtain ⟨s1, s2, s3, s4, s5, -⟩ := H.hs
    have hw := w.le
    refine bX10_earsFit_2 ⟨h, l1, l2, ⟨by omega, by omega⟩, fun _ => k1 true ⟨fun _ x t hx ht => lo x t (by omega) ht, fun _ => rfl⟩, fun q => ?_⟩
    rw [s4] at q; omega
  | c + 1, dd, hd, lo => by
    obtain ⟨l1, l2⟩ := H.live
    obtain ⟨s1, s2, s3, s4, s5, -⟩ := H.hs
    have hw := w.le
    refine bX10_earsFit_2 ⟨h, l1, l2, ⟨by omega, by omega⟩, fun q => ?_, fun _ => c_doorAt w H ⟨by omega, by omega⟩ (fun _ _ kd => ⟨_, rfl, ?_⟩) (fun q => by omega)⟩
    · rw [s4] at q; omega
    · rw [Int.toNat_natCast]
      refine c_ef21 w H (by omega) (fun n => k1 false ⟨fun e => (by cases e), fun e => absurd e n⟩) (fun al => ?_) (β 0 5).toNat 0 (by omega) (fun x hx => by omega)
      rw [show (dd : Int) + 1 = ((dd + 1 : Nat) : Int) by omega]
      refine c_ef2 w H k1 c (dd + 1) (by omega) (fun x t hx ht => ?_)
      by_cases e : x = dd
      · subst e; exact al t ht
      · exact lo x t (by omega) ht
theorem and8b (w : WF k β) (x : Nat) : mm_and (tw β x) 255 = β 1 (x + 1) := by
  have a := w.1.2.2.1 x
  have c := w.1.2.2.1 (x + 1)
  rw [(hi8 (tw_r w x)).2.1]
  unfold tw; omega
theorem c_re61 {dd : Nat} (hd4 : dd < 4) : ∀ (c t : Nat) (β τ : mm_Mem), (t : Int) + c = β 0 5 → (dd : Int) < β 0 6 → WF k β → fitE β → RepC k h β τ → (∀ τ', RepC k h (reT dd c t β) τ' → FrC τ τ' → V0 E (d + 1) qX10_restore 42 [some (vR 2), some (vI ((dd : Int) + 1)), none, none, none] [] τ' Q) → V0 E (d + 1) qX10_restore 61 [some (vR 2), some (vI (dd : Int)), some (vR (h + 14 + 4 * dd)), some (vI (t : Int)), none] [] τ Q
  | 0, t, β, τ, ht, hd, w, f, H, k1 => by
    obtain ⟨l1, l2⟩ := H.live
    obtain ⟨s1, s2, s3, s4, s5, -⟩ := H.hs
    have hw := w.le
    refine bX10_restore_61 ⟨h, l1, l2, ⟨by omega, by omega⟩, fun _ => k1 τ H FrC.rf, fun q => ?_⟩
    rw [s3] at q; omega
  | c + 1, t, β, τ, ht, hd, w, f, H, k1 => by
    obtain ⟨l1, l2⟩ := H.live
    obtain ⟨s1, s2, s3, s4, s5, -⟩ := H.hs
    have hw := w.le
    have hh := H.2.2.1.1
    have pb := (pl_c w hd (show (t : Int) < β 0 5 by omega)).2
    have t1 := tw_r w (plE β dd t)
    have t2 := tw_r w (plE β dd t + 2)
    have a4 := w.1.2.2.1 (plE β dd t + 4)
    have a8 := and8b w (plE β dd t + 3)
    have T := H.1.2
    refine bX10_restore_61 ⟨h, l1, l2, ⟨by omega, by omega⟩, fun q => ?_, fun _ => ⟨fun q => by omega, fun _ => c_earPlace w H hd (by omega) ⟨_, rfl, kdDoor hh hd4, c_tapedTwo w T (by omega) rfl ⟨_, rfl, by omega, by omega, ⟨by omega, by omega⟩, ?_⟩⟩⟩⟩
    · rw [s3] at q; omega
    · rw [Int.toNat_natCast]
      refine c_tapedTwo (x := plE β dd t + 2) w (fun i hi => by rw [wr_obj (by omega)]; exact T i hi) (by omega) (by omega) ⟨_, rfl, by omega, by omega, ⟨by omega, by omega⟩, ?_⟩
      refine c_tapedTwo (x := plE β dd t + 3) w (fun i hi => by rw [wr_obj (by omega), wr_obj (by omega)]; exact T i hi) (by omega) (by omega) ⟨_, rfl, by omega, by omega, ?_⟩
      rw [a8, show plE β dd t + 3 + 1 = plE β dd t + 4 by omega, show (t : Int) + 1 = ((t + 1 : Nat) : Int) by omega]
      refine ⟨⟨by omega, by omega⟩, ?_⟩
      obtain ⟨w1, o⟩ := w.w_reE (f dd t hd (by omega))
      have H1 : RepC k h (reE β dd t) _ := H.r_earW (dd := dd) (t := t) (x := tw β (plE β dd t)) (y := tw β (plE β dd t + 2) - 1) (z := β 1 (plE β dd t + 4)) w hd4 (by omega)
      exact c_re61 hd4 c (t + 1) (reE β dd t) _ (by rw [o 0 (by omega) (by omega) (by omega) (by omega)]; omega) (by rw [o 0 (by omega) (by omega) (by omega) (by omega)]; exact hd) w1 (o.fe f) H1 (fun τ2 H2 F2 => k1 τ2 H2 (FrC.tr (((FrC.rf.w1 (by omega)).w1 (by omega)).w1 (by omega)) F2))
theorem c_re42 : ∀ (c dd : Nat) (β τ : mm_Mem), (dd : Int) + c = β 0 6 → WF k β → wfZ β → fitE β → RepC k h β τ → (∀ τ', RepC k h (reD c dd β) τ' → FrC τ τ' → Q none τ') → V0 E (d + 1) qX10_restore 42 [some (vR 2), some (vI (dd : Int)), none, none, none] [] τ Q
  | 0, dd, β, τ, hd, w, z, f, H, k1 => by
    obtain ⟨l1, l2⟩ := H.live
    obtain ⟨s1, s2, s3, s4, s5, -⟩ := H.hs
    have hw := w.le
    refine bX10_restore_42 ⟨h, l1, l2, ⟨by omega, by omega⟩, fun _ => k1 τ H FrC.rf, fun q => ?_⟩
    rw [s4] at q; omega
  | c + 1, dd, β, τ, hd, w, z, f, H, k1 => by
    obtain ⟨l1, l2⟩ := H.live
    obtain ⟨s1, s2, s3, s4, s5, -⟩ := H.hs
    have hw := w.le
    refine bX10_restore_42 ⟨h, l1, l2, ⟨by omega, by omega⟩, fun q => ?_, fun _ => c_doorAt w H ⟨by omega, by omega⟩ (fun _ _ kd => ⟨_, rfl, ?_⟩) (fun q => by omega)⟩
    · rw [s4] at q; omega
    · rw [Int.toNat_natCast]
      obtain ⟨w1, o, z1⟩ := WF.w_reT (k := k) (dd := dd) (β 0 5).toNat 0 β w z f (by omega) (by omega)
      refine c_re61 (by omega) (β 0 5).toNat 0 β τ (by omega) (by omega) w f H (fun τ1 H1 F1 => ?_)
      rw [show (dd : Int) + 1 = ((dd + 1 : Nat) : Int) by omega]
      exact c_re42 c (dd + 1) _ τ1 (by rw [o 0 (by omega) (by omega) (by omega) (by omega)]; omega) w1 z1 (o.fe f) H1 (fun τ2 H2 F2 => k1 τ2 H2 (F1.tr F2))
theorem c_re2 : ∀ (c p : Nat) (β τ : mm_Mem), (p : Int) + c = β 0 7 → WF k β → fitP β → RepC k h β τ → (∀ τ', RepC k h (reP c p β) τ' → FrC τ τ' → V0 E (d + 1) qX10_restore 42 [some (vR 2), some (vI 0), none, none, none] [] τ' Q) → V0 E (d + 1) qX10_restore 2 [some (vR 2), some (vI (p : Int)), none, none, none] [] τ Q
  | 0, p, β, τ, hp, w, f, H, k1 => by
    obtain ⟨l1, l2⟩ := H.live
    obtain ⟨s1, s2, s3, s4, s5, -⟩ := H.hs
    have hw := w.le
    refine bX10_restore_2 ⟨h, l1, l2, ⟨by omega, by omega⟩, fun _ => k1 τ H FrC.rf, fun q => ?_⟩
    rw [s5] at q; omega
  | c + 1, p, β, τ, hp, w, f, H, k1 => by
    obtain ⟨l1, l2⟩ := H.live
    obtain ⟨s1, s2, s3, s4, s5, -⟩ := H.hs
    have hw := w.le
    have r := tw_r w (2 * p)
    have fp := f p (by omega)
    have hh := H.2.2.1.1
    have o : okR β (wr β 12 p (tw β (2 * p))) := okR.p
    refine bX10_restore_2 ⟨h, l1, l2, ⟨by omega, by omega⟩, fun q => ?_, fun _ => c_personAt w H ⟨by omega, by omega⟩ (fun _ _ kd => ⟨_, rfl, fun q => by omega, fun _ => c_tapedTwo (x := 2 * p) w H.1.2 (by omega) (by omega) ⟨_, rfl, kd, ⟨by omega, by omega⟩, ?_⟩⟩) (fun q => by omega)⟩
    · rw [s5] at q; omega
    · rw [Int.toNat_natCast, show (p : Int) + 1 = ((p + 1 : Nat) : Int) by omega]
      exact c_re2 c (p + 1) _ _ (by rw [wr_obj (by omega)]; omega) (w.cnt1 ⟨r.1, fp⟩) (o.fp f) (H.cnt1 w (by omega)) (fun τ2 H2 F2 => k1 τ2 H2 (FrC.tr (FrC.rf.w1 (by omega)) F2))
theorem c_on (hk : k ≤ 600) (w : WF k α) (z : wfZ α) (H : RepC k h α τ) (k1 : onP α → ∀ τ', RepC k h (onA α) τ' → FrC τ τ' → Q (some (vB true)) τ') (k2 : ¬ onP α → ∀ τ', RepC k h (refA (wr α 0 0 0) 5) τ' → FrC τ τ' → Q (some (vB false)) τ') : M0 E (d + 3) qX10_on [vR 2] τ Q := by
  have hw := w.le
  have T0 := H.1.1
  have H1 := H.tap0 w
  have w1 : WF k (wr α 0 0 0) := w.tap0
  have tb := w.1
  have F1 : FrC τ (wr τ 2 1 0) := FrC.rf.w1 (by omega)
  obtain ⟨l1, l2⟩ := H1.live
  obtain ⟨s1, s2, s3, s4, s5, -⟩ := H1.hs
  rw [wr_row (by omega)] at s1 s3 s4 s5
  have e5 := H1.2.2.2.2.2.2.2.2.2.2.1 5 (by omega)
  have r5 := w1.2.2.2.2.2.1.2.2 5
  have no : ¬ onP α → inR (wr τ 2 1 0 139 5 + 1) ∧ Q (some (vB false)) (wr (wr τ 2 1 0) 139 5 (wr τ 2 1 0 139 5 + 1)) := fun n => ⟨⟨by omega, by omega⟩, k2 n _ (H1.ref w1 (by omega)) (F1.w1 (by omega))⟩
  have m12 : 0 ≤ α 0 6 * α 0 5 ∧ α 0 6 * α 0 5 ≤ 12 := by
    constructor
    · exact Int.mul_nonneg (by omega) (by omega)
    · have a1 : α 0 6 * α 0 5 ≤ 4 * α 0 5 := Int.mul_le_mul_of_nonneg_right (by omega) (by omega)
      omega
  have em : 5 * α 0 6 * α 0 5 = 5 * (α 0 6 * α 0 5) := by rw [Int.mul_assoc]
  refine mX10_on (mX10_takeTape ⟨_, rfl, h, l1, l2, h, l1, l2, h, l1, l2, h, l1, l2, ?_⟩)
  rw [T0, s1, s3, s4, s5]
  refine ⟨fun q => no (fun p => by have := p.1; omega), fun q => ⟨⟨by omega, by omega⟩, ⟨by omega, by omega⟩, fun q2 => no (fun p => q2 p.2.1), fun q2 => ⟨fun q3 => no (fun p => by omega), fun q3 => ?_⟩⟩⟩
  have TT := H1.1.2
  have r1 : wr α 0 0 0 1 = α 1 := wr_obj (by omega)
  rw [r1] at TT
  refine c_checkOf (r := α 1) (n := 1600) (lim := (α 0 0).toNat - 1) rfl (by omega) (by omega) (by omega) (by omega) (fun i => w.1.2.2.1 i) (fun i hi => TT i (by omega)) ⟨_, rfl, by omega, by omega, ?_⟩
  have ckr := ck_r (r := α 1) (fun i => w.1.2.2.1 i) ((α 0 0).toNat - 1) 0 33 (by omega)
  rw [show (α 0 0 - 1).toNat = (α 0 0).toNat - 1 by omega, TT _ (by omega)]
  refine ⟨⟨by omega, by omega⟩, fun q4 => no (fun p => q4 p.2.2.1), fun q4 => ?_⟩
  have fpi : fitP (wr α 0 0 0) ↔ fitP α := by
    refine ⟨fun f p hp => ?_, tap_fit⟩
    have := f p (by rw [wr_row (by omega)]; exact hp)
    unfold tw at this; rw [r1] at this; exact this
  have fei : fitE (wr α 0 0 0) ↔ fitE α := by
    refine ⟨fun f dd t h1 h2 => ?_, tap_fe⟩
    have := f dd t (by rw [wr_row (by omega)]; exact h1) (by rw [wr_row (by omega)]; exact h2)
    unfold efP tw at this
    rw [tap_pl, earA_cg (α := α) (α' := wr α 0 0 0) (wr_row (by omega)) (wr_obj (by omega)) (wr_obj (by omega)), r1, wr_obj (by omega)] at this
    exact this
  refine mX10_personsFit (c_personsFitL (d := d + 1) w1 H1 (fun v hv => ⟨_, rfl, fun q5 => no (fun p => ?_), fun q5 => ?_⟩) (α 0 7).toNat 0 (by rw [wr_row (by omega)]; omega) (fun q hq => by omega))
  · have := hv.mpr (fpi.mpr p.2.2.2.1); rw [q5] at this; cases this
  · have fp := fpi.mp (hv.mp q5)
    refine mX10_earsFit (c_ef2 (d := d) w1 H1 (fun v2 hv2 => ⟨_, rfl, fun q6 => no (fun p => ?_), fun q6 => ?_⟩) (α 0 6).toNat 0 (by rw [wr_row (by omega)]; omega) (fun _ _ hq => by omega))
    · have := hv2.mpr (fei.mpr p.2.2.2.2); rw [q6] at this; cases this
    · have fe := fei.mp (hv2.mp q6)
      have P : onP α := ⟨by omega, q2, q4, fp, fe⟩
      obtain ⟨w2, o2, z2⟩ := WF.w_reP (k := k) (α 0 7).toNat 0 (wr α 0 0 0) w1 z.tap (tap_fit fp) (by rw [wr_row (by omega)]; omega)
      have e6 : reP (α 0 7).toNat 0 (wr α 0 0 0) 0 6 = α 0 6 := by rw [o2 0 (by omega) (by omega) (by omega) (by omega)]; exact wr_row (by omega)
      refine mX10_restore (c_re2 (d := d + 1) (α 0 7).toNat 0 _ _ (by rw [wr_row (by omega)]; omega) w1 (tap_fit fp) H1 (fun τ2 H2 F2 => ?_))
      exact c_re42 (α 0 6).toNat 0 _ τ2 (by rw [e6]; omega) w2 z2 (o2.fe (tap_fe fe)) H2 (fun τ3 H3 F3 => ⟨rfl, k1 P τ3 H3 ((F1.tr F2).tr F3)⟩)
end On3
