/-! on, the reference's side -/
section MOn
variable {E : mm_Env} {d k h b : Nat} {α β τ : mm_Mem} {Q : mm_Q0}
theorem m_two {x : Nat} {y : Int} (e : ∀ i, i < 1600 → τ 141 i = β 1 i) (hx : x + 1 < 1600) (hy : y = (x : Int)) (k1 : Q (some (vI (tw β x))) τ) : M0 E d qX11_two [vR 140, vI y] τ Q := by
  subst hy
  refine mX11_two ⟨by omega, by omega, by omega, by omega, ?_⟩
  rw [Int.toNat_natCast, show ((x : Int) + 1).toNat = x + 1 by omega, e x (by omega), e (x + 1) (by omega)]
  exact k1
theorem m_isEarAt {dd t : Nat} (w : WF k β) (H : RepM b β τ) (hd : (dd : Int) < β 0 6) (ht : (t : Int) < β 0 5) (k1 : ∀ v : Bool, (v = true ↔ efP β dd t) → Q (some (vB v)) τ) : M0 E (d + 2) qX11_isEarAt [vR 140, vI (plE β dd t : Nat), vI (dd : Int), vI (t : Int)] τ Q := by
  have hw := w.le
  have b2 := H.bk.2.1
  have pb := (pl_c w hd ht).2
  have t1 := tw_r w (plE β dd t)
  have t2 := tw_r w (plE β dd t + 2)
  have T := H.2.1.2
  have no : ¬ efP β dd t → Q (some (vB false)) τ := fun z => k1 false ⟨fun e => (by cases e), fun e => absurd e z⟩
  have yes : efP β dd t → Q (some (vB true)) τ := fun z => k1 true ⟨fun _ => z, fun _ => rfl⟩
  have ek := (H.door (a := (dd : Int)) (by omega) hd).1
  rw [Int.toNat_natCast] at ek
  refine mX11_isEarAt (m_isEar w H ⟨by omega, by omega⟩ ⟨by omega, by omega⟩ ⟨_, rfl, fun q => m_two T (by omega) rfl ⟨_, rfl, ⟨by omega, by omega⟩, fun z => no (fun e => by have := (e.1 q).1; omega), fun z => m_door4 H ⟨_, rfl, by omega, by omega, ?_⟩⟩, fun q => m_two T (by omega) rfl ⟨_, rfl, ⟨by omega, by omega⟩, fun z => no (fun e => z (e.2 q).1), fun z => m_two (x := plE β dd t + 2) T (by omega) (by omega) ⟨_, rfl, ⟨by omega, by omega⟩, fun z2 => no (fun e => z2 (e.2 q).2.1), fun z2 => ⟨by omega, by omega, ?_⟩⟩⟩⟩)
  · rw [ek]
    refine ⟨fun n2 => m_two (x := plE β dd t + 2) T (by omega) (by omega) ⟨_, rfl, ⟨by omega, by omega⟩, fun y => no (fun e => y ((e.1 q).2.2 n2)), fun y => yes ⟨fun _ => ⟨by omega, fun y2 => absurd y2 n2, fun _ => y⟩, fun q' => ?_⟩⟩, fun n2 => m_two (x := plE β dd t + 2) T (by omega) (by omega) ⟨_, rfl, ⟨by omega, by omega⟩, fun y => no (fun e => by have := (e.1 q).2.1 n2; omega), fun y => yes ⟨fun _ => ⟨by omega, fun _ => by omega, fun y2 => absurd n2 y2⟩, fun q' => ?_⟩⟩⟩
    · rw [q] at q'; cases q'
    · rw [q] at q'; cases q'
  · rw [show (((plE β dd t : Nat) : Int) + 4).toNat = plE β dd t + 4 by omega, T _ (by omega)]
    refine ⟨fun z3 => no (fun e => z3 (e.2 q).2.2), fun z3 => yes ⟨fun q' => ?_, fun _ => ⟨z, z2, z3⟩⟩⟩
    rw [q] at q'; cases q'
theorem m_iw160 {dd : Nat} (w : WF k β) (H : RepM b β τ) (hd : (dd : Int) < β 0 6) (no : ¬ fitE β → Q (some (vB false)) τ) (nx : (∀ t : Nat, (t : Int) < β 0 5 → efP β dd t) → V0 E (d + 3) qX11_isWhole 143 [some (vR 140), none, some (vI (2 * β 0 7)), none, some (vI ((dd : Int) + 1)), none] [] τ Q) : ∀ (c t : Nat), (t : Int) + c = β 0 5 → (∀ t' : Nat, t' < t → efP β dd t') → V0 E (d + 3) qX11_isWhole 160 [some (vR 140), none, some (vI (2 * β 0 7)), none, some (vI (dd : Int)), some (vI (t : Int))] [] τ Q
  | 0, t, ht, lo => by
    obtain ⟨b1, b2, b3⟩ := H.bk
    obtain ⟨e1, e2, e3, e4, e5, -⟩ := H.hs
    have hw := w.le
    refine bX11_isWhole_160 ?_
    rw [b3, b1, e3]
    exact ⟨by omega, by omega, ⟨by omega, by omega⟩, fun _ => nx (fun t' h' => lo t' (by omega)), fun q => by omega⟩
  | c + 1, t, ht, lo => by
    obtain ⟨b1, b2, b3⟩ := H.bk
    obtain ⟨e1, e2, e3, e4, e5, -⟩ := H.hs
    have hw := w.le
    refine bX11_isWhole_160 ?_
    rw [b3, b1, e3, (pl_c w hd (show (t : Int) < β 0 5 by omega)).1]
    refine ⟨by omega, by omega, ⟨by omega, by omega⟩, fun q => by omega, fun _ => ⟨by omega, by omega, m_isEarAt w H hd (by omega) (fun v hv => ⟨_, rfl, fun q => ?_, fun q => no (fun f => ?_)⟩)⟩⟩
    · rw [show (t : Int) + 1 = ((t + 1 : Nat) : Int) by omega]
      refine m_iw160 w H hd no nx c (t + 1) (by omega) (fun x hx => ?_)
      by_cases e : x = t
      · subst e; exact hv.mp q
      · exact lo x (by omega)
    · have := hv.mpr (f dd t hd (by omega)); rw [q] at this; cases this
theorem m_iw143 (w : WF k β) (H : RepM b β τ) (k1 : ∀ v : Bool, (v = true ↔ fitE β) → Q (some (vB v)) τ) : ∀ (c dd : Nat), (dd : Int) + c = β 0 6 → (∀ d' t : Nat, d' < dd → (t : Int) < β 0 5 → efP β d' t) → V0 E (d + 3) qX11_isWhole 143 [some (vR 140), none, some (vI (2 * β 0 7)), none, some (vI (dd : Int)), none] [] τ Q
  | 0, dd, hd, lo => by
    obtain ⟨b1, b2, b3⟩ := H.bk
    obtain ⟨e1, e2, e3, e4, e5, -⟩ := H.hs
    have hw := w.le
    refine bX11_isWhole_143 ?_
    rw [b3, b1, e4]
    exact ⟨by omega, by omega, ⟨by omega, by omega⟩, fun _ => k1 true ⟨fun _ x t hx ht => lo x t (by omega) ht, fun _ => rfl⟩, fun q => by omega⟩
  | c + 1, dd, hd, lo => by
    obtain ⟨b1, b2, b3⟩ := H.bk
    obtain ⟨e1, e2, e3, e4, e5, -⟩ := H.hs
    have hw := w.le
    refine bX11_isWhole_143 ?_
    rw [b3, b1, e4]
    refine ⟨by omega, by omega, ⟨by omega, by omega⟩, fun q => by omega, fun _ => m_iw160 w H (by omega) (fun n => k1 false ⟨fun e => (by cases e), fun e => absurd e n⟩) (fun al => ?_) (β 0 5).toNat 0 (by omega) (fun x hx => by omega)⟩
    rw [show (dd : Int) + 1 = ((dd + 1 : Nat) : Int) by omega]
    refine m_iw143 w H k1 c (dd + 1) (by omega) (fun x t hx ht => ?_)
    by_cases e : x = dd
    · subst e; exact al t ht
    · exact lo x t (by omega) ht
theorem m_iw104 (w : WF k β) (H : RepM b β τ) (no : ¬ fitP β → Q (some (vB false)) τ) (k1 : fitP β → V0 E (d + 3) qX11_isWhole 143 [some (vR 140), none, some (vI (2 * β 0 7)), none, some (vI 0), none] [] τ Q) : ∀ (c p : Nat), (p : Int) + c = β 0 7 → (∀ q, q < p → tw β (2 * q) ≤ 1000) → V0 E (d + 3) qX11_isWhole 104 [some (vR 140), none, some (vI (2 * β 0 7)), none, some (vI (p : Int)), none] [] τ Q
  | 0, p, hp, lo => by
    obtain ⟨b1, b2, b3⟩ := H.bk
    obtain ⟨e1, e2, e3, e4, e5, -⟩ := H.hs
    have hw := w.le
    refine bX11_isWhole_104 ?_
    rw [b3, b1, e5]
    exact ⟨by omega, by omega, ⟨by omega, by omega⟩, fun _ => k1 (fun q hq => lo q (by omega)), fun q => by omega⟩
  | c + 1, p, hp, lo => by
    obtain ⟨b1, b2, b3⟩ := H.bk
    obtain ⟨e1, e2, e3, e4, e5, -⟩ := H.hs
    have hw := w.le
    have r := tw_r w (2 * p)
    refine bX11_isWhole_104 ?_
    rw [b3, b1, e5]
    refine ⟨by omega, by omega, ⟨by omega, by omega⟩, fun q => by omega, fun _ => m_two (x := 2 * p) H.2.1.2 (by omega) (by omega) ⟨_, rfl, ⟨by omega, by omega⟩, fun q => ?_, fun q => no (fun e => q (e p (by omega)))⟩⟩
    rw [show (p : Int) + 1 = ((p + 1 : Nat) : Int) by omega]
    refine m_iw104 w H no k1 c (p + 1) (by omega) (fun x hx => ?_)
    by_cases e : x = p
    · subst e; exact q
    · exact lo x (by omega)
theorem m_iw56 {n : Nat} {x2 : Int} (w : WF k β) (H : RepM b β τ) (hn : 1 ≤ n ∧ n ≤ 1600) (k1 : ckA (β 1) (n - 1) 0 33 = β 1 (n - 1) → V0 E (d + 3) qX11_isWhole 104 [some (vR 140), none, some (vI x2), none, some (vI 0), none] [] τ Q) (no : ¬ ckA (β 1) (n - 1) 0 33 = β 1 (n - 1) → Q (some (vB false)) τ) : ∀ (c i : Nat) (a : Int), i + c = n - 1 → 0 ≤ a ∧ a ≤ 240 → ckA (β 1) c i a = ckA (β 1) (n - 1) 0 33 → V0 E (d + 3) qX11_isWhole 56 [some (vR 140), some (vI (n : Int)), some (vI x2), some (vI a), some (vI (i : Int)), none] [] τ Q
  | 0, i, a, hi, ha, ec => by
    have ec : a = ckA (β 1) (n - 1) 0 33 := ec
    have e1 := H.2.1.2 (n - 1) (by omega)
    refine bX11_isWhole_56 ⟨⟨by omega, by omega⟩, ⟨by omega, by omega⟩, fun _ => ⟨by omega, by omega, ⟨by omega, by omega⟩, ?_⟩, fun q => by omega⟩
    rw [show ((n : Int) - 1).toNat = n - 1 by omega, e1]
    exact ⟨fun q => k1 (by omega), fun q => no (by omega)⟩
  | c + 1, i, a, hi, ha, ec => by
    have br := w.1.2.2.1 i
    refine bX11_isWhole_56 ⟨⟨by omega, by omega⟩, ⟨by omega, by omega⟩, fun q => by omega, fun _ => ⟨by omega, by omega, ?_⟩⟩
    rw [Int.toNat_natCast, H.2.1.2 i (by omega), tm_pos (show 0 ≤ 7 * a + β 1 i by omega), show (i : Int) + 1 = ((i + 1 : Nat) : Int) by omega]
    exact ⟨⟨by omega, by omega⟩, m_iw56 w H hn k1 no c (i + 1) _ (by omega) (by omega) ec⟩
theorem m_on96 {dd : Nat} (hd4 : dd < 4) : ∀ (c t : Nat) (β τ : mm_Mem), (t : Int) + c = β 0 5 → (dd : Int) < β 0 6 → WF k β → fitE β → RepM b β τ → (∀ τ', RepM b (reT dd c t β) τ' → FrM τ τ' → V0 E (d + 4) qX11_on 80 [some (vR 140), none, some (vI (2 * β 0 7)), some (vI ((dd : Int) + 1)), none, none] [] τ' Q) → V0 E (d + 4) qX11_on 96 [some (vR 140), none, some (vI (2 * β 0 7)), some (vI (dd : Int)), some (vI (t : Int)), none] [] τ Q
  | 0, t, β, τ, ht, hd, w, f, H, k1 => by
    obtain ⟨b1, b2, b3⟩ := H.bk
    obtain ⟨e1, e2, e3, e4, e5, -⟩ := H.hs
    have hw := w.le
    refine bX11_on_96 ?_
    rw [b3, b1, e3]
    exact ⟨by omega, by omega, ⟨by omega, by omega⟩, fun _ => k1 τ H FrM.rf, fun q => by omega⟩
  | c + 1, t, β, τ, ht, hd, w, f, H, k1 => by
    obtain ⟨b1, b2, b3⟩ := H.bk
    obtain ⟨e1, e2, e3, e4, e5, -⟩ := H.hs
    have hw := w.le
    have pb := (pl_c w hd (show (t : Int) < β 0 5 by omega)).2
    have t1 := tw_r w (plE β dd t)
    have t2 := tw_r w (plE β dd t + 2)
    have T := H.2.1.2
    refine bX11_on_96 ?_
    rw [b3, b1, e3, (pl_c w hd (show (t : Int) < β 0 5 by omega)).1, show (3 * (dd : Int) + (t : Int)).toNat = 3 * dd + t by omega]
    refine ⟨by omega, by omega, ⟨by omega, by omega⟩, fun q => by omega, fun _ => ⟨by omega, by omega, m_two T (by omega) rfl ⟨_, rfl, by omega, by omega, ⟨by omega, by omega⟩, ?_⟩⟩⟩
    refine m_two (x := plE β dd t + 2) (fun i hi => by rw [wr_obj (by omega)]; exact T i hi) (by omega) (by omega) ⟨_, rfl, by omega, by omega, ⟨by omega, by omega⟩, by omega, by omega, by omega, by omega, ?_⟩
    rw [show (((plE β dd t : Nat) : Int) + 4).toNat = plE β dd t + 4 by omega, wr_obj (show 141 ≠ 182 by omega), T _ (by omega), show (t : Int) + 1 = ((t + 1 : Nat) : Int) by omega]
    obtain ⟨w1, o⟩ := w.w_reE (f dd t hd (by omega))
    have o0 := o 0 (by omega) (by omega) (by omega) (by omega)
    have H1 : RepM b (reE β dd t) _ := H.r_earW (e := 3 * dd + t) (x := tw β (plE β dd t)) (y := tw β (plE β dd t + 2) - 1) (z := β 1 (plE β dd t + 4))
    have l := m_on96 hd4 c (t + 1) (reE β dd t) _ (by rw [o0]; omega) (by rw [o0]; exact hd) w1 (o.fe f) H1 (fun τ2 H2 F2 => by rw [o0]; exact k1 τ2 H2 (FrM.tr (((FrM.rf.w1 (by omega)).w1 (by omega)).w1 (by omega)) F2))
    rw [o0] at l
    exact l
theorem m_on80 : ∀ (c dd : Nat) (β τ : mm_Mem), (dd : Int) + c = β 0 6 → WF k β → wfZ β → fitE β → RepM b β τ → (∀ τ', RepM b (reD c dd β) τ' → FrM τ τ' → Q (some (vB true)) τ') → V0 E (d + 4) qX11_on 80 [some (vR 140), none, some (vI (2 * β 0 7)), some (vI (dd : Int)), none, none] [] τ Q
  | 0, dd, β, τ, hd, w, z, f, H, k1 => by
    obtain ⟨b1, b2, b3⟩ := H.bk
    obtain ⟨e1, e2, e3, e4, e5, -⟩ := H.hs
    have hw := w.le
    refine bX11_on_80 ?_
    rw [b3, b1, e4]
    exact ⟨by omega, by omega, ⟨by omega, by omega⟩, fun _ => k1 τ H FrM.rf, fun q => by omega⟩
  | c + 1, dd, β, τ, hd, w, z, f, H, k1 => by
    obtain ⟨b1, b2, b3⟩ := H.bk
    obtain ⟨e1, e2, e3, e4, e5, -⟩ := H.hs
    have hw := w.le
    obtain ⟨w1, o, z1⟩ := WF.w_reT (k := k) (dd := dd) (β 0 5).toNat 0 β w z f (by omega) (by omega)
    have o0 := o 0 (by omega) (by omega) (by omega) (by omega)
    refine bX11_on_80 ?_
    rw [b3, b1, e4]
    refine ⟨by omega, by omega, ⟨by omega, by omega⟩, fun q => by omega, fun _ => m_on96 (by omega) (β 0 5).toNat 0 β τ (by omega) (by omega) w f H (fun τ1 H1 F1 => ?_)⟩
    rw [show (dd : Int) + 1 = ((dd + 1 : Nat) : Int) by omega]
    have l := m_on80 c (dd + 1) _ τ1 (by rw [o0]; omega) w1 z1 (o.fe f) H1 (fun τ2 H2 F2 => k1 τ2 H2 (F1.tr F2))
    rw [o0] at l
    exact l
theorem m_on46 : ∀ (c p : Nat) (β τ : mm_Mem), (p : Int) + c = β 0 7 → WF k β → fitP β → RepM b β τ → (∀ τ', RepM b (reP c p β) τ' → FrM τ τ' → V0 E (d + 4) qX11_on 80 [some (vR 140), none, some (vI (2 * β 0 7)), some (vI 0), none, none] [] τ' Q) → V0 E (d + 4) qX11_on 46 [some (vR 140), none, some (vI (2 * β 0 7)), some (vI (p : Int)), none, none] [] τ Q
  | 0, p, β, τ, hp, w, f, H, k1 => by
    obtain ⟨b1, b2, b3⟩ := H.bk
    obtain ⟨e1, e2, e3, e4, e5, -⟩ := H.hs
    have hw := w.le
    refine bX11_on_46 ?_
    rw [b3, b1, e5]
    exact ⟨by omega, by omega, ⟨by omega, by omega⟩, fun _ => k1 τ H FrM.rf, fun q => by omega⟩
  | c + 1, p, β, τ, hp, w, f, H, k1 => by
    obtain ⟨b1, b2, b3⟩ := H.bk
    obtain ⟨e1, e2, e3, e4, e5, -⟩ := H.hs
    have hw := w.le
    have r := tw_r w (2 * p)
    have fp := f p (by omega)
    have o : okR β (wr β 12 p (tw β (2 * p))) := okR.p
    have o0 := o 0 (by omega) (by omega) (by omega) (by omega)
    refine bX11_on_46 ?_
    rw [b3, b1, e5]
    refine ⟨by omega, by omega, ⟨by omega, by omega⟩, fun q => by omega, fun _ => m_two (x := 2 * p) H.2.1.2 (by omega) (by omega) ⟨_, rfl, by omega, by omega, ⟨by omega, by omega⟩, ?_⟩⟩
    rw [Int.toNat_natCast, show (p : Int) + 1 = ((p + 1 : Nat) : Int) by omega]
    have l := m_on46 c (p + 1) _ _ (by rw [o0]; omega) (w.cnt1 ⟨r.1, fp⟩) (o.fp f) (H.cnt1 (p := p) (v := tw β (2 * p))) (fun τ2 H2 F2 => by rw [o0]; exact k1 τ2 H2 (FrM.tr (FrM.rf.w1 (by omega)) F2))
    rw [o0] at l
    exact l
theorem m_on (hk : k ≤ 600) (w : WF k α) (z : wfZ α) (H : RepM b α τ) (k1 : onP α → ∀ τ', RepM b (onA α) τ' → FrM τ τ' → Q (some (vB true)) τ') (k2 : ¬ onP α → ∀ τ', RepM b (refA (wr α 0 0 0) 5) τ' → FrM τ τ' → Q (some (vB false)) τ') : M0 E (d + 4) qX11_on [vR 140] τ Q := by
  have hw := w.le
  have T0 := H.2.1.1
  have H1 := H.tap0
  have w1 : WF k (wr α 0 0 0) := w.tap0
  have tb := w.1
  have F1 : FrM τ (wr τ 140 1 0) := FrM.rf.w1 (by omega)
  obtain ⟨b1, b2, b3⟩ := H1.bk
  obtain ⟨e1, e2, e3, e4, e5, -⟩ := H1.hs
  have x3 : wr α 0 0 0 0 3 = α 0 3 := wr_row (by omega)
  have x5 : wr α 0 0 0 0 5 = α 0 5 := wr_row (by omega)
  have x6 : wr α 0 0 0 0 6 = α 0 6 := wr_row (by omega)
  have x7 : wr α 0 0 0 0 7 = α 0 7 := wr_row (by omega)
  rw [x3] at e1; rw [x5] at e3; rw [x6] at e4; rw [x7] at e5
  have r1 : wr α 0 0 0 1 = α 1 := wr_obj (by omega)
  obtain ⟨Qw, hQw⟩ : ∃ q : mm_Q0, q = (fun v τ2 => ∃ b3 : Bool, v = some (vB b3) ∧ ((b3 = true → 0 ≤ (τ2 140 12) ∧ (τ2 140 12) < 2 ∧ V0 E (d + 4) qX11_on 46 [some (vR 140), none, some (vI (2 * (τ2 157 (τ2 140 12).toNat))), some (vI 0), none, none] [] τ2 Q) ∧ (b3 = false → M0 E (d + 3) qX11_refuses [vR 140, vI 5] τ2 (fun v τ8 => ∃ r9 : Int, v = some (vI r9) ∧ inR r9 ∧ ((r9 < 0 → Q (some (vB false)) τ8) ∧ (¬ r9 < 0 → Q (some (vB true)) τ8)))))) := ⟨_, rfl⟩
  have no : ¬ onP α → Qw (some (vB false)) (wr τ 140 1 0) := fun n => by
    rw [hQw]
    exact ⟨false, rfl, fun e => (by cases e), fun _ => m_refuses (i := 5) hk w1 H1 (by omega) (fun τ2 H2 F2 => ⟨_, rfl, ⟨by omega, by omega⟩, fun _ => k2 n τ2 H2 (F1.tr F2), fun q => by omega⟩)⟩
  have m12 : 0 ≤ α 0 6 * α 0 5 ∧ α 0 6 * α 0 5 ≤ 12 := by
    constructor
    · exact Int.mul_nonneg (by omega) (by omega)
    · have a1 : α 0 6 * α 0 5 ≤ 4 * α 0 5 := Int.mul_le_mul_of_nonneg_right (by omega) (by omega)
      omega
  have em : 5 * α 0 6 * α 0 5 = 5 * (α 0 6 * α 0 5) := by rw [Int.mul_assoc]
  have fpi : fitP (wr α 0 0 0) ↔ fitP α := by
    refine ⟨fun f p hp => ?_, tap_fit⟩
    have := f p (by rw [x7]; exact hp)
    unfold tw at this; rw [r1] at this; exact this
  have fei : fitE (wr α 0 0 0) ↔ fitE α := by
    refine ⟨fun f dd t h1 h2 => ?_, tap_fe⟩
    have := f dd t (by rw [x6]; exact h1) (by rw [x5]; exact h2)
    unfold efP tw at this
    rw [tap_pl, earA_cg (α := α) (α' := wr α 0 0 0) (wr_row (by omega)) (wr_obj (by omega)) (wr_obj (by omega)), r1, wr_obj (by omega)] at this
    exact this
  refine mX11_on ?_
  rw [T0, ← hQw]
  refine mX11_isWhole ?_
  rw [b3, b1, e5]
  refine ⟨by omega, by omega, mX11_hasNotes ?_⟩
  rw [b3, b1, e1]
  refine ⟨by omega, by omega, fun q => ⟨_, rfl, fun _ => no (fun p => by have := p.1; omega), fun y => by cases y⟩, fun q => ⟨_, rfl, fun y => (by cases y), fun _ => ?_⟩⟩
  rw [e4, e3]
  refine ⟨by omega, by omega, by omega, by omega, ⟨by omega, by omega⟩, ⟨by omega, by omega⟩, fun q2 => ?_, fun q2 => no (fun p => q2 p.2.1)⟩
  have l := m_iw56 (E := E) (d := d) (Q := Qw) (n := (α 0 0).toNat) (x2 := 2 * α 0 7) w1 H1 (by omega) (fun q4 => ?_) (fun q4 => no (fun p => ?_)) ((α 0 0).toNat - 1) 0 33 (by omega) (by omega) rfl
  · rw [show (((α 0 0).toNat : Nat) : Int) = α 0 0 by omega] at l
    exact l
  · rw [r1] at q4
    have l2 := m_iw104 (E := E) (d := d) (Q := Qw) w1 H1 (fun n => no (fun p => n (fpi.mpr p.2.2.2.1))) (fun fp => ?_) (α 0 7).toNat 0 (by rw [x7]; omega) (fun q hq => by omega)
    · rw [x7] at l2; exact l2
    · refine m_iw143 w1 H1 (fun v hv => ?_) (α 0 6).toNat 0 (by rw [x6]; omega) (fun _ _ hq => by omega)
      by_cases q6 : fitE α
      · have fp' := fpi.mp fp
        have P : onP α := ⟨by omega, q2, q4, fp', q6⟩
        obtain ⟨w2, o2, z2⟩ := WF.w_reP (k := k) (α 0 7).toNat 0 (wr α 0 0 0) w1 z.tap fp (by rw [x7]; omega)
        have o0 := o2 0 (by omega) (by omega) (by omega) (by omega)
        rw [hQw]
        refine ⟨v, rfl, fun _ => ?_, fun e => ?_⟩
        · rw [b3, b1, e5]
          refine ⟨by omega, by omega, ?_⟩
          have l3 := m_on46 (E := E) (d := d) (Q := Q) (α 0 7).toNat 0 _ _ (by rw [x7]; omega) w1 fp H1 (fun τ2 H2 F2 => ?_)
          · rw [x7] at l3; exact l3
          · have l4 := m_on80 (E := E) (d := d) (Q := Q) (α 0 6).toNat 0 _ τ2 (by rw [o0, x6]; omega) w2 z2 (o2.fe (fei.mpr q6)) H2 (fun τ3 H3 F3 => k1 P τ3 H3 ((F1.tr F2).tr F3))
            rw [o0] at l4
            exact l4
        · have := hv.mpr (fei.mpr q6); rw [e] at this; cases this
      · have ev : v = false := by
          cases v
          · rfl
          · exact absurd (fei.mp (hv.mp rfl)) q6
        subst ev
        exact no (fun p => q6 p.2.2.2.2)
  · rw [r1] at q4; exact q4 p.2.2.1
end MOn
