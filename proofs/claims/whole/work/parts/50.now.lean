/-! a door hears for good; a person comes -/
def c15 (α : mm_Mem) (dd : Nat) : Nat → Int := fun t => α 15 (3 * dd + t)
def c16 (α : mm_Mem) (dd : Nat) : Nat → Int := fun t => α 16 (3 * dd + t)
def c17 (α : mm_Mem) (dd : Nat) : Nat → Int := fun t => α 17 (3 * dd + t)
def heR (α : mm_Mem) (dd : Nat) (f : Nat → Nat) : Int := hrD α dd f (c15 α dd) (c16 α dd) (c17 α dd)
def heA (α : mm_Mem) (dd : Nat) (f : Nat → Nat) : mm_Mem := afD α dd f (c15 α dd) (c16 α dd) (c17 α dd)
def hnA (α : mm_Mem) (dd : Nat) (f : Nat → Nat) : mm_Mem := wr (wr (wr (heA α dd f) 18 dd (if heR α dd f = -1 then α 18 dd else heR α dd f)) 19 dd (if heR α dd f = -1 then α 19 dd else α 19 dd + 1)) 20 dd (if heR α dd f = -1 then α 20 dd + 1 else α 20 dd)
theorem heA_o {α : mm_Mem} {dd j : Nat} {f : Nat → Nat} (h : j < 15 ∨ 17 < j) : heA α dd f j = α j := setE_o h
theorem hnA_o {α : mm_Mem} {dd j : Nat} {f : Nat → Nat} (h : j < 15 ∨ 20 < j) : hnA α dd f j = α j := by
  unfold hnA
  rw [wr_obj (by omega), wr_obj (by omega), wr_obj (by omega), heA_o (by omega)]
theorem hnA_e {α : mm_Mem} {dd j : Nat} {f : Nat → Nat} (h : j < 18) : hnA α dd f j = heA α dd f j := by
  unfold hnA
  rw [wr_obj (by omega), wr_obj (by omega), wr_obj (by omega)]
theorem hnA_18 {α : mm_Mem} {dd : Nat} {f : Nat → Nat} : hnA α dd f 18 dd = (if heR α dd f = -1 then α 18 dd else heR α dd f) ∧ hnA α dd f 19 dd = (if heR α dd f = -1 then α 19 dd else α 19 dd + 1) ∧ hnA α dd f 20 dd = (if heR α dd f = -1 then α 20 dd + 1 else α 20 dd) := by
  unfold hnA
  exact ⟨by rw [wr_obj (by omega), wr_obj (by omega), wr_same], by rw [wr_obj (by omega), wr_same], by rw [wr_same]⟩
theorem hnA_18n {α : mm_Mem} {dd i j : Nat} {f : Nat → Nat} (hj : 17 < j) (h : i ≠ dd) : hnA α dd f j i = α j i := by
  unfold hnA
  have e : ∀ (m : mm_Mem) (o : Nat) (v : Int), wr m o dd v j i = m j i := fun m o v => by
    by_cases q : j = o
    · subst q; rw [wr_row h]
    · rw [wr_obj q]
  rw [e, e, e, heA_o (by omega)]
theorem heR_r {α : mm_Mem} {dd : Nat} {f : Nat → Nat} : -1 ≤ heR α dd f ∧ heR α dd f ≤ 2 := by
  unfold heR hrD hrA
  split
  · omega
  · split
    · omega
    · split <;> omega
/-- rows 12 to 20 new on the class's side -/
theorem RepC.cst {k k' h : Nat} {α α' τ τ' : mm_Mem} (H : RepC k h α τ) (hw : α 0 5 ≤ 3 ∧ α 0 6 ≤ 4 ∧ α 0 7 ≤ 4) (hk : k ≤ k') (r : ∀ j, (j < 12 ∨ 20 < j) → α' j = α j) (e : ∀ o j, relC o j = true → ¬ (h + 14 ≤ o ∧ o < h + 34) → τ' o j = τ o j) (n1 : ∀ d, d < 4 → τ' (h + 14 + 4 * d) 0 = τ (h + 14 + 4 * d) 0) (n2 : ∀ p, p < 4 → τ' (h + 30 + p) 0 = τ (h + 30 + p) 0) (D : gD h α' τ') (P : gP h α' τ') (Y : gY k' τ') : RepC k' h α' τ' := by
  obtain ⟨h1, h2, h3, h4, h5, h6, h7, h8, h9, h10, h11, h12, -⟩ := H
  have hh : h = 4 ∨ h = 38 := h3.1
  refine ⟨⟨?_, fun i hi => ?_⟩, ⟨?_, ?_⟩, ⟨h3.1, ?_, ?_⟩, ⟨fun i hi => ?_, ?_, ?_, fun j hj => ?_⟩, ⟨fun t q => ?_, fun d q => ?_, fun p q => ?_⟩, D, P, ⟨⟨?_, ?_, fun q => ?_⟩, fun t n q1 q2 => ?_⟩, ?_, ⟨?_, fun i q => ?_⟩, fun i hi => ?_, ⟨fun i hi => ?_, ?_, ?_, fun i hi => ?_⟩, Y⟩
  · rw [e _ _ (by simp [relC]) (by omega), r 0 (by omega)]; exact h1.1
  · rw [e _ _ (by simp [relC]) (by omega), r 1 (by omega)]; exact h1.2 i hi
  · rw [e _ _ (by simp [relC]) (by omega), r 0 (by omega)]; exact h2.1
  · rw [e _ _ (by simp [relC]) (by omega), r 0 (by omega)]; exact h2.2
  · rw [e _ _ (by simp [relC]) (by omega)]; exact h3.2.1
  · rw [e _ _ (by simp [relC]) (by omega)]; exact h3.2.2
  · rw [e _ _ (by simp [relC]; omega) (by omega), r 0 (by omega)]; exact h4.1 i hi
  · rw [e _ _ (by simp [relC]; omega) (by omega), r 0 (by omega)]; exact h4.2.1
  · rw [e _ _ (by simp [relC]; omega) (by omega), r 0 (by omega)]; exact h4.2.2.1
  · rw [e _ _ (by simp [relC]; omega) (by omega), r 0 (by omega)]; exact h4.2.2.2 j hj
  · rw [r 0 (by omega)] at q; rw [e _ _ (by simp [relC]; omega) (by omega), r 2 (by omega)]; exact h5.1 t q
  · rw [r 0 (by omega)] at q; rw [n1 d (by omega), r 3 (by omega)]; exact h5.2.1 d q
  · rw [r 0 (by omega)] at q; rw [n2 p (by omega), r 4 (by omega)]; exact h5.2.2 p q
  · rw [e _ _ (by simp [relC]) (by omega), r 0 (by omega)]; exact h8.1.1
  · rw [e _ _ (by simp [relC]) (by omega), r 0 (by omega)]; exact h8.1.2.1
  · rw [r 0 (by omega)] at q ⊢; rw [e _ _ (by simp [relC]) (by omega)]; exact h8.1.2.2 q
  · rw [r 0 (by omega)] at q1
    have wq : wpA α' t n = wpA α t n := by
      funext i
      unfold wpA wnA
      rw [r 0 (by omega), r 21 (by omega)]
    rw [wq, r 22 (by omega), r 23 (by omega), e _ _ (by simp [relC]; omega) (by omega), e _ _ (by simp [relC]; omega) (by omega), e _ _ (by simp [relC]; omega) (by omega)]
    exact h8.2 t n q1 q2
  · rw [e _ _ (by simp [relC]) (by omega), r 0 (by omega)]; exact h9
  · rw [e _ _ (by simp [relC]) (by omega), r 0 (by omega)]; exact h10.1
  · rw [r 0 (by omega)] at q; rw [e _ _ (by simp [relC]) (by omega), r 25 (by omega)]; exact h10.2 i q
  · rw [e _ _ (by simp [relC]) (by omega), r 24 (by omega)]; exact h11 i hi
  · rw [e _ _ (by simp [relC]) (by omega)]; exact h12.1 i hi
  · rw [e _ _ (by simp [relC]) (by omega)]; exact h12.2.1
  · rw [e _ _ (by simp [relC]) (by omega)]; have := h12.2.2.1; omega
  · rw [e 134 _ (by simp [relC]) (by omega), e 133 2 (by simp [relC]) (by omega)]; exact h12.2.2.2 i hi
/-- counters so far -/
def wfB (α : mm_Mem) (n : Nat) : Prop := (∀ p, α 13 p ≤ n ∧ α 14 p ≤ n) ∧ ∀ d, α 19 d ≤ n ∧ α 20 d ≤ n
theorem WF.bnd {k : Nat} {α : mm_Mem} (w : WF k α) : wfB α (60 * k) := by
  obtain ⟨a, b, -⟩ := w.2.2.2.2.2.1
  exact ⟨fun p => by have := a p; omega, fun d => by have := b d; omega⟩
theorem WF.hn {k n dd : Nat} {α : mm_Mem} {f : Nat → Nat} (w : WF k α) (wb : wfB α n) (hn : n + 1 ≤ 60 * k) (d1 : (dd : Int) < α 0 6) : WF k (hnA α dd f) := by
  have w0 := w
  obtain ⟨h1, h2, h3, h4, h5, h6, h7, h8, h9⟩ := w
  have wd := h3 dd d1
  have B : dB (α 5 dd) (α 6 dd) (α 7 dd) (c15 α dd) (c16 α dd) (c17 α dd) := ⟨by omega, fun t _ => h5 _⟩
  have ws : WF k (heA α dd f) := w0.setE (fun t ht => (af_B (α := α) (f := f) (e0 := earA α dd 0) (e1 := earA α dd 1) (e2 := earA α dd 2) B).2 t ht)
  refine ⟨?_, ?_, ?_, ?_, ?_, ?_, ?_, ?_, ?_⟩
  · rw [hnA_o (by omega), hnA_o (by omega)]; exact h1
  · unfold wfH; rw [hnA_o (by omega)]; exact h2
  · unfold wfD; rw [hnA_o (by omega), hnA_o (by omega), hnA_o (by omega), hnA_o (by omega)]; exact h3
  · unfold wfP; rw [hnA_o (by omega), hnA_o (by omega), hnA_o (by omega), hnA_o (by omega), hnA_o (by omega), hnA_o (by omega)]; exact h4
  · unfold wfE; rw [hnA_e (by omega), hnA_e (by omega), hnA_e (by omega)]; exact ws.2.2.2.2.1
  · obtain ⟨a, b, c⟩ := h6
    refine ⟨fun p => ?_, fun x => ?_, fun i => ?_⟩
    · rw [hnA_o (by omega), hnA_o (by omega)]; exact a p
    · by_cases e : x = dd
      · subst e
        obtain ⟨g1, g2, g3⟩ := hnA_18 (α := α) (dd := x) (f := f)
        have r := heR_r (α := α) (dd := x) (f := f)
        have bb := b x
        have wx := wb.2 x
        rw [g1, g2, g3]
        split <;> omega
      · rw [hnA_18n (by omega) e, hnA_18n (by omega) e, hnA_18n (by omega) e]; exact b x
    · rw [hnA_o (by omega)]; exact c i
  · unfold wfW alA wnA; rw [hnA_o (by omega), hnA_o (by omega), hnA_o (by omega), hnA_o (by omega)]; exact h7
  · rw [hnA_o (by omega)]; exact h8
  · rw [hnA_o (by omega), hnA_o (by omega)]; exact h9
section Now
variable {E : mm_Env} {d k h b : Nat} {α τ : mm_Mem} {Q : mm_Q0}
theorem RepC.gw (H : RepC k h α τ) : gW α τ := H.2.2.2.2.2.2.2.1
theorem kdDoor {h dd : Nat} (hh : h = 4 ∨ h = 38) (hd : dd < 4) : KD (h + 14 + 4 * dd) = some (.inr 0) := by
  have ch : ∀ x, x < 4 → KD (4 + 14 + 4 * x) = some (.inr 0) ∧ KD (38 + 14 + 4 * x) = some (.inr 0) := by decide +kernel
  rcases hh with rfl | rfl
  · exact (ch dd hd).1
  · exact (ch dd hd).2
theorem RepC.ds {dd : Nat} (w : WF k α) (H : RepC k h α τ) (d1 : (dd : Int) < α 0 6) : dS τ (h + 14 + 4 * dd) (α 5 dd) (α 6 dd) (α 7 dd) (earA α dd 0) (earA α dd 1) (earA α dd 2) (c15 α dd) (c16 α dd) (c17 α dd) := by
  have hw := w.le
  obtain ⟨⟨a1, a2, a3, a4, a5, a6, a7⟩, a8⟩ := H.2.2.2.2.2.1 dd d1
  exact ⟨⟨kdDoor H.2.2.1.1 (by omega), a1, a2, a3, a4⟩, a8⟩
theorem WF.dBd {dd : Nat} (w : WF k α) (d1 : (dd : Int) < α 0 6) : dB (α 5 dd) (α 6 dd) (α 7 dd) (c15 α dd) (c16 α dd) (c17 α dd) := by
  have wd := w.2.2.1 dd d1
  exact ⟨by omega, fun t _ => w.2.2.2.2.1 _⟩
theorem c_hearD {dd : Nat} {f : Nat → Nat} (w : WF k α) (hk : k ≤ 600) (H : RepC k h α τ) (hof : tp_ok f) (d1 : (dd : Int) < α 0 6) (k1 : ∀ τ', RepC k h (hnA α dd f) τ' → FrC τ τ' → Q (some (vI (heR α dd f))) τ') : M0 E (d + 5) qX0_hear [vR (h + 14 + 4 * dd), vR 78, vI (tp f : Nat)] τ Q := by
  have hw := w.le
  have hh := H.2.2.1.1
  obtain ⟨⟨a1, a2, a3, a4, a5, a6, a7⟩, a8⟩ := H.2.2.2.2.2.1 dd d1
  have wc := w.2.2.2.2.2.1.2.1 dd
  refine c_hear w H.gw hof (H.ds w d1) (w.dBd d1) (fun t ht => ?_) (by omega) (by omega) (fun τ' F' z0 D' g5 g6 g7 => k1 τ' ?_ (fun o ho => F' o (by omega) (by omega) (by omega) (by omega)))
  · rw [e3_ear w] at ht; exact (earA_lt w ht).2.1
  · have e : ∀ o, ¬ (h + 14 + 4 * dd ≤ o ∧ o < h + 14 + 4 * dd + 4) → τ' o = τ o := fun o ho => F' o (by omega) (by omega) (by omega) (by omega)
    refine H.cst ⟨hw.1, hw.2.1, hw.2.2.1⟩ (Nat.le_refl _) (fun j hj => hnA_o (by omega)) (fun o j _ ho => by rw [e o (by omega)]) (fun x hx => ?_) (fun p hp => by rw [e _ (by omega)]) (fun x hx => ?_) (fun p hp i hi => ?_) (fun o h1 h2 => ?_)
    · by_cases q : x = dd
      · subst q; exact z0
      · rw [e _ (by omega)]
    · rw [hnA_o (by omega)] at hx
      have em : maskA (hnA α dd f) = maskA α := maskA_cg (by rw [hnA_o (by omega)]) (hnA_o (by omega)) (hnA_o (by omega))
      rw [em, hnA_o (show 5 < 15 ∨ 20 < 5 by omega), hnA_o (show 6 < 15 ∨ 20 < 6 by omega), hnA_o (show 7 < 15 ∨ 20 < 7 by omega), hnA_e (show 15 < 18 by omega), hnA_e (show 16 < 18 by omega), hnA_e (show 17 < 18 by omega)]
      by_cases q : x = dd
      · subst q
        obtain ⟨⟨y0, y1, y2, y3, y4⟩, y5⟩ := D'
        obtain ⟨g1, g2, g3⟩ := hnA_18 (α := α) (dd := x) (f := f)
        rw [g1, g2, g3]
        refine ⟨⟨y1, y2, y3, y4, ?_, ?_, ?_⟩, fun t ht => ?_⟩
        · rw [← a5]; exact g5
        · rw [← a6]; exact g6
        · rw [← a7]; exact g7
        · obtain ⟨s1, s2, s3⟩ := setE_at (α := α) (dd := x) (c := afC α f (α 5 x) (α 6 x) (α 7 x) (earA α x 0) (earA α x 1) (earA α x 2) (c15 α x) (c16 α x) (c17 α x)) (hf := afH α f (α 5 x) (α 6 x) (α 7 x) (earA α x 0) (earA α x 1) (earA α x 2) (c15 α x) (c16 α x) (c17 α x)) (tr := afT α f (α 5 x) (α 6 x) (α 7 x) (earA α x 0) (earA α x 1) (earA α x 2) (c15 α x) (c16 α x) (c17 α x)) ht
          obtain ⟨z1, z2, z3⟩ := y5 t ht
          exact ⟨z1.trans s1.symm, z2.trans s2.symm, z3.trans s3.symm⟩
      · rw [hnA_18n (by omega) q, hnA_18n (by omega) q, hnA_18n (by omega) q, e (h + 14 + 4 * x) (by omega), e (h + 14 + 4 * x + 1) (by omega), e (h + 14 + 4 * x + 2) (by omega), e (h + 14 + 4 * x + 3) (by omega)]
        obtain ⟨u1, u2⟩ := H.2.2.2.2.2.1 x hx
        refine ⟨u1, fun t ht => ?_⟩
        unfold heA afD
        rw [setE_ne (by omega), setE_ne (by omega), setE_ne (by omega)]
        exact u2 t ht
    · rw [hnA_o (by omega)] at hp
      rw [hnA_o (by omega), e _ (by omega)]
      exact H.2.2.2.2.2.2.1 p hp i hi
    · rw [e o (by omega)]
      exact H.2.2.2.2.2.2.2.2.2.2.2.2 o h1 h2
/-- the reference: what is heard -/
theorem m_whisL {t n : Nat} (w : WF k α) (t1 : (t : Int) < α 0 5) (n1 : n < 1000) : ∀ (m i : Nat) (τ : mm_Mem), (i : Int) + m = α 0 4 → RepM b α τ → (∀ j, j < i → τ 188 j = wnA α t n j) → (∀ τ', (∀ o, o ≠ 188 → o ≠ 140 → τ' o = τ o) → (∀ j, j ≠ 66 → τ' 140 j = τ 140 j) → mH α (wpA α t n) τ' → RepM b α τ' → Q none τ') → V0 E d qX11_whistles 2 [some (vR 140), some (vI (t : Int)), some (vI (n : Int)), some (vI (i : Int))] [] τ Q
  | 0, i, τ, hi, H, lo, k1 => by
    have hw := w.le
    have w3 := w.tune t1
    obtain ⟨b1, b2, b3⟩ := H.bk
    have h4 := H.hs.2.1
    have a := (w.2.2.2.2.2.2.1 t t1).1 n n1
    have g := (H.whi (t := (t : Int)) (n := (n : Int)) (by omega) t1 (by omega) (by omega)).2.2
    rw [Int.toNat_natCast, Int.toNat_natCast] at g
    refine bX11_whistles_2 ⟨by omega, by omega, ⟨by omega, by omega⟩, fun _ => ⟨by omega, by omega, k1 _ (fun o _ o2 => wr_obj o2) (fun j hj => wr_row hj) ⟨fun j hj => ?_, ?_⟩ ?_⟩, fun q => by rw [b3, h4] at q; omega⟩
    · rw [wr_obj (by omega), lo j (by omega)]
      have := a.1 j hj
      unfold wpA; rw [if_pos hj]; omega
    · rw [wr_same, g, a.2.2.2]
      apply num_congr
      intro j hj
      have := a.1 j (by omega)
      unfold wpA; rw [if_pos (by omega)]; omega
    · refine H.frame (fun o j hr => ?_)
      by_cases e : o = 140
      · subst e
        rw [wr_row]
        intro e; subst e; exact absurd hr (by decide)
      · rw [wr_obj e]
  | m + 1, i, τ, hi, H, lo, k1 => by
    have hw := w.le
    have w3 := w.tune t1
    obtain ⟨b1, b2, b3⟩ := H.bk
    have h4 := H.hs.2.1
    have en : ((i : Int) + 1) = ((i + 1 : Nat) : Int) := by omega
    have g := (H.whi (t := (t : Int)) (n := (n : Int)) (by omega) t1 (by omega) (by omega)).1 i (by omega)
    rw [Int.toNat_natCast, Int.toNat_natCast] at g
    refine bX11_whistles_2 ⟨by omega, by omega, ⟨by omega, by omega⟩, fun q => by rw [b3, h4] at q; omega, fun _ => ⟨by omega, by omega, by omega, by omega, ?_⟩⟩
    rw [en, Int.toNat_natCast, g]
    refine m_whisL w t1 n1 m (i + 1) _ (by omega) (H.frame (fun o j hr => ?_)) (fun j hj => ?_) (fun τ' F1 F2 M' H' => k1 τ' (fun o o1 o2 => (F1 o o1 o2).trans (wr_obj o1)) (fun j hj => (F2 j hj).trans (by rw [wr_obj (by omega)])) M' H')
    · by_cases e : o = 188
      · subst e; exact absurd hr (by simp [relM])
      · rw [wr_obj e]
    · by_cases e : j = i
      · subst e; rw [wr_same]
      · rw [wr_row e]; exact lo j (by omega)
theorem m_whistles {t n : Int} (w : WF k α) (H : RepM b α τ) (t0 : 0 ≤ t) (t1 : t < α 0 5) (n0 : 0 ≤ n) (n1 : n < 1000) (k1 : ∀ τ', (∀ o, o ≠ 188 → o ≠ 140 → τ' o = τ o) → (∀ j, j ≠ 66 → τ' 140 j = τ 140 j) → mH α (wpA α t.toNat n.toNat) τ' → RepM b α τ' → Q none τ') : M0 E d qX11_whistles [vR 140, vI t, vI n] τ Q := by
  have w3 := w.tune (t := t.toNat) (by omega)
  have l := m_whisL (E := E) (d := d) (b := b) (Q := Q) (t := t.toNat) (n := n.toNat) w (by omega) (by omega) (α 0 4).toNat 0 τ (by omega) H (fun j hj => absurd hj (Nat.not_lt_zero _)) k1
  rw [show ((t.toNat : Nat) : Int) = t by omega, show ((n.toNat : Nat) : Int) = n by omega] at l
  exact mX11_whistles l
theorem fv_wp {t n : Nat} (w : WF k α) (t1 : (t : Int) < α 0 5) (n1 : n < 1000) : fvA α (wpA α t n) := by
  refine ⟨fun i hi => ?_, fun i hi => ?_⟩
  · have := ((w.2.2.2.2.2.2.1 t t1).1 n n1).1 i hi
    unfold wpA; rw [if_pos hi]; omega
  · unfold wpA; rw [if_neg hi]
theorem m_numL {f : Nat → Nat} (w : WF k α) (hf : fvA α f) (hL : 2 ≤ α 0 3 ∧ α 0 3 ≤ 6 ∧ 2 ≤ α 0 4 ∧ α 0 4 ≤ 5) : ∀ (m i : Nat) (τ : mm_Mem), (i : Int) + m = α 0 4 → RepM b α τ → (∀ j : Nat, (j : Int) < α 0 4 → τ 188 j = (f j : Int)) → τ 140 66 = numA (α 0 3) (fun j => (f j : Int)) i → (∀ τ', (∀ o, o ≠ 140 → τ' o = τ o) → (∀ j, j ≠ 66 → τ' 140 j = τ 140 j) → mH α f τ' → RepM b α τ' → Q none τ') → V0 E d qX11_numbers 7 [some (vR 140), some (vI (i : Int))] [] τ Q
  | 0, i, τ, hi, H, hd, hn, k1 => by
    obtain ⟨b1, b2, b3⟩ := H.bk
    have h4 := H.hs.2.1
    refine bX11_numbers_7 ⟨by omega, by omega, ⟨by omega, by omega⟩, fun _ => k1 τ (fun _ _ => rfl) (fun _ _ => rfl) ⟨hd, ?_⟩ H, fun q => by rw [b3, h4] at q; omega⟩
    rw [hn, show i = (α 0 4).toNat by omega]
  | m + 1, i, τ, hi, H, hd, hn, k1 => by
    obtain ⟨b1, b2, b3⟩ := H.bk
    have h4 := H.hs.2.1
    have h3 := H.hs.1
    have en : ((i : Int) + 1) = ((i + 1 : Nat) : Int) := by omega
    have hi2 : (i : Int) < α 0 4 := by omega
    have e : τ 140 66 * τ 142 (τ 140 12).toNat + τ 188 (i : Int).toNat = numA (α 0 3) (fun j => (f j : Int)) (i + 1) := by
      rw [b3, h3, hn, Int.toNat_natCast, hd i hi2]; rfl
    have rg := num_range (nt := α 0 3) (by omega) (f := fun j => (f j : Int)) (i + 1) (fun j hj => ⟨by omega, hf.1 j (by omega)⟩)
    have rb : α 0 3 ^ (i + 1) ≤ 7776 := by
      have : α 0 3 ^ (i + 1) ≤ 6 ^ 5 := by
        have ea : ((α 0 3).toNat : Int) = α 0 3 := by omega
        have q1 : (α 0 3).toNat ^ (i + 1) ≤ 6 ^ (i + 1) := Nat.pow_le_pow_left (by omega) _
        have q2 : (6 : Nat) ^ (i + 1) ≤ 6 ^ 5 := Nat.pow_le_pow_right (by omega) (by omega)
        have q3 : ((α 0 3).toNat : Int) ^ (i + 1) = (((α 0 3).toNat ^ (i + 1) : Nat) : Int) := by rw [Int.natCast_pow]
        rw [← ea, q3]
        have q4 : (α 0 3).toNat ^ (i + 1) ≤ 7776 := Nat.le_trans q1 q2
        have q5 : (6 : Int) ^ 5 = 7776 := by decide
        omega
      have q5 : (6 : Int) ^ 5 = 7776 := by decide
      omega
    refine bX11_numbers_7 ⟨by omega, by omega, ⟨by omega, by omega⟩, fun q => by rw [b3, h4] at q; omega, fun _ => ⟨by omega, by omega, by omega, by omega, ?_, ?_⟩⟩
    · rw [e]; exact ⟨by omega, by omega⟩
    · rw [e, en]
      refine m_numL w hf hL m (i + 1) _ (by omega) (H.frame (fun o j hr => ?_)) (fun j hj => by rw [wr_obj (by omega)]; exact hd j hj) (by rw [wr_same]) (fun τ' F1 F2 M' H' => k1 τ' (fun o o1 => (F1 o o1).trans (wr_obj o1)) (fun j hj => (F2 j hj).trans (wr_row hj)) M' H')
      by_cases e : o = 140
      · subst e
        rw [wr_row]
        intro e; subst e; exact absurd hr (by decide)
      · rw [wr_obj e]
theorem m_numbers {f : Nat → Nat} (w : WF k α) (H : RepM b α τ) (hf : fvA α f) (hL : 2 ≤ α 0 3 ∧ α 0 3 ≤ 6 ∧ 2 ≤ α 0 4 ∧ α 0 4 ≤ 5) (hd : ∀ j : Nat, (j : Int) < α 0 4 → τ 188 j = (f j : Int)) (k1 : ∀ τ', (∀ o, o ≠ 140 → τ' o = τ o) → (∀ j, j ≠ 66 → τ' 140 j = τ 140 j) → mH α f τ' → RepM b α τ' → Q none τ') : M0 E d qX11_numbers [vR 140] τ Q := by
  refine mX11_numbers ?_
  refine m_numL w hf hL (α 0 4).toNat 0 _ (by omega) (H.frame (fun o j hr => ?_)) (fun j hj => by rw [wr_obj (by omega)]; exact hd j hj) (by rw [wr_same]; rfl) (fun τ' F1 F2 M' H' => k1 τ' (fun o o1 => (F1 o o1).trans (wr_obj o1)) (fun j hj => (F2 j hj).trans (wr_row hj)) M' H')
  by_cases e : o = 140
  · subst e
    rw [wr_row]
    intro e; subst e; exact absurd hr (by decide)
  · rw [wr_obj e]
theorem m_hearsNow {dd : Nat} {f : Nat → Nat} (w : WF k α) (hk : k ≤ 600) (H : RepM b α τ) (hf1 : fvA α f) (hm : mH α f τ) (d1 : (dd : Int) < α 0 6) (k1 : ∀ τ', RepM b (hnA α dd f) τ' → (∀ o, (o < 182 ∨ 188 ≤ o) → τ' o = τ o) → Q (some (vI (heR α dd f))) τ') : M0 E (d + 5) qX11_hearsNow [vR 140, vI (dd : Int)] τ Q := by
  have hw := w.le
  have wc := w.2.2.2.2.2.1.2.1 dd
  have H0 : RepM b (setE α dd (c15 α dd) (c16 α dd) (c17 α dd)) τ := by
    have e : setE α dd (c15 α dd) (c16 α dd) (c17 α dd) = α := setE_id
    rw [e]; exact H
  have r := heR_r (α := α) (dd := dd) (f := f)
  refine mX11_hearsNow (m_hears (c := c15 α dd) (hf := c16 α dd) (tr := c17 α dd) w hf1 d1 (fun t _ => w.2.2.2.2.1 _) H0 hm (fun τ1 F1 H1 => ⟨_, rfl, ⟨by have e : hrD α dd f (c15 α dd) (c16 α dd) (c17 α dd) = heR α dd f := rfl; rw [e]; omega, by have e : hrD α dd f (c15 α dd) (c16 α dd) (c17 α dd) = heR α dd f := rfl; rw [e]; omega⟩, fun q => ⟨by omega, by omega, by omega, by omega, by omega, by omega, ?_, ?_⟩, fun q => ⟨by omega, by omega, by omega, by omega, ?_, ?_⟩⟩))
  all_goals
    have q' : hrD α dd f (c15 α dd) (c16 α dd) (c17 α dd) = heR α dd f := rfl
    rw [q'] at q
    obtain ⟨s1, s2, s3⟩ := H1.2.2.2.2.2.2.2.1
    have o3 := s3 dd (by omega)
    have e18 : ∀ j, 17 < j → afD α dd f (c15 α dd) (c16 α dd) (c17 α dd) j = α j := fun j hj => setE_o (by omega)
    rw [e18 18 (by omega), e18 19 (by omega), e18 20 (by omega)] at o3
    obtain ⟨g1, g2, g3⟩ := hnA_18 (α := α) (dd := dd) (f := f)
  · rw [Int.toNat_natCast, o3.2.1]; exact ⟨by omega, by omega⟩
  · rw [Int.toNat_natCast, q', o3.2.1]
    refine k1 _ ?_ (fun o ho => by rw [wr_obj (by omega), wr_obj (by omega), F1 o (by omega) (by omega) (by omega)])
    refine H1.cst (fun j hj => by rw [hnA_o (by omega)]; exact (setE_o (by omega)).symm) (fun o j _ ho => by rw [wr_obj (by omega), wr_obj (by omega)]) ⟨fun p hp => ?_, fun e he => ?_, fun x hx => ?_⟩
    · have := s1 p hp
      rw [hnA_e (by omega), hnA_e (by omega), hnA_e (by omega), wr_obj (by omega), wr_obj (by omega), wr_obj (by omega), wr_obj (by omega), wr_obj (by omega), wr_obj (by omega)]
      exact this
    · have := s2 e he
      rw [hnA_e (by omega), hnA_e (by omega), hnA_e (by omega), wr_obj (by omega), wr_obj (by omega), wr_obj (by omega), wr_obj (by omega), wr_obj (by omega), wr_obj (by omega)]
      exact this
    · have h3 := s3 x hx
      rw [e18 18 (by omega), e18 19 (by omega), e18 20 (by omega)] at h3
      by_cases e : x = dd
      · subst e
        rw [g1, g2, g3, if_neg q, if_neg q, if_neg q]
        exact ⟨by rw [wr_obj (by omega), wr_same], by rw [wr_same], by rw [wr_obj (by omega), wr_obj (by omega)]; exact h3.2.2⟩
      · rw [hnA_18n (by omega) e, hnA_18n (by omega) e, hnA_18n (by omega) e]
        exact ⟨by rw [wr_obj (by omega), wr_row e]; exact h3.1, by rw [wr_row e, wr_obj (by omega)]; exact h3.2.1, by rw [wr_obj (by omega), wr_obj (by omega)]; exact h3.2.2⟩
  · rw [Int.toNat_natCast, o3.2.2]; exact ⟨by omega, by omega⟩
  · rw [Int.toNat_natCast, q', o3.2.2]
    refine k1 _ ?_ (fun o ho => by rw [wr_obj (by omega), F1 o (by omega) (by omega) (by omega)])
    refine H1.cst (fun j hj => by rw [hnA_o (by omega)]; exact (setE_o (by omega)).symm) (fun o j _ ho => by rw [wr_obj (by omega)]) ⟨fun p hp => ?_, fun e he => ?_, fun x hx => ?_⟩
    · have := s1 p hp
      rw [hnA_e (by omega), hnA_e (by omega), hnA_e (by omega), wr_obj (by omega), wr_obj (by omega), wr_obj (by omega)]
      exact this
    · have := s2 e he
      rw [hnA_e (by omega), hnA_e (by omega), hnA_e (by omega), wr_obj (by omega), wr_obj (by omega), wr_obj (by omega)]
      exact this
    · have h3 := s3 x hx
      rw [e18 18 (by omega), e18 19 (by omega), e18 20 (by omega)] at h3
      by_cases e : x = dd
      · subst e
        rw [g1, g2, g3, if_pos q, if_pos q, if_pos q]
        exact ⟨by rw [wr_obj (by omega)]; exact h3.1, by rw [wr_obj (by omega)]; exact h3.2.1, by rw [wr_same]⟩
      · rw [hnA_18n (by omega) e, hnA_18n (by omega) e, hnA_18n (by omega) e]
        exact ⟨by rw [wr_obj (by omega)]; exact h3.1, by rw [wr_obj (by omega)]; exact h3.2.1, by rw [wr_row e]; exact h3.2.2⟩
end Now
