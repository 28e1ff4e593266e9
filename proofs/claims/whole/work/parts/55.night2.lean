/-! a night, nights -/
theorem stN_of {α : mm_Mem} {p : Nat} {s : Int} : wr α 0 13 s = stN α p s (α 12 p) := by
  unfold stN
  have e : (wr α 0 13 s) 12 p = α 12 p := by rw [wr_obj (by omega)]
  rw [← e, wr_id]
section Night3
variable {E : mm_Env} {d k h b p : Nat} {α τ : mm_Mem} {Q : mm_Q0} {s v : Int}
theorem c_drawS {n : Int} (w : WF k (stN α p s v)) (H : RepC k h (stN α p s v) τ) (hn : inR n) (h1 : 1 ≤ n) (k1 : ∀ τ', RepC k h (stN α p (sdN s) v) τ' → FrC τ τ' → Q (some (vI (sdN s / 64 % n))) τ') : M0 E d qX10_draw [vR 2, vI n] τ Q := by
  refine c_draw w H hn h1 (fun τ' H' F' => ?_)
  rw [stN_s.1] at H' ⊢
  rw [stN_sd] at H'
  exact k1 τ' H' F'
theorem m_drawnS {n : Int} (w : WF k (stN α p s v)) (H : RepM b (stN α p s v) τ) (hn : inR n) (h1 : 1 ≤ n) (k1 : ∀ τ', RepM b (stN α p (sdN s) v) τ' → (∀ o, o ≠ 140 → τ' o = τ o) → (∀ j, j ≠ 71 → τ' 140 j = τ 140 j) → Q (some (vI (sdN s / 64 % n))) τ') : M0 E d qX11_drawn [vR 140, vI n] τ Q := by
  refine m_drawn w H hn h1 (fun τ' H' F1 F2 => ?_)
  rw [stN_s.1] at H' ⊢
  rw [stN_sd] at H'
  exact k1 τ' H' F1 F2
theorem c_n130 {x4 x5 : Int} (w : WF k α) (hk : k ≤ 600) (H : RepC k h (stN α p s v) τ) (p1 : (p : Int) < α 0 7) (hs : 0 ≤ s ∧ s ≤ 2147483647) (hv : 0 ≤ v ∧ v ≤ 1000) (h4 : 0 ≤ x4 ∧ x4 < α 0 4) (h5 : 0 ≤ x5 ∧ x5 ≤ 10) (k1 : v < 1000 → ∀ τ', RepC k h (cmA (stN α p s v) p (tp_up (wpA α (α 9 p).toNat v.toNat) x4.toNat (((wpA α (α 9 p).toNat v.toNat x4.toNat : Int) + x5) % α 0 3).toNat)) τ' → FrC τ τ' → Q (some (vB (decide (cmR (stN α p s v) p (tp_up (wpA α (α 9 p).toNat v.toNat) x4.toNat (((wpA α (α 9 p).toNat v.toNat x4.toNat : Int) + x5) % α 0 3).toNat) ≠ -1)))) τ') (k2 : ¬ v < 1000 → Q (some (vB false)) τ) : V0 E (d + 7) qX10_night 130 [some (vR 2), some (vR (h + 30 + p)), none, none, some (vI x4), some (vI x5), none, none] [] τ Q := by
  have hw := w.le
  have hh := H.2.2.1.1
  have wp := w.2.2.2.1 p p1
  have ws := w.stN (p := p) hs hv
  have kp := kdPers (h := h) (p := p) hh (by omega)
  obtain ⟨q1, q2, q3, q4, q5, q6, q7⟩ := H.pers (a := (p : Int)) (by omega) (by rw [stN_i (by omega)]; exact p1)
  obtain ⟨l1, l2⟩ := H.live
  have s1 := H.hs.1
  rw [stN_i (by omega)] at s1
  rw [Int.toNat_natCast] at q1 q2 q3 q4 q5 q6 q7
  rw [stN_o (by omega) (by omega)] at q2
  rw [stN_s.2] at q5
  refine bX10_night_130 ⟨kp, ?_⟩
  rw [q5, q2]
  refine ⟨fun q => ?_, k2⟩
  have w3 := w.tune (t := (α 9 p).toNat) (by omega)
  have ok := wpA_ok w (t := (α 9 p).toNat) (n := v.toNat) (by omega) (by omega)
  have b4 := ok x4.toNat (by omega)
  have r2 : 0 ≤ ((wpA α (α 9 p).toNat v.toNat x4.toNat : Int) + x5) % α 0 3 ∧ ((wpA α (α 9 p).toNat v.toNat x4.toNat : Int) + x5) % α 0 3 < α 0 3 := ⟨Int.emod_nonneg _ (by omega), Int.emod_lt_of_pos _ (by omega)⟩
  refine c_tuneAt ws H (by omega) (by rw [stN_i (by omega)]; omega) (by omega) (by omega) ⟨_, rfl, ?_⟩
  rw [wp_st]
  refine c_noteIn ok (by omega) (by omega) ⟨_, rfl, h, l1, l2, ?_⟩
  rw [s1]
  refine c_modulo ⟨by omega, by omega⟩ ⟨by omega, by omega⟩ (by omega) ⟨_, rfl, c_withNote ok (by omega) (by omega) (by omega) (by omega) ⟨_, rfl, ?_⟩⟩
  refine c_whistleAtDoor ws hk H (tp_up_ok ok (by omega)) (by rw [stN_i (by omega)]; exact p1) (fun τ' H' F' => ⟨_, rfl, ?_, fun z => ?_, fun z => ?_⟩)
  · have := heR_r (α := stN α p s v) (dd := (stN α p s v 8 p).toNat) (f := tp_up (wpA α (α 9 p).toNat v.toNat) x4.toNat (((wpA α (α 9 p).toNat v.toNat x4.toNat : Int) + x5) % α 0 3).toNat)
    unfold cmR; exact ⟨by omega, by omega⟩
  · have := k1 q τ' H' F'
    rw [z] at this
    exact this
  · have := k1 q τ' H' F'
    rw [decide_eq_true z] at this
    exact this
theorem c_n79 {x2 x3 y0 : Int} (w : WF k α) (hk : k ≤ 600) (H : RepC k h (stN α p s (α 12 p)) τ) (p1 : (p : Int) < α 0 7) (hs : 0 ≤ s ∧ s ≤ 2147483647) (hx2 : x2 = 0 ∨ x2 = 1) (hx3 : (x3 = 0 ∧ y0 = 0) ∨ (x3 = 1 ∧ 0 ≤ y0 ∧ y0 < α 0 4))
    (k1 : ∀ (s' v' x5 : Int) (τ1 : mm_Mem), s' = (if x3 = 0 then s else sdN s) → v' = (if x2 = 1 ∧ α 12 p < 1000 then α 12 p + 1 else α 12 p) → x5 = (if x3 = 0 then 0 else sdN s / 64 % (α 0 3 - 1) + 1) → RepC k h (stN α p s' v') τ1 → FrC τ τ1 → V0 E (d + 7) qX10_night 130 [some (vR 2), some (vR (h + 30 + p)), none, none, some (vI y0), some (vI x5), none, none] [] τ1 Q) : V0 E (d + 7) qX10_night 79 [some (vR 2), some (vR (h + 30 + p)), some (vI x2), some (vI x3), none, none, none, none] [vI y0] τ Q := by
  have hw := w.le
  have hh := H.2.2.1.1
  have wp := w.2.2.2.1 p p1
  have ws := w.stN (p := p) hs (v := α 12 p) (by omega)
  have kp := kdPers (h := h) (p := p) hh (by omega)
  obtain ⟨l1, l2⟩ := H.live
  have s1 := H.hs.1
  rw [stN_i (by omega)] at s1
  have w3 := w.tune (t := (α 9 p).toNat) (by omega)
  -- the count
  have cnt : ∀ (s' x5 : Int) (τ1 : mm_Mem), WF k (stN α p s' (α 12 p)) → s' = (if x3 = 0 then s else sdN s) → x5 = (if x3 = 0 then 0 else sdN s / 64 % (α 0 3 - 1) + 1) → RepC k h (stN α p s' (α 12 p)) τ1 → FrC τ τ1 → inR x2 ∧ ((x2 = 0 → V0 E (d + 7) qX10_night 130 [some (vR 2), some (vR (h + 30 + p)), none, none, some (vI y0), some (vI x5), none, none] [] τ1 Q) ∧ (¬ x2 = 0 → KD (h + 30 + p) = some (.inr 3) ∧ ((1000 ≤ (τ1 (h + 30 + p) 5) → V0 E (d + 7) qX10_night 130 [some (vR 2), some (vR (h + 30 + p)), none, none, some (vI y0), some (vI x5), none, none] [] τ1 Q) ∧ (¬ 1000 ≤ (τ1 (h + 30 + p) 5) → inR ((τ1 (h + 30 + p) 5) + 1) ∧ V0 E (d + 7) qX10_night 130 [some (vR 2), some (vR (h + 30 + p)), none, none, some (vI y0), some (vI x5), none, none] [] (wr τ1 (h + 30 + p) 5 ((τ1 (h + 30 + p) 5) + 1)) Q)))) := by
    intro s' x5 τ1 w1 e1 e5 H1 F1
    have q5 := (H1.pers (a := (p : Int)) (by omega) (by rw [stN_i (by omega)]; exact p1)).2.2.2.2.1
    rw [Int.toNat_natCast, stN_s.2] at q5
    refine ⟨⟨by omega, by omega⟩, fun q => k1 s' (α 12 p) x5 τ1 e1 (by rw [if_neg (by omega)]) e5 H1 F1, fun q => ⟨kp, ?_⟩⟩
    rw [q5]
    refine ⟨fun z => k1 s' (α 12 p) x5 τ1 e1 (by rw [if_neg (by omega)]) e5 H1 F1, fun z => ⟨⟨by omega, by omega⟩, ?_⟩⟩
    refine k1 s' (α 12 p + 1) x5 _ e1 (by rw [if_pos (by omega)]) e5 ?_ (F1.w1 (by omega))
    have H2 := RepC.cnt1 (v := α 12 p + 1) w1 H1 (show p < 4 by omega)
    rw [stN_ct] at H2
    exact H2
  refine bX10_night_79 ⟨⟨by omega, by omega⟩, fun q => cnt s 0 τ ws (by rw [if_pos q]) (by rw [if_pos q]) H FrC.rf, fun q => ⟨h, l1, l2, ?_⟩⟩
  rw [s1]
  refine c_drawS ws H ⟨by omega, by omega⟩ (by omega) (fun τ1 H1 F1 => ⟨_, rfl, ?_⟩)
  exact cnt (sdN s) _ τ1 (w.stN (p := p) (sdN_r _) (by omega)) (by rw [if_neg q]) (by rw [if_neg q]) H1 F1
theorem tp_up_self {f : Nat → Nat} {i : Nat} : tp_up f i (f i) = f := by
  funext j
  unfold tp_up
  split
  · rename_i e; rw [e]
  · rfl
theorem c_night (w : WF k α) (hk : k ≤ 600) (H : RepC k h α τ) (h7 : α 0 7 ≠ 0) (k1 : ∀ τ', RepC k h (ngA α) τ' → FrC τ τ' → Q (some (vB (ngB α))) τ') : M0 E (d + 7) qX10_night [vR 2] τ Q := by
  have hw := w.le
  have hh := H.2.2.1.1
  obtain ⟨l1, l2⟩ := H.live
  have s5 := H.hs.2.2.2.2.1
  obtain ⟨pe, p1⟩ := ngP_r w h7
  have wp := w.2.2.2.1 _ p1
  have kp := kdPers (h := h) (p := ngP α) hh (by omega)
  have w3 := w.tune (t := (α 9 (ngP α)).toNat) (by omega)
  have vr := ngV_r w h7
  refine mX10_night ⟨h, l1, l2, ?_⟩
  rw [s5]
  refine c_draw w H ⟨by omega, by omega⟩ (by omega) (fun τ1 H1 F1 => ⟨_, rfl, ?_⟩)
  rw [stN_of (p := ngP α)] at H1
  have w1 := w.stN (p := ngP α) (sdN_r (α 0 13)) (v := α 12 (ngP α)) (by omega)
  rw [← pe]
  refine c_personAt w1 H1 ⟨by omega, by omega⟩ (fun a0 a1 kd => ⟨_, rfl, fun _ => ?_, fun q => by omega⟩) (fun q => absurd q (by rw [stN_i (by omega)]; omega))
  rw [Int.toNat_natCast] at kd ⊢
  refine c_drawS w1 H1 ⟨by decide, by decide⟩ (by decide) (fun τ2 H2 F2 => ⟨_, rfl, kd, ?_, ?_⟩)
  · have := dr_r (s := sdN (α 0 13)) (n := 100) (by decide); exact ⟨by omega, by omega⟩
  have w2 := w.stN (p := ngP α) (sdN_r (sdN (α 0 13))) (v := α 12 (ngP α)) (by omega)
  have q3 := (H2.pers (a := (ngP α : Int)) (by omega) (by rw [stN_i (by omega)]; exact p1)).2.2.1
  rw [Int.toNat_natCast, stN_o (by omega) (by omega)] at q3
  rw [q3]
  have r3 := dr_r (s := sdN (sdN (α 0 13))) (n := 100) (by decide)
  have key : ∀ y : Int, y = (if ngW α = true then 1 else 0) → V0 E (d + 7) qX10_night 40 [some (vR 2), some (vR (h + 30 + ngP α)), none, none, none, none, none, none] [vI y] τ2 Q := by
    intro y hy
    have hy01 : y = 0 ∨ y = 1 := by rw [hy]; split; exact Or.inr rfl; exact Or.inl rfl
    have yv : (if y = 1 ∧ α 12 (ngP α) < 1000 then α 12 (ngP α) + 1 else α 12 (ngP α)) = ngV α := by
      unfold ngV
      by_cases z : ngW α = true
      · rw [hy, if_pos z]; simp [z]
      · rw [hy, if_neg z, if_neg (fun y => absurd y.1 (by decide)), if_neg (fun y => z y.1)]
    refine bX10_night_40 (c_drawS w2 H2 ⟨by decide, by decide⟩ (by decide) (fun τ3 H3 F3 => ⟨_, rfl, kp, ⟨by omega, by omega⟩, ?_⟩))
    have w4 := w.stN (p := ngP α) (sdN_r (sdN (sdN (α 0 13)))) (v := α 12 (ngP α)) (by omega)
    have q4 := (H3.pers (a := (ngP α : Int)) (by omega) (by rw [stN_i (by omega)]; exact p1)).2.2.2.1
    rw [Int.toNat_natCast, stN_o (by omega) (by omega)] at q4
    obtain ⟨m1, m2⟩ := H3.live
    have s2 := H3.hs.2.1
    rw [stN_i (by omega)] at s2
    rw [q4]
    refine ⟨fun q => ?_, fun q => ⟨h, m1, m2, ?_⟩⟩
    · have en : ngE α = false := decide_eq_false (by omega)
      refine c_n79 w hk H3 p1 (sdN_r _) hy01 (Or.inl ⟨rfl, rfl⟩) (fun s' v' x5 τ4 e1 e2 e3 H4 F4 => ?_)
      rw [if_pos rfl] at e1 e3
      rw [yv] at e2
      subst e1 e2 e3
      have ef : tp_up (wpA α (α 9 (ngP α)).toNat (ngV α).toNat) (0 : Int).toNat (((wpA α (α 9 (ngP α)).toNat (ngV α).toNat (0 : Int).toNat : Int) + 0) % α 0 3).toNat = wpA α (α 9 (ngP α)).toNat (ngV α).toNat ∨ ¬ ngV α < 1000 := by
        by_cases z : ngV α < 1000
        · left
          have fv := (fv_wp w (t := (α 9 (ngP α)).toNat) (n := (ngV α).toNat) (by omega) (by omega)).1 0 (by omega)
          rw [show (0 : Int).toNat = 0 from rfl, Int.add_zero, Int.emod_eq_of_lt (by omega) (by omega), Int.toNat_natCast, tp_up_self]
        · exact Or.inr z
      unfold ngA ngB ng2 ngS ngF at k1
      rw [en] at k1
      refine c_n130 w hk H4 p1 (sdN_r _) vr ⟨by omega, by omega⟩ ⟨by omega, by omega⟩ (fun z τ5 H5 F5 => ?_) (fun z => ?_)
      · rcases ef with ef | ef
        · rw [ef] at H5 ⊢
          rw [if_pos z] at k1
          have := k1 τ5 H5 (((F1.tr F2).tr F3).tr (F4.tr F5))
          rw [decide_eq_true z, Bool.true_and] at this
          exact this
        · exact absurd z ef
      · rw [if_neg z] at k1
        have := k1 τ4 H4 (((F1.tr F2).tr F3).tr F4)
        rw [decide_eq_false z, Bool.false_and] at this
        exact this
    · have en : ngE α = true := decide_eq_true (by omega)
      rw [s2]
      have r4 := dr_r (s := sdN (sdN (sdN (α 0 13)))) (n := α 0 4) (by omega)
      refine c_drawS w4 H3 ⟨by omega, by omega⟩ (by omega) (fun τ4 H4 F4 => ⟨_, rfl, ?_⟩)
      refine c_n79 w hk H4 p1 (sdN_r _) hy01 (Or.inr ⟨rfl, r4.1, r4.2⟩) (fun s' v' x5 τ5 e1 e2 e3 H5 F5 => ?_)
      rw [if_neg (by decide)] at e1 e3
      rw [yv] at e2
      subst e1 e2 e3
      unfold ngA ngB ng2 ngS ngF at k1
      rw [en] at k1
      have r5 := dr_r (s := sdN (sdN (sdN (sdN (α 0 13))))) (n := α 0 3 - 1) (by omega)
      refine c_n130 w hk H5 p1 (sdN_r _) vr ⟨by omega, by omega⟩ ⟨by omega, by omega⟩ (fun z τ6 H6 F6 => ?_) (fun z => ?_)
      · rw [if_pos z] at k1
        have := k1 τ6 H6 (((F1.tr F2).tr F3).tr (F4.tr (F5.tr F6)))
        rw [decide_eq_true z, Bool.true_and] at this
        exact this
      · rw [if_neg z] at k1
        have := k1 τ5 H5 (((F1.tr F2).tr F3).tr (F4.tr F5))
        rw [decide_eq_false z, Bool.false_and] at this
        exact this
  refine ⟨fun q => key 0 ?_, fun q => key 1 ?_⟩
  · have : ngW α = false := decide_eq_false (by omega)
    rw [this]; rfl
  · have : ngW α = true := decide_eq_true (by omega)
    rw [this]; rfl
end Night3
