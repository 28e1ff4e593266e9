/-! a night: the reference; nights -/
theorem mH_c2 {α α' τ τ' : mm_Mem} {f : Nat → Nat} (h3 : α' 0 3 = α 0 3) (h4 : α' 0 4 = α 0 4) (h1 : τ' 188 = τ 188) (h2 : τ' 140 66 = τ 140 66) (H : mH α f τ) : mH α' f τ' := by unfold mH; rw [h3, h4, h1, h2]; exact H
theorem fvA_c2 {α α' : mm_Mem} {f : Nat → Nat} (h3 : α' 0 3 = α 0 3) (h4 : α' 0 4 = α 0 4) (H : fvA α f) : fvA α' f := by unfold fvA; rw [h3, h4]; exact H
section MNight
variable {E : mm_Env} {d k h b p : Nat} {α τ : mm_Mem} {Q : mm_Q0} {s v : Int}
theorem m_nCome {f : Nat → Nat} (w : WF k α) (hk : k ≤ 600) (H : RepM b (stN α p s v) τ) (p1 : (p : Int) < α 0 7) (hs : 0 ≤ s ∧ s ≤ 2147483647) (hv : 0 ≤ v ∧ v < 1000) (hf : fvA α f) (hm : mH α f τ) (k1 : ∀ τ', RepM b (cmA (stN α p s v) p f) τ' → FrM τ τ' → Q (some (vI (bI (decide (cmR (stN α p s v) p f ≠ -1))))) τ') : M0 E (d + 6) qX11_comes [vR 140, vI (p : Int)] τ (fun v τ9 => ∃ r10 : Int, v = some (vI r10) ∧ inR r10 ∧ ((r10 = (-1) → Q (some (vI 0)) τ9) ∧ (¬ r10 = (-1) → Q (some (vI 1)) τ9))) := by
  refine m_comes (w.stN (p := p) hs (by omega)) hk H (fvA_c2 (stN_i (by omega)) (stN_i (by omega)) hf) (mH_c2 (stN_i (by omega)) (stN_i (by omega)) rfl rfl hm) (by rw [stN_i (by omega)]; exact p1) (by rw [stN_s.2]; exact hv.2) (fun τ' H' F' => ⟨_, rfl, ?_, fun z => ?_, fun z => ?_⟩)
  · have := heR_r (α := stN α p s v) (dd := (stN α p s v 8 p).toNat) (f := f)
    unfold cmR; exact ⟨by omega, by omega⟩
  · have := k1 τ' H' (fun o ho => F' o (by omega))
    rw [decide_eq_false (by simp [z])] at this
    exact this
  · have := k1 τ' H' (fun o ho => F' o (by omega))
    rw [decide_eq_true z] at this
    exact this
theorem m_n85 {x2 : Bool} (w : WF k α) (hk : k ≤ 600) (h7 : α 0 7 ≠ 0) (H : RepM b (stN α (ngP α) (sdN (sdN (α 0 13))) (ngV α)) τ) (hx : x2 = decide (ngV α < 1000)) (hm : ngV α < 1000 → mH α (wpA α (α 9 (ngP α)).toNat (ngV α).toNat) τ) (k1 : ∀ τ', RepM b (ngA α) τ' → FrM τ τ' → Q (some (vI (bI (ngB α)))) τ') : V0 E (d + 7) qX11_night 85 [some (vR 140), some (vI (ngP α : Int)), some (vB x2), none, none] [] τ Q := by
  have hw := w.le
  obtain ⟨pe, p1⟩ := ngP_r w h7
  have wp := w.2.2.2.1 _ p1
  have w3 := w.tune (t := (α 9 (ngP α)).toNat) (by omega)
  have vr := ngV_r w h7
  have w1 := w.stN (p := ngP α) (sdN_r (sdN (α 0 13))) vr
  have w2 := w.stN (p := ngP α) (sdN_r (sdN (sdN (α 0 13)))) vr
  have r3 := dr_r (s := sdN (sdN (α 0 13))) (n := 100) (by decide)
  have hb := H.bk
  refine bX11_night_85 (m_drawnS w1 H ⟨by decide, by decide⟩ (by decide) (fun τ1 H1 F1 G1 => ⟨_, rfl, m_person4 H1 ⟨_, rfl, by omega, by omega, ⟨by omega, by omega⟩, ?_⟩⟩))
  have FF1 : FrM τ τ1 := fun o ho => F1 o (by omega)
  have q4 := (H1.pers (p := (ngP α : Int)) (by omega) (by rw [stN_i (by omega)]; exact p1)).2.2.2
  rw [Int.toNat_natCast, stN_o (by omega) (by omega)] at q4
  rw [q4]
  refine ⟨fun q => ⟨fun z => ?_, fun z => ?_⟩, fun q => ?_⟩
  · have en : ngE α = false := decide_eq_false (by omega)
    have nv : ¬ ngV α < 1000 := of_decide_eq_false (by rw [← hx]; exact z)
    unfold ngA ngB ng2 ngS at k1
    rw [en, if_neg nv, decide_eq_false nv, Bool.false_and] at k1
    exact k1 τ1 H1 FF1
  · have en : ngE α = false := decide_eq_false (by omega)
    have nv : ngV α < 1000 := of_decide_eq_true (by rw [← hx]; exact z)
    have fv := fv_wp w (t := (α 9 (ngP α)).toNat) (n := (ngV α).toNat) (by omega) (by omega)
    refine m_nCome w hk H1 p1 (sdN_r _) ⟨vr.1, nv⟩ fv (mH_c2 rfl rfl (F1 188 (by omega)) (G1 66 (by omega)) (hm nv)) (fun τ2 H2 F2 => ?_)
    unfold ngA ngB ng2 ngS ngF at k1
    rw [en, if_pos nv, decide_eq_true nv, Bool.true_and] at k1
    exact k1 τ2 H2 (FF1.tr F2)
  · have en : ngE α = true := decide_eq_true (by omega)
    have hb1 := H1.bk
    have s4 := H1.hs.2.1
    rw [stN_i (by omega)] at s4
    refine ⟨by omega, by omega, ?_⟩
    rw [hb1.2.2, s4]
    have r4 := dr_r (s := sdN (sdN (sdN (α 0 13)))) (n := α 0 4) (by omega)
    refine m_drawnS w2 H1 ⟨by omega, by omega⟩ (by omega) (fun τ2 H2 F2 G2 => ⟨_, rfl, ?_⟩)
    have hb2 := H2.bk
    have s3 := H2.hs.1
    rw [stN_i (by omega)] at s3
    refine ⟨by omega, by omega, ?_⟩
    rw [hb2.2.2, s3]
    have w5 := w.stN (p := ngP α) (sdN_r (sdN (sdN (sdN (α 0 13))))) vr
    have r5 := dr_r (s := sdN (sdN (sdN (sdN (α 0 13))))) (n := α 0 3 - 1) (by omega)
    refine m_drawnS w5 H2 ⟨by omega, by omega⟩ (by omega) (fun τ3 H3 F3 G3 => ⟨_, rfl, fun z => ?_, fun z => ?_⟩)
    · have nv : ¬ ngV α < 1000 := of_decide_eq_false (by rw [← hx]; exact z)
      unfold ngA ngB ng2 ngS at k1
      rw [en, if_neg nv, decide_eq_false nv, Bool.false_and] at k1
      refine bX11_night_166 ⟨fun _ => ⟨fun _ => k1 τ3 H3 (fun o ho => ?_), fun y => by rw [z] at y; cases y⟩, fun y => by rw [z] at y; cases y⟩
      rw [F3 o (by omega), F2 o (by omega), F1 o (by omega)]
    · have nv : ngV α < 1000 := of_decide_eq_true (by rw [← hx]; exact z)
      have fv := fv_wp w (t := (α 9 (ngP α)).toNat) (n := (ngV α).toNat) (by omega) (by omega)
      have hm3 : mH α (wpA α (α 9 (ngP α)).toNat (ngV α).toNat) τ3 := mH_c2 rfl rfl ((F3 188 (by omega)).trans ((F2 188 (by omega)).trans (F1 188 (by omega)))) ((G3 66 (by omega)).trans ((G2 66 (by omega)).trans (G1 66 (by omega)))) (hm nv)
      have hb3 := H3.bk
      have s33 := H3.hs.1
      rw [stN_i (by omega)] at s33
      have e1 := hm3.1 (sdN (sdN (sdN (sdN (α 0 13)))) / 64 % α 0 4).toNat (by omega)
      have fvb := fv.1 (sdN (sdN (sdN (sdN (α 0 13)))) / 64 % α 0 4).toNat (by omega)
      refine ⟨by omega, by omega, by omega, by omega, ?_⟩
      rw [hb3.2.2, s33, e1]
      have r6 : 0 ≤ ((wpA α (α 9 (ngP α)).toNat (ngV α).toNat (ng4 α / 64 % α 0 4).toNat : Int) + (sdN (ng4 α) / 64 % (α 0 3 - 1) + 1)) % α 0 3 ∧ ((wpA α (α 9 (ngP α)).toNat (ngV α).toNat (ng4 α / 64 % α 0 4).toNat : Int) + (sdN (ng4 α) / 64 % (α 0 3 - 1) + 1)) % α 0 3 < α 0 3 := ⟨Int.emod_nonneg _ (by omega), Int.emod_lt_of_pos _ (by omega)⟩
      have e2 : Int.tmod ((wpA α (α 9 (ngP α)).toNat (ngV α).toNat (sdN (sdN (sdN (sdN (α 0 13)))) / 64 % α 0 4).toNat : Int) + (sdN (sdN (sdN (sdN (sdN (α 0 13))))) / 64 % (α 0 3 - 1) + 1)) (α 0 3) = ((wpA α (α 9 (ngP α)).toNat (ngV α).toNat (ng4 α / 64 % α 0 4).toNat : Int) + (sdN (ng4 α) / 64 % (α 0 3 - 1) + 1)) % α 0 3 := tm_pos (by omega)
      rw [e2]
      refine ⟨⟨by omega, by omega⟩, by omega, by omega, by omega, ⟨by omega, by omega⟩, ?_⟩
      have fok := (ngF_ok w h7 nv).2
      have eF : ngF α = tp_up (wpA α (α 9 (ngP α)).toNat (ngV α).toNat) (ng4 α / 64 % α 0 4).toNat (((wpA α (α 9 (ngP α)).toNat (ngV α).toNat (ng4 α / 64 % α 0 4).toNat : Int) + (sdN (ng4 α) / 64 % (α 0 3 - 1) + 1)) % α 0 3).toNat := by unfold ngF; rw [if_pos en]
      have w6 := w.stN (p := ngP α) (sdN_r (sdN (sdN (sdN (sdN (α 0 13)))))) vr
      refine bX11_night_166 ⟨fun y => (by rw [z] at y; cases y), fun _ => ?_⟩
      refine m_numbers (f := ngF α) w6 (H3.frame (fun o j hr => ?_)) (fvA_c2 (stN_i (by omega)) (stN_i (by omega)) fok) (by rw [stN_i (by omega), stN_i (by omega)]; exact w3) (fun j hj => ?_) (fun τ4 F4 G4 M4 H4 => ⟨rfl, fun y => (by rw [z] at y; cases y), fun _ => ?_⟩)
      · by_cases e : o = 188
        · subst e; exact absurd hr (by simp [relM])
        · rw [wr_obj e]
      · rw [stN_i (by omega)] at hj
        rw [eF]
        unfold tp_up
        by_cases e : j = (ng4 α / 64 % α 0 4).toNat
        · rw [if_pos e, e]
          rw [show (sdN (sdN (sdN (sdN (α 0 13)))) / 64 % α 0 4).toNat = (ng4 α / 64 % α 0 4).toNat from rfl, wr_same]
          omega
        · rw [if_neg e, wr_row (show j ≠ (sdN (sdN (sdN (sdN (α 0 13)))) / 64 % α 0 4).toNat from e)]; exact hm3.1 j hj
      · refine m_nCome w hk H4 p1 (sdN_r _) ⟨vr.1, nv⟩ fok (mH_c2 (stN_i (by omega)).symm (stN_i (by omega)).symm rfl rfl M4) (fun τ5 H5 F5 => ?_)
        unfold ngA ngB ng2 ngS at k1
        rw [en, if_pos nv, decide_eq_true nv, Bool.true_and] at k1
        exact k1 τ5 H5 (fun o ho => by rw [F5 o ho, F4 o (by omega), wr_obj (by omega), F3 o (by omega), F2 o (by omega), F1 o (by omega)])
theorem m_night (w : WF k α) (hk : k ≤ 600) (H : RepM b α τ) (h7 : α 0 7 ≠ 0) (k1 : ∀ τ', RepM b (ngA α) τ' → FrM τ τ' → Q (some (vI (bI (ngB α)))) τ') : M0 E (d + 7) qX11_night [vR 140] τ Q := by
  have hw := w.le
  have hb := H.bk
  have s5 := H.hs.2.2.2.2.1
  obtain ⟨pe, p1⟩ := ngP_r w h7
  have wp := w.2.2.2.1 _ p1
  have w3 := w.tune (t := (α 9 (ngP α)).toNat) (by omega)
  have vr := ngV_r w h7
  refine mX11_night ⟨by omega, by omega, ?_⟩
  rw [hb.2.2, s5]
  refine m_drawn w H ⟨by omega, by omega⟩ (by omega) (fun τ1 H1 F1 G1 => ⟨_, rfl, ?_⟩)
  rw [stN_of (p := ngP α)] at H1
  have w1 := w.stN (p := ngP α) (sdN_r (α 0 13)) (v := α 12 (ngP α)) (by omega)
  rw [← pe]
  refine m_drawnS w1 H1 ⟨by decide, by decide⟩ (by decide) (fun τ2 H2 F2 G2 => ⟨_, rfl, m_person4 H2 ⟨_, rfl, by omega, by omega, ?_, ?_⟩⟩)
  · have := dr_r (s := sdN (α 0 13)) (n := 100) (by decide); exact ⟨by omega, by omega⟩
  have FF : FrM τ τ2 := fun o ho => by rw [F2 o (by omega), F1 o (by omega)]
  have w2 := w.stN (p := ngP α) (sdN_r (sdN (α 0 13))) (v := α 12 (ngP α)) (by omega)
  have q3 := (H2.pers (p := (ngP α : Int)) (by omega) (by rw [stN_i (by omega)]; exact p1)).2.2.1
  rw [Int.toNat_natCast, stN_o (by omega) (by omega)] at q3
  have c2 := (H2.cnt (p := (ngP α : Int)) (by omega) (by omega)).1
  rw [Int.toNat_natCast, stN_s.2] at c2
  have go : ∀ τ3, RepM b (stN α (ngP α) (sdN (sdN (α 0 13))) (ngV α)) τ3 → FrM τ τ3 → M0 E (d + 6) qX11_canCome [vR 140, vI (ngP α : Int)] τ3 (fun v τ15 => ∃ b16 : Bool, v = some (vB b16) ∧ ((b16 = false → V0 E (d + 7) qX11_night 85 [some (vR 140), some (vI (ngP α : Int)), some (vB b16), none, none] [] τ15 Q) ∧ (b16 = true → M0 E (d + 6) qX11_person4 [vR 140, vI (ngP α : Int)] τ15 (fun v τ17 => ∃ r18 : Int, v = some (vI r18) ∧ 0 ≤ r18 ∧ r18 < 8 ∧ 0 ≤ (ngP α : Int) ∧ (ngP α : Int) < 4 ∧ M0 E (d + 6) qX11_whistles [vR 140, vI (τ17 160 r18.toNat), vI (τ17 179 (ngP α : Int).toNat)] τ17 (fun v τ25 => v = none ∧ V0 E (d + 7) qX11_night 85 [some (vR 140), some (vI (ngP α : Int)), some (vB b16), none, none] [] τ25 Q))))) := by
    intro τ3 H3 F3
    have w4 := w.stN (p := ngP α) (sdN_r (sdN (α 0 13))) vr
    have q2 := (H3.pers (p := (ngP α : Int)) (by omega) (by rw [stN_i (by omega)]; exact p1)).2.1
    rw [Int.toNat_natCast, stN_o (by omega) (by omega)] at q2
    have c3 := (H3.cnt (p := (ngP α : Int)) (by omega) (by omega)).1
    rw [Int.toNat_natCast, stN_s.2] at c3
    refine m_canCome H3 (by omega) (by omega) ⟨_, rfl, fun z => ?_, fun z => ?_⟩
    · rw [Int.toNat_natCast, stN_s.2] at z ⊢
      exact m_n85 w hk h7 H3 rfl (fun y => absurd y (of_decide_eq_false z)) (fun τ' H' F' => k1 τ' H' (F3.tr F'))
    · rw [Int.toNat_natCast, stN_s.2] at z ⊢
      have z' := of_decide_eq_true z
      refine m_person4 H3 ⟨_, rfl, by omega, by omega, by omega, by omega, ?_⟩
      rw [q2, c3]
      refine m_whistles w4 H3 (by omega) (by rw [stN_i (by omega)]; omega) (by omega) (by omega) (fun τ4 F4 G4 M4 H4 => ⟨rfl, ?_⟩)
      rw [wp_st] at M4
      exact m_n85 w hk h7 H4 rfl (fun _ => mH_c2 (stN_i (by omega)).symm (stN_i (by omega)).symm rfl rfl M4) (fun τ' H' F' => k1 τ' H' (fun o ho => by rw [F' o ho, F4 o (by omega) (by omega), F3 o ho]))
  rw [q3]
  have r2 := dr_r (s := sdN (α 0 13)) (n := 100) (by decide)
  refine ⟨fun q => ?_, fun q => ⟨by omega, by omega, ?_⟩⟩
  · have e : ngV α = α 12 (ngP α) := by
      have : ngW α = false := decide_eq_false (by omega)
      unfold ngV; rw [this, if_neg (fun y => absurd y.1 (by decide))]
    rw [← e] at H2
    exact go τ2 H2 FF
  · rw [Int.toNat_natCast, c2]
    have nw : ngW α = true := decide_eq_true (by omega)
    refine ⟨fun z => ?_, fun z => ⟨by omega, by omega, by omega, by omega, ⟨by omega, by omega⟩, ?_⟩⟩
    · have e : ngV α = α 12 (ngP α) := by unfold ngV; rw [if_neg (by omega)]
      rw [← e] at H2
      exact go τ2 H2 FF
    · have e : ngV α = α 12 (ngP α) + 1 := by unfold ngV; rw [if_pos ⟨nw, by omega⟩]
      have H3 : RepM b (stN α (ngP α) (sdN (sdN (α 0 13))) (ngV α)) (wr τ2 179 (ngP α) (α 12 (ngP α) + 1)) := by
        have := H2.cnt1 (p := ngP α) (v := α 12 (ngP α) + 1)
        rw [stN_ct, ← e] at this
        rw [← e]; exact this
      exact go _ H3 (FF.w1 (by omega))
end MNight
/-- so many nights -/
def nsA : Nat → mm_Mem → mm_Mem
  | 0, α => α
  | n + 1, α => nsA n (ngA α)
def nsR : Nat → mm_Mem → Int → Int
  | 0, _, x => x
  | n + 1, α, x => nsR n (ngA α) (x + bI (ngB α))
def nightsA (α : mm_Mem) (n : Int) : mm_Mem := if (1 ≤ n ∧ n ≤ 60) ∧ α 0 7 ≠ 0 then nsA n.toNat α else refA α 3
def nightsR (α : mm_Mem) (n : Int) : Int := if (1 ≤ n ∧ n ≤ 60) ∧ α 0 7 ≠ 0 then nsR n.toNat α 0 else -1
theorem ngA_7 {α : mm_Mem} : ngA α 0 7 = α 0 7 := by
  unfold ngA
  split
  · rw [cmA_oo (by omega), ng2, stN_i (by omega)]
  · rw [ng2, stN_i (by omega)]
theorem wfB_st {α : mm_Mem} {p n : Nat} {s v : Int} (wb : wfB α n) : wfB (stN α p s v) n := by
  unfold wfB
  rw [stN_o (by omega) (by omega), stN_o (by omega) (by omega), stN_o (by omega) (by omega), stN_o (by omega) (by omega)]
  exact wb
theorem wfB.up {α : mm_Mem} {n m : Nat} (wb : wfB α n) (h : n ≤ m) : wfB α m := ⟨fun p => by have := wb.1 p; omega, fun p => by have := wb.2 p; omega⟩
theorem nq_i {α : mm_Mem} {i : Nat} (h : i ≠ 13) : ng2 α 0 i = α 0 i := stN_i h
theorem nq_s {α : mm_Mem} : ng2 α 12 (ngP α) = ngV α := stN_s.2
theorem WF.ng {k n : Nat} {α : mm_Mem} (w : WF k α) (wb : wfB α n) (hn : n + 1 ≤ 60 * k) (h7 : α 0 7 ≠ 0) : WF k (ngA α) ∧ wfB (ngA α) (n + 1) := by
  unfold ngA
  split
  · rename_i z
    refine (w.ng2 h7).cm (wfB_st wb) hn ?_ ?_
    · rw [nq_i (by omega)]; exact (ngP_r w h7).2
    · rw [nq_s]; exact z
  · exact ⟨w.ng2 h7, (wfB_st wb).up (by omega)⟩
section Nights
variable {E : mm_Env} {d k h b : Nat} {Q : mm_Q0}
theorem c_nightsL {a : Int} (hk : k ≤ 600) (ha : a ≤ 60) : ∀ (m i n : Nat) (α τ : mm_Mem) (x : Int), (i : Int) + m = a → WF k α → wfB α n → n + m ≤ 60 * k → RepC k h α τ → α 0 7 ≠ 0 → (∀ τ', RepC k h (nsA m α) τ' → FrC τ τ' → Q (some (vI (nsR m α x))) τ') → V0 E (d + 8) qX10_nights 37 [some (vR 2), some (vI a), some (vI x), some (vI (i : Int))] [] τ Q
  | 0, i, n, α, τ, x, hi, w, wb, hn, H, h7, k1 => bX10_nights_37 ⟨⟨by omega, by omega⟩, ⟨by omega, by omega⟩, fun _ => k1 τ H FrC.rf, fun q => by omega⟩
  | m + 1, i, n, α, τ, x, hi, w, wb, hn, H, h7, k1 => by
    have en : ((i : Int) + 1) = ((i + 1 : Nat) : Int) := by omega
    refine bX10_nights_37 ⟨⟨by omega, by omega⟩, ⟨by omega, by omega⟩, fun q => by omega, fun _ => c_night w hk H h7 (fun τ1 H1 F1 => ⟨_, rfl, fun q => ?_, fun q => ?_⟩)⟩
    all_goals
      obtain ⟨w1, wb1⟩ := w.ng wb (by omega) h7
      rw [en]
    · refine c_nightsL hk ha m (i + 1) (n + 1) (ngA α) τ1 x (by omega) w1 wb1 (by omega) H1 (by rw [ngA_7]; exact h7) (fun τ' H' F' => ?_)
      have := k1 τ' H' (F1.tr F')
      rw [nsR, q, show bI false = 0 from rfl, Int.add_zero] at this
      exact this
    · refine c_nightsL hk ha m (i + 1) (n + 1) (ngA α) τ1 (x + 1) (by omega) w1 wb1 (by omega) H1 (by rw [ngA_7]; exact h7) (fun τ' H' F' => ?_)
      have := k1 τ' H' (F1.tr F')
      rw [nsR, q] at this
      exact this
theorem m_nightsL {a : Int} (hk : k ≤ 600) (ha : a ≤ 60) : ∀ (m i n : Nat) (α τ : mm_Mem) (x : Int), (i : Int) + m = a → WF k α → wfB α n → n + m ≤ 60 * k → RepM b α τ → α 0 7 ≠ 0 → (∀ τ', RepM b (nsA m α) τ' → FrM τ τ' → Q (some (vI (nsR m α x))) τ') → V0 E (d + 8) qX11_nights 32 [some (vR 140), some (vI a), some (vI x), some (vI (i : Int))] [] τ Q
  | 0, i, n, α, τ, x, hi, w, wb, hn, H, h7, k1 => bX11_nights_32 ⟨⟨by omega, by omega⟩, ⟨by omega, by omega⟩, fun _ => k1 τ H FrM.rf, fun q => by omega⟩
  | m + 1, i, n, α, τ, x, hi, w, wb, hn, H, h7, k1 => by
    have en : ((i : Int) + 1) = ((i + 1 : Nat) : Int) := by omega
    refine bX11_nights_32 ⟨⟨by omega, by omega⟩, ⟨by omega, by omega⟩, fun q => by omega, fun _ => m_night w hk H h7 (fun τ1 H1 F1 => ⟨_, rfl, ?_⟩)⟩
    obtain ⟨w1, wb1⟩ := w.ng wb (by omega) h7
    rw [en]
    exact m_nightsL hk ha m (i + 1) (n + 1) (ngA α) τ1 _ (by omega) w1 wb1 (by omega) H1 (by rw [ngA_7]; exact h7) (fun τ' H' F' => k1 τ' H' (F1.tr F'))
theorem nsA_WF : ∀ (m n : Nat) (α : mm_Mem), WF k α → wfB α n → n + m ≤ 60 * k → α 0 7 ≠ 0 → WF k (nsA m α)
  | 0, n, α, w, wb, hn, h7 => w
  | m + 1, n, α, w, wb, hn, h7 => by
    obtain ⟨w1, wb1⟩ := w.ng wb (by omega) h7
    exact nsA_WF m (n + 1) (ngA α) w1 wb1 (by omega) (by rw [ngA_7]; exact h7)
variable {α τ : mm_Mem}
theorem c_nights {a : Int} (w : WF k α) (hk : k ≤ 599) (H : RepC k h α τ) (ha : inR a) (k1 : ∀ τ', RepC (k + 1) h (nightsA α a) τ' → FrC τ τ' → Q (some (vI (nightsR α a))) τ') : M0 E (d + 8) qX10_nights [vR 2, vI a] τ Q := by
  have hw := w.le
  obtain ⟨l1, l2⟩ := H.live
  have s5 := H.hs.2.2.2.2.1
  have no : ¬ ((1 ≤ a ∧ a ≤ 60) ∧ α 0 7 ≠ 0) → inR (τ 139 3 + 1) ∧ Q (some (vI (-1))) (wr τ 139 3 (τ 139 3 + 1)) := by
    intro q
    unfold nightsA nightsR at k1
    rw [if_neg q, if_neg q] at k1
    have g := H.2.2.2.2.2.2.2.2.2.2.1 3 (by omega)
    have g2 := w.2.2.2.2.2.1.2.2 3
    exact ⟨⟨by omega, by omega⟩, k1 _ ((H.ref w (by omega)).up (by omega)) (FrC.rf.w1 (by omega))⟩
  refine mX10_nights ⟨ha, fun q => no (fun z => by omega), fun q => ⟨fun q2 => no (fun z => by omega), fun q2 => ⟨h, l1, l2, ?_⟩⟩⟩
  rw [s5]
  refine ⟨fun q3 => ?_, fun q3 => no (fun z => z.2 q3)⟩
  unfold nightsA nightsR at k1
  rw [if_pos ⟨by omega, q3⟩, if_pos ⟨by omega, q3⟩] at k1
  exact c_nightsL (k := k + 1) (by omega) (by omega) a.toNat 0 (60 * k) α τ 0 (by omega) (w.up (by omega)) w.bnd (by omega) (H.up (by omega)) q3 k1
theorem m_nights {a : Int} (w : WF k α) (hk : k ≤ 599) (H : RepM b α τ) (ha : inR a) (k1 : ∀ τ', RepM b (nightsA α a) τ' → FrM τ τ' → Q (some (vI (nightsR α a))) τ') : M0 E (d + 8) qX11_nights [vR 140, vI a] τ Q := by
  have hw := w.le
  have hb := H.bk
  have s5 := H.hs.2.2.2.2.1
  have no : ¬ ((1 ≤ a ∧ a ≤ 60) ∧ α 0 7 ≠ 0) → M0 E (d + 7) qX11_refuses [vR 140, vI 3] τ (fun v τ3 => ∃ r4 : Int, v = some (vI r4) ∧ Q (some (vI r4)) τ3) := by
    intro q
    unfold nightsA nightsR at k1
    rw [if_neg q, if_neg q] at k1
    exact m_refuses (i := 3) (by omega) w H (by omega) (fun τ' H' F' => ⟨_, rfl, k1 τ' H' F'⟩)
  refine mX11_nights (m_is ha ⟨by decide, by decide⟩ ⟨by decide, by decide⟩ ⟨_, rfl, fun q => no (fun z => of_decide_eq_false q z.1), fun q => ⟨by omega, by omega, ?_⟩⟩)
  have q := of_decide_eq_true q
  rw [hb.2.2, s5]
  refine ⟨fun q3 => ?_, fun q3 => no (fun z => z.2 q3)⟩
  unfold nightsA nightsR at k1
  rw [if_pos ⟨q, q3⟩, if_pos ⟨q, q3⟩] at k1
  exact m_nightsL (k := k + 1) (by omega) (by omega) a.toNat 0 (60 * k) α τ 0 (by omega) (w.up (by omega)) w.bnd (by omega) H q3 k1
theorem WF.nights {a : Int} (w : WF k α) : WF (k + 1) (nightsA α a) := by
  unfold nightsA
  split
  · rename_i z; exact nsA_WF a.toNat (60 * k) α (w.up (by omega)) w.bnd (by omega) z.2
  · exact w.ref
theorem WF.come {a : Int} (w : WF k α) : WF (k + 1) (comeA α a) := by
  unfold comeA
  split
  · rename_i z; exact ((w.up (by omega : k ≤ k + 1)).cm w.bnd (by omega) (by omega) z.2).1
  · exact w.ref
theorem WF.slip {a q v : Int} (w : WF k α) : WF (k + 1) (slipA α a q v) := by
  unfold slipA
  split
  · rename_i z; exact ((w.up (by omega : k ≤ k + 1)).cm w.bnd (by omega) (by have := z.1.1; omega) z.1.2).1
  · exact w.ref
theorem WF.waste {a n : Int} (w : WF k α) : WF (k + 1) (wasteA α a n) := by
  unfold wasteA
  split
  · rename_i z
    have wp := w.2.2.2.1 a.toNat (by omega)
    exact (w.up (by omega : k ≤ k + 1)).cnt1 (by omega)
  · exact w.ref
theorem WF.lis {a : Int} (w : WF k α) : WF (k + 1) (lisA α a) := by
  unfold lisA
  split
  · rename_i z; exact (w.tap0.up (by omega : k ≤ k + 1)).hn (n := 60 * k) w.tap0.bnd (by omega) (by rw [wr_row (by omega)]; omega)
  · exact w.tap0.ref
end Nights
