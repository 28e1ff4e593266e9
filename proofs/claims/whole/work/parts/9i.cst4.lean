/-! the class reads statements: person, the head; a house -/
section CSt4
variable {E : mm_Env} {d : Nat} {τ : mm_Mem} {Q : mm_Q0} {r : Nat → Int} {n hh : Nat} {a : Nat} {β : mm_Mem} {cd cd' : List Int}
theorem HbC.cgp {τ' : mm_Mem} {p0 : Nat} (H : HbC hh β τ) (hd : β 0 6 ≤ 4) (hp : β 0 7 = (p0 : Int)) (hp4 : p0 ≤ 4) (e : ∀ o, hh ≤ o → o < hh + 34 → o ≠ hh + 6 → o ≠ hh + 7 → o ≠ hh + 30 + p0 → τ' o = τ o) : HbC hh β τ' := by
  obtain ⟨⟨a1, a2, a3, a4⟩, ⟨b1, b2, b3⟩, c, d, f, g⟩ := H
  refine ⟨⟨fun i hi => ?_, ?_, ?_, fun j hj => ?_⟩, ⟨fun t q => ?_, fun d q => ?_, fun p q => ?_⟩, fun d q => ?_, fun p q i hi => ?_, fun t q => ?_, fun k j hk q => ?_⟩
  · rw [e hh (by omega) (by omega) (by omega) (by omega) (by omega)]; exact a1 i hi
  · rw [e hh (by omega) (by omega) (by omega) (by omega) (by omega)]; exact a2
  · rw [e hh (by omega) (by omega) (by omega) (by omega) (by omega)]; exact a3
  · rw [e (hh + 8) (by omega) (by omega) (by omega) (by omega) (by omega)]; exact a4 j hj
  · rw [e (hh + 1) (by omega) (by omega) (by omega) (by omega) (by omega)]; exact b1 t q
  · rw [e _ (by omega) (by omega) (by omega) (by omega) (by omega)]; exact b2 d q
  · rw [e _ (by omega) (by omega) (by omega) (by omega) (by omega)]; exact b3 p q
  · rw [e (hh + 14 + 4 * d) (by omega) (by omega) (by omega) (by omega) (by omega), e (hh + 14 + 4 * d + 1) (by omega) (by omega) (by omega) (by omega) (by omega), e (hh + 14 + 4 * d + 2) (by omega) (by omega) (by omega) (by omega) (by omega), e (hh + 14 + 4 * d + 3) (by omega) (by omega) (by omega) (by omega) (by omega)]; exact c d q
  · rw [e _ (by omega) (by omega) (by omega) (by omega) (by omega)]; exact d p q i hi
  · rw [e (hh + 2) (by omega) (by omega) (by omega) (by omega) (by omega), e (hh + 3) (by omega) (by omega) (by omega) (by omega) (by omega)]; exact f t q
  · rw [e (hh + 9) (by omega) (by omega) (by omega) (by omega) (by omega), e (hh + 10) (by omega) (by omega) (by omega) (by omega) (by omega), e (hh + 11) (by omega) (by omega) (by omega) (by omega) (by omega)]; exact g k j hk q
theorem c_readPerson (h4 : hh = 4 ∨ hh = 38) (hr : ∀ i, 0 ≤ r i ∧ r i ≤ 255) (S : SIn n a β cd cd') (hw : tWb r n a 13 = true) (B : HbC hh β τ) (H : RdC r n hh a 0 cd τ) (kT : ∀ a1 β1 c1 c1', peP r n a β cd cd' = .inr (a1, β1, c1, c1') → ∀ τ', RdC r n hh a1 0 c1 τ' → HbC hh β1 τ' → frS hh τ τ' → Q (some (vB true)) τ') (kF : ∀ k p, peP r n a β cd cd' = .inl (k, p) → ∀ τ', RdF hh k p τ' → frS hh τ τ' → Q (some (vB false)) τ') : M0 E (d + 3) qX4_readPerson [vR 77] τ Q := by
  obtain ⟨ha, hc, hc', sh, sn, -⟩ := id S
  have s := sh.1
  have h7 : hh + 7 < 72 := by omega
  have t0 := tW_n ha hr hw
  obtain ⟨p0, ep⟩ : ∃ t : Nat, β 0 7 = (t : Int) := ⟨(β 0 7).toNat, by omega⟩
  have e4 : τ hh 4 = (p0 : Int) := (B.1.1 4 (by omega)).trans ep
  unfold peP at kT kF
  rw [ep] at kT kF
  refine mX4_readPerson (d := d + 2) ⟨hh, H.1, (kdR h4).1, ?_⟩
  rw [e4]
  refine ⟨fun q => ?_, fun q => c_fail (k := 5) h7 (by omega) H (fun τ' u1 u2 => ⟨_, rfl, kF 5 _ (by rw [if_pos (by omega)]) τ' u1 u2.s⟩)⟩
  rw [if_neg (by omega)] at kT kF
  refine c_advance h7 (by rw [(tW_k hw).1]; omega) H (fun τ1 H1 F1 _ => ⟨rfl, ?_⟩)
  refine c_readNewName h4 t0.2 hr (B.r h4 (by omega) (by omega) F1) sn sh H1 (fun ev w1 t1 t2 τ2 H2 g2 F2 => ⟨true, rfl, fun _ => ?_, fun q => ff_tt q⟩) (fun k p ev τ2 R2 F2 => ⟨false, rfl, fun q => tt_ff q, fun _ => kF k p (ev _) τ2 R2 (F1.tr F2).s⟩)
  rw [ev] at kT kF
  have F12 := F1.tr F2
  have e42 : τ2 hh 4 = (p0 : Int) := by rw [F12.1 hh (by omega) (by omega) (by omega)]; exact e4
  refine ⟨hh, H2.1, (kdR h4).1, hh, H2.1, (kdR h4).1, ?_⟩
  rw [e42, g2, Int.toNat_natCast]
  have KP := kdPe (hh := hh) (p := p0) h4 (by omega)
  refine ⟨by omega, by omega, mX3_begin KP ⟨nm5_R w1, rfl, ?_⟩⟩
  generalize hσ : wr (wr (wr (wr τ2 (hh + 30 + p0) 0 (nm5 (tV r n (tN r n a)))) (hh + 30 + p0) 5 0) (hh + 30 + p0) 6 0) (hh + 30 + p0) 7 0 = σ
  have Oσ : ∀ o, o ≠ hh + 30 + p0 → σ o = τ2 o := fun o ho => by rw [← hσ, wr_obj ho, wr_obj ho, wr_obj ho, wr_obj ho]
  have x0 : σ (hh + 30 + p0) 0 = nm5 (tV r n (tN r n a)) := by rw [← hσ]; simp [wr]
  have x5 : σ (hh + 30 + p0) 5 = 0 ∧ σ (hh + 30 + p0) 6 = 0 ∧ σ (hh + 30 + p0) 7 = 0 := by rw [← hσ]; simp [wr]
  clear hσ
  have Hσ : RdC r n hh (tN r n (tN r n a)) 0 cd σ := H2.cgo h7 (fun o ho => Oσ o (by omega))
  have Fσ : frS hh τ σ := F12.s.tr ⟨fun o h1 h2 => Oσ o (by omega), fun i hi => by rw [Oσ 77 (by omega)]⟩
  have Bσ : HbC hh β σ := HbC.cgp B (by omega) ep (by omega) (fun o b1 b2 b3 b4 b5 => by rw [Oσ o b5, F12.1 o (by omega) b3 b4])
  refine c_readWord h7 t2 hr (i := 7) (by omega) rfl Hσ (fun z τ3 H3 F3 _ => ⟨true, rfl, fun q => ff_tt q, fun _ => ?_⟩) (fun z τ3 R3 F3 => ⟨false, rfl, fun _ => kF 1 _ (by rw [wd_f z]) τ3 R3 (Fσ.tr F3.s), fun q => tt_ff q⟩)
  rw [wd_t z] at kT kF
  have u1 := tW_n t2 hr z
  refine c_readKnownName (β := β) h4 u1.2 hr (Bσ.r h4 (by omega) (by omega) F3) sn sh (Or.inl ⟨rfl, rfl, rfl⟩) H3 (fun ev4 d1 d2 t3 t4 τ4 H4 g4 F4 => ⟨true, rfl, fun _ => ?_, fun q => ff_tt q⟩) (fun k p ev4 τ4 R4 F4 => ⟨false, rfl, fun q => tt_ff q, fun _ => kF k p (ev4 _) τ4 R4 (Fσ.tr (F3.tr F4).s)⟩)
  rw [ev4] at kT kF
  rw [g4]
  generalize hdd : fnd (β 3) (β 0 6) _ = dd at *
  have F34 := F3.tr F4
  have F4s : frS hh τ (wr τ4 (hh + 30 + p0) 1 dd) := (Fσ.tr F34.s).w h4 (by omega)
  have O4 : ∀ o, o ≠ 77 → o ≠ hh + 6 → o ≠ hh + 7 → o ≠ hh + 30 + p0 → wr τ4 (hh + 30 + p0) 1 dd o = τ o := fun o b1 b2 b3 b4 => by
    rw [wr_obj b4, F34.1 o b1 b2 b3, Oσ o b4, F12.1 o b1 b2 b3]
  refine c_readWord h7 t4 hr (i := 2) (by omega) rfl (H4.ow h4 (by omega) (by omega)) (fun z2 τ5 H5 F5 _ => ⟨true, rfl, fun q => ff_tt q, fun _ => ?_⟩) (fun z2 τ5 R5 F5 => ⟨false, rfl, fun _ => kF 1 _ (by rw [wd_f z2]) τ5 R5 (F4s.tr F5.s), fun q => tt_ff q⟩)
  rw [wd_t z2] at kT kF
  have u2 := tW_n t4 hr z2
  have B5 : HbC hh β τ5 := HbC.cgp B (by omega) ep (by omega) (fun o b1 b2 b3 b4 b5 => by rw [F5.1 o (by omega) b3 b4]; exact O4 o (by omega) b3 b4 b5)
  refine c_readKnownName (β := β) h4 u2.2 hr B5 sn sh (Or.inr ⟨rfl, rfl, rfl⟩) H5 (fun ev6 m1 m2 t5 t6 τ6 H6 g6 F6 => ⟨true, rfl, fun _ => ?_, fun q => ff_tt q⟩) (fun k p ev6 τ6 R6 F6 => ⟨false, rfl, fun q => tt_ff q, fun _ => kF k p (ev6 _) τ6 R6 (F4s.tr (F5.tr F6).s)⟩)
  rw [ev6] at kT kF
  rw [g6]
  generalize htt : fnd (β 2) (β 0 5) _ = tt at *
  have F56 := F5.tr F6
  obtain ⟨dn, edn⟩ : ∃ k : Nat, dd = (k : Int) := ⟨dd.toNat, by omega⟩
  obtain ⟨tn, etn⟩ : ∃ k : Nat, tt = (k : Int) := ⟨tt.toNat, by omega⟩
  have e61 : τ6 (hh + 30 + p0) 1 = dd := by rw [F56.1 _ (by omega) (by omega) (by omega), wr_same]
  rw [e61]
  refine ⟨hh, by rw [wr_obj (by omega)]; exact H6.1, (kdR h4).1, by omega, by omega, ?_⟩
  have ed : (dd).toNat = dn := by omega
  rw [ed, wr_obj (show hh + 14 + 4 * dn ≠ hh + 30 + p0 by omega)]
  generalize hM : mm_or (τ6 (hh + 14 + 4 * dn) 4) (mm_shl 1 tt) = M
  have hMR : inR M := by rw [← hM]; exact zm_inR _
  have F6s : frS hh τ (wr (wr τ6 (hh + 30 + p0) 2 tt) (hh + 14 + 4 * dn) 4 M) := ((F4s.tr F56.s).w h4 (by omega)).w h4 (by omega)
  refine ⟨hMR, c_readWord h7 t6 hr (i := 14) (by omega) rfl ((H6.ow h4 (by omega) (by omega)).ow h4 (by omega) (by omega)) (fun z3 τ7 H7 F7 _ => ⟨true, rfl, fun q => ff_tt q, fun _ => ?_⟩) (fun z3 τ7 R7 F7 => ⟨false, rfl, fun _ => kF 1 _ (by rw [wd_f z3]) τ7 R7 (F6s.tr F7.s), fun q => tt_ff q⟩)⟩
  rw [wd_t z3] at kT kF
  have u3 := tW_n t6 hr z3
  refine c_readNumber h7 u3.2 hr (by decide) (by decide) H7 (fun ev8 _ l1 l2 t7 t8 τ8 H8 g8 F8 => ⟨true, rfl, fun _ => ?_, fun q => ff_tt q⟩) (fun k p ev8 τ8 R8 F8 => ⟨false, rfl, fun q => tt_ff q, fun _ => kF k p (ev8 _) τ8 R8 (F6s.tr (F7.tr F8).s)⟩)
  rw [ev8] at kT kF
  rw [g8]
  generalize hl : tV r n (tN r n (tN r n (tN r n (tN r n (tN r n (tN r n (tN r n a))))))) = l at *
  have F78 := F7.tr F8
  have F8s : frS hh τ (wr τ8 (hh + 30 + p0) 3 l) := (F6s.tr F78.s).w h4 (by omega)
  refine c_readWord h7 t8 hr (i := 15) (by omega) rfl (H8.ow h4 (by omega) (by omega)) (fun z4 τ9 H9 F9 _ => ⟨true, rfl, fun q => ff_tt q, fun _ => ?_⟩) (fun z4 τ9 R9 F9 => ⟨false, rfl, fun _ => kF 1 _ (by rw [wd_f z4]) τ9 R9 (F8s.tr F9.s), fun q => tt_ff q⟩)
  rw [wd_t z4] at kT kF
  have u4 := tW_n t8 hr z4
  refine c_readNumber h7 u4.2 hr (by decide) (by decide) H9 (fun evx _ x1 x2 t9 t10 τx Hx gx Fx => ⟨true, rfl, fun _ => ?_, fun q => ff_tt q⟩) (fun k p evx τx Rx Fx => ⟨false, rfl, fun q => tt_ff q, fun _ => kF k p (evx _) τx Rx (F8s.tr (F9.tr Fx).s)⟩)
  rw [evx] at kT
  rw [gx]
  generalize hx : tV r n (tN r n (tN r n (tN r n (tN r n (tN r n (tN r n (tN r n (tN r n (tN r n a))))))))) = x at *
  have F9x := F9.tr Fx
  have Ox : ∀ o, o ≠ 77 → o ≠ hh + 6 → o ≠ hh + 7 → o ≠ hh + 30 + p0 → o ≠ hh + 14 + 4 * dn → τx o = τ o := fun o b1 b2 b3 b4 b5 => by
    rw [F9x.1 o b1 b2 b3, wr_obj b4, F78.1 o b1 b2 b3, wr_obj b5, wr_obj b4, F56.1 o b1 b2 b3, O4 o b1 b2 b3 b4]
  have ehx : wr τx (hh + 30 + p0) 4 x hh 4 = (p0 : Int) := by rw [wr_obj (by omega), Ox hh (by omega) (by omega) (by omega) (by omega) (by omega)]; exact e4
  refine ⟨hh, by rw [wr_obj (by omega)]; exact Hx.1, (kdR h4).1, ?_⟩
  rw [ehx]
  refine ⟨⟨by omega, by omega⟩, kT _ _ _ _ rfl _ ((Hx.ow h4 (by omega) (by omega)).ow h4 (by omega) (by omega)) ?_ (((F8s.tr F9x.s).w h4 (by omega)).w h4 (by omega))⟩
  have E6 : τ6 (hh + 14 + 4 * dn) = τ (hh + 14 + 4 * dn) := by rw [F56.1 _ (by omega) (by omega) (by omega), O4 _ (by omega) (by omega) (by omega) (by omega)]
  have DM : ∀ i, τx (hh + 14 + 4 * dn) i = wr τ6 (hh + 14 + 4 * dn) 4 M (hh + 14 + 4 * dn) i := fun i => by
    rw [F9x.1 _ (by omega) (by omega) (by omega), wr_obj (by omega), F78.1 _ (by omega) (by omega) (by omega)]
    by_cases q : i = 4
    · subst q; rw [wr_same, wr_same]
    · rw [wr_row q, wr_row q, wr_obj (by omega)]
  have PX : ∀ i, τx (hh + 30 + p0) i = if i = 3 then l else if i = 2 then tt else if i = 1 then dd else σ (hh + 30 + p0) i := fun i => by
    rw [F9x.1 _ (by omega) (by omega) (by omega)]
    by_cases q3 : i = 3
    · subst q3; rw [wr_same, if_pos rfl]
    rw [wr_row q3, if_neg q3, F78.1 _ (by omega) (by omega) (by omega), wr_obj (by omega)]
    by_cases q2 : i = 2
    · subst q2; rw [wr_same, if_pos rfl]
    rw [wr_row q2, if_neg q2, F56.1 _ (by omega) (by omega) (by omega)]
    by_cases q1 : i = 1
    · subst q1; rw [wr_same, if_pos rfl]
    rw [wr_row q1, if_neg q1, F34.1 _ (by omega) (by omega) (by omega)]
  refine pe_fin B S ep (by omega) edn etn d2 m2 (fun o b1 b2 b3 b4 b5 b6 => ?_) (fun i hi => ?_) ?_ (fun i hi => ?_) wr_same ?_ ?_ ?_ ?_ ?_ ⟨?_, ?_, ?_⟩
  · rw [wr_obj (by omega), wr_obj b5]; exact Ox o (by omega) b3 b4 b5 b6
  · rw [wr_obj (by omega), wr_obj (by omega), DM, wr_row hi, E6]
  · rw [wr_obj (by omega), wr_obj (by omega), DM, wr_same, ← hM, E6]
  · rw [wr_row hi, wr_obj (by omega), Ox hh (by omega) (by omega) (by omega) (by omega) (by omega)]
  · rw [wr_obj (by omega), wr_row (by omega), PX]; exact x0
  · rw [wr_obj (by omega), wr_row (by omega), PX]; rfl
  · rw [wr_obj (by omega), wr_row (by omega), PX]; rfl
  · rw [wr_obj (by omega), wr_row (by omega), PX]; rfl
  · rw [wr_obj (by omega), wr_same]
  · rw [wr_obj (by omega), wr_row (by omega), PX]; exact x5.1
  · rw [wr_obj (by omega), wr_row (by omega), PX]; exact x5.2.1
  · rw [wr_obj (by omega), wr_row (by omega), PX]; exact x5.2.2
/-- the head, behind a clearing -/
def HbZ (hh : Nat) (τ : mm_Mem) : Prop := (∀ i, i < 5 → τ hh i = 0) ∧ τ hh 5 = 1 ∧ τ hh 6 = 1 ∧ ∀ j, j < 3 → τ (hh + 8) j = 0
theorem he_fin {v w : Int} (h0 : τ hh 0 = v) (h1 : τ hh 1 = w) (h2 : ∀ i, 2 ≤ i → i < 5 → τ hh i = 0) (h5 : τ hh 5 = 1) (h6 : τ hh 6 = 1) (h8 : ∀ j, j < 3 → τ (hh + 8) j = 0) : HbC hh (heE v w) τ := by
  refine ⟨⟨fun i hi => ?_, ?_, ?_, fun j hj => ?_⟩, ⟨fun t q => ?_, fun t q => ?_, fun t q => ?_⟩, fun t q => ?_, fun t q => ?_, fun t q => ?_, fun k j hk q => ?_⟩
  · have : i = 0 ∨ i = 1 ∨ 2 ≤ i := by omega
    rcases this with h | h | h
    · subst h; rw [h0]; rfl
    · subst h; rw [h1]; rfl
    · rw [h2 i h hi]; unfold heE; rw [wr_row (by omega), wr_row (by omega)]; unfold be0; rw [if_pos rfl, if_neg (by omega)]
  · rw [h5]; rfl
  · rw [h6]; rfl
  · rw [h8 j hj]; unfold heE; rw [wr_row (by omega), wr_row (by omega)]; unfold be0; rw [if_pos rfl, if_neg (by omega)]
  · exfalso; have : heE v w 0 5 = 0 := rfl; omega
  · exfalso; have : heE v w 0 6 = 0 := rfl; omega
  · exfalso; have : heE v w 0 7 = 0 := rfl; omega
  · exfalso; have : heE v w 0 6 = 0 := rfl; omega
  · exfalso; have : heE v w 0 7 = 0 := rfl; omega
  · exfalso; have : heE v w 0 5 = 0 := rfl; omega
  · exfalso
    have : heE v w 0 (8 + k) = 0 := by unfold heE; rw [wr_row (by omega), wr_row (by omega)]; unfold be0; rw [if_pos rfl, if_neg (by omega)]
    omega
theorem c_readHead (h4 : hh = 4 ∨ hh = 38) (hr : ∀ i, 0 ≤ r i ∧ r i ≤ 255) (Z : HbZ hh τ) (H : RdC r n hh 0 0 [] τ) (kT : ∀ a1 β1 c1 c1', heP r n = .inr (a1, β1, c1, c1') → ∀ τ', RdC r n hh a1 0 c1 τ' → HbC hh β1 τ' → frS hh τ τ' → Q (some (vB true)) τ') (kF : ∀ k p, heP r n = .inl (k, p) → ∀ τ', RdF hh k p τ' → frS hh τ τ' → Q (some (vB false)) τ') : M0 E (d + 2) qX4_readHead [vR 77] τ Q := by
  have h7 : hh + 7 < 72 := by omega
  obtain ⟨z1, z2, z3, z4⟩ := Z
  unfold heP at kT kF
  refine mX4_readHead (d := d + 1) (c_readWord h7 (Nat.zero_le _) hr (i := 0) (by omega) rfl H (fun w1 τ1 H1 F1 _ => ⟨true, rfl, fun q => ff_tt q, fun _ => ?_⟩) (fun w1 τ1 R1 F1 => ⟨false, rfl, fun _ => kF 1 _ (by rw [wd_f w1]) τ1 R1 F1.s, fun q => tt_ff q⟩))
  rw [wd_t w1] at kT kF
  have u1 := tW_n (Nat.zero_le _) hr w1
  refine c_readNumber h7 u1.2 hr (by decide) (by decide) H1 (fun ev2 _ l1 l2 t1 t2 τ2 H2 g2 F2 => ⟨true, rfl, fun _ => ⟨hh, H2.1, (kdR h4).1, ?_⟩, fun q => ff_tt q⟩) (fun k p ev2 τ2 R2 F2 => ⟨false, rfl, fun q => tt_ff q, fun _ => kF k p (ev2 _) τ2 R2 (F1.tr F2).s⟩)
  rw [ev2] at kT kF
  rw [g2]
  have F2s := (F1.tr F2).s
  refine c_readWord h7 t2 hr (i := 1) (by omega) rfl (H2.ow h4 (by omega) (by omega)) (fun w3 τ3 H3 F3 _ => ⟨true, rfl, fun q => ff_tt q, fun _ => ?_⟩) (fun w3 τ3 R3 F3 => ⟨false, rfl, fun _ => kF 1 _ (by rw [wd_f w3]) τ3 R3 ((F2s.w h4 (by omega)).tr F3.s), fun q => tt_ff q⟩)
  rw [wd_t w3] at kT kF
  have u3 := tW_n t2 hr w3
  refine c_readNumber h7 u3.2 hr (by decide) (by decide) H3 (fun ev4 _ m1 m2 t3 t4 τ4 H4 g4 F4 => ⟨true, rfl, fun _ => ⟨hh, H4.1, (kdR h4).1, ?_⟩, fun q => ff_tt q⟩) (fun k p ev4 τ4 R4 F4 => ⟨false, rfl, fun q => tt_ff q, fun _ => kF k p (ev4 _) τ4 R4 ((F2s.w h4 (by omega)).tr (F3.tr F4).s)⟩)
  rw [ev4] at kT kF
  rw [g4]
  have F4s := ((F2s.w h4 (show hh ≤ hh ∧ hh < hh + 34 by omega)).tr (F3.tr F4).s)
  refine c_readSign h7 t4 hr (by decide) (H4.ow h4 (by omega) (by omega)) (fun w5 τ5 H5 F5 _ => ⟨true, rfl, kT _ _ _ _ (by rw [sg_t w5]) τ5 H5 (he_fin ?_ ?_ (fun i h1 h2 => ?_) ?_ ?_ (fun j hj => ?_)) ((F4s.w h4 (by omega)).tr F5.s)⟩) (fun w5 τ5 R5 F5 => ⟨false, rfl, kF 1 _ (by rw [sg_f w5]) τ5 R5 ((F4s.w h4 (by omega)).tr F5.s)⟩)
  · rw [F5.1 hh (by omega) (by omega) (by omega), wr_row (by omega), (F3.tr F4).1 hh (by omega) (by omega) (by omega), wr_same]
  · rw [F5.1 hh (by omega) (by omega) (by omega), wr_same]
  · rw [F5.1 hh (by omega) (by omega) (by omega), wr_row (by omega), (F3.tr F4).1 hh (by omega) (by omega) (by omega), wr_row (by omega), (F1.tr F2).1 hh (by omega) (by omega) (by omega)]; exact z1 i h2
  · rw [F5.1 hh (by omega) (by omega) (by omega), wr_row (by omega), (F3.tr F4).1 hh (by omega) (by omega) (by omega), wr_row (by omega), (F1.tr F2).1 hh (by omega) (by omega) (by omega)]; exact z2
  · rw [F5.1 hh (by omega) (by omega) (by omega), wr_row (by omega), (F3.tr F4).1 hh (by omega) (by omega) (by omega), wr_row (by omega), (F1.tr F2).1 hh (by omega) (by omega) (by omega)]; exact z3
  · rw [F5.1 _ (by omega) (by omega) (by omega), wr_obj (by omega), (F3.tr F4).1 _ (by omega) (by omega) (by omega), wr_obj (by omega), (F1.tr F2).1 _ (by omega) (by omega) (by omega)]; exact z4 j hj
end CSt4
