/-! the class's house behind a person; statements: worth, tune, rule -/
theorem earA_t {β : mm_Mem} {d t : Int} : earA β d t = true ↔ ∃ p : Nat, p < 4 ∧ (p : Int) < β 0 7 ∧ β 8 p = d ∧ β 9 p = t := by
  unfold earA
  rw [List.any_eq_true]
  simp only [List.mem_range, Bool.and_eq_true, decide_eq_true_eq]
theorem or_mask : ∀ (b0 b1 b2 : Bool) (t : Nat), t < 3 → mm_or (bI b0 + 2 * bI b1 + 4 * bI b2) (mm_shl 1 (t : Int)) = bI (b0 || decide (t = 0)) + 2 * bI (b1 || decide (t = 1)) + 4 * bI (b2 || decide (t = 2)) := by
  intro b0 b1 b2
  cases b0 <;> cases b1 <;> cases b2 <;> decide +kernel
theorem wd_t {r : Nat → Int} {n a i : Nat} {K : Nat → PzT} (h : tWb r n a i = true) : wdP r n a i K = K (tN r n a) := by unfold wdP; rw [if_pos h]
theorem wd_f {r : Nat → Int} {n a i : Nat} {K : Nat → PzT} (h : tWb r n a i = false) : wdP r n a i K = .inl (1, tPl r n a) := by unfold wdP; rw [if_neg (by rw [h]; decide)]
theorem sg_t {r : Nat → Int} {n a : Nat} {c : Int} {K : Nat → PzT} (h : tSb r n a c = true) : sgP r n a c K = K (tN r n a) := by unfold sgP; rw [if_pos h]
theorem sg_f {r : Nat → Int} {n a : Nat} {c : Int} {K : Nat → PzT} (h : tSb r n a c = false) : sgP r n a c K = .inl (1, tPl r n a) := by unfold sgP; rw [if_neg (by rw [h]; decide)]
section CPe
variable {E : mm_Env} {d : Nat} {τ : mm_Mem} {Q : mm_Q0} {r : Nat → Int} {n hh : Nat} {a : Nat} {β : mm_Mem} {cd cd' : List Int}
theorem pe_fin {τ' : mm_Mem} {p0 dn tn : Nat} {w dd tt l x : Int} (B : HbC hh β τ) (S : SIn n a β cd cd') (ep : β 0 7 = (p0 : Int)) (h4 : p0 < 4) (hdd : dd = (dn : Int)) (htt : tt = (tn : Int)) (hd : dd < β 0 6) (ht : tt < β 0 5) (e : ∀ o, hh < o → o < hh + 34 → o ≠ hh + 6 → o ≠ hh + 7 → o ≠ hh + 30 + p0 → o ≠ hh + 14 + 4 * dn → τ' o = τ o) (eD : ∀ i, i ≠ 4 → τ' (hh + 14 + 4 * dn) i = τ (hh + 14 + 4 * dn) i) (eM : τ' (hh + 14 + 4 * dn) 4 = mm_or (τ (hh + 14 + 4 * dn) 4) (mm_shl 1 tt)) (e0 : ∀ i, i ≠ 4 → τ' hh i = τ hh i) (e4 : τ' hh 4 = (p0 : Int) + 1) (x0 : τ' (hh + 30 + p0) 0 = nm5 w) (x1 : τ' (hh + 30 + p0) 1 = dd) (x2 : τ' (hh + 30 + p0) 2 = tt) (x3 : τ' (hh + 30 + p0) 3 = l) (x4 : τ' (hh + 30 + p0) 4 = x) (x5 : τ' (hh + 30 + p0) 5 = 0 ∧ τ' (hh + 30 + p0) 6 = 0 ∧ τ' (hh + 30 + p0) 7 = 0) : HbC hh (peE β w dd tt l x) τ' := by
  obtain ⟨-, -, -, ⟨s, s2, s3⟩, -, -, sp, sc, -⟩ := S
  obtain ⟨⟨a1, a2, a3, a4⟩, ⟨b1, b2, b3⟩, c, k, g, m⟩ := B
  have G : ∀ o, o ≠ 0 → o ≠ 4 → o ≠ 8 → o ≠ 9 → o ≠ 10 → o ≠ 11 → peE β w dd tt l x o = β o := fun o h1 h2 h3 h4 h5 h6 => by
    unfold peE; rw [wr_obj h1, wr_obj h6, wr_obj h5, wr_obj h4, wr_obj h3, wr_obj h2]
  have G0 : ∀ i, i ≠ 7 → peE β w dd tt l x 0 i = β 0 i := fun i h1 => by
    unfold peE; rw [wr_row h1, wr_obj (by omega), wr_obj (by omega), wr_obj (by omega), wr_obj (by omega), wr_obj (by omega)]
  have G7 : peE β w dd tt l x 0 7 = (p0 : Int) + 1 := by unfold peE; rw [wr_same, ep]
  have E4 : ∀ i, peE β w dd tt l x 4 i = if i = p0 then w else β 4 i := fun i => by
    unfold peE; rw [ep, Int.toNat_natCast]; simp [wr]
  have E8 : ∀ i, peE β w dd tt l x 8 i = if i = p0 then dd else β 8 i := fun i => by
    unfold peE; rw [ep, Int.toNat_natCast]; simp [wr]
  have E9 : ∀ i, peE β w dd tt l x 9 i = if i = p0 then tt else β 9 i := fun i => by
    unfold peE; rw [ep, Int.toNat_natCast]; simp [wr]
  have E10 : ∀ i, peE β w dd tt l x 10 i = if i = p0 then l else β 10 i := fun i => by
    unfold peE; rw [ep, Int.toNat_natCast]; simp [wr]
  have E11 : ∀ i, peE β w dd tt l x 11 i = if i = p0 then x else β 11 i := fun i => by
    unfold peE; rw [ep, Int.toNat_natCast]; simp [wr]
  have GG : ∀ o, 12 ≤ o → peE β w dd tt l x o = β o := fun o h => G o (by omega) (by omega) (by omega) (by omega) (by omega) (by omega)
  have ear : ∀ dv tv : Int, earA (peE β w dd tt l x) dv tv = (earA β dv tv || (decide (dd = dv) && decide (tt = tv))) := fun dv tv => by
    rw [Bool.eq_iff_iff, Bool.or_eq_true, Bool.and_eq_true, decide_eq_true_eq, decide_eq_true_eq, earA_t, earA_t]
    constructor
    · rintro ⟨p, h1, h2, h3, h4⟩
      rw [G7] at h2
      rw [E8] at h3
      rw [E9] at h4
      by_cases h : p = p0
      · rw [if_pos h] at h3 h4; exact Or.inr ⟨h3, h4⟩
      · rw [if_neg h] at h3 h4; exact Or.inl ⟨p, h1, by omega, h3, h4⟩
    · rintro (⟨p, h1, h2, h3, h4⟩ | ⟨h3, h4⟩)
      · exact ⟨p, h1, by rw [G7]; omega, by rw [E8, if_neg (by omega)]; exact h3, by rw [E9, if_neg (by omega)]; exact h4⟩
      · exact ⟨p0, by omega, by rw [G7]; omega, by rw [E8, if_pos rfl]; exact h3, by rw [E9, if_pos rfl]; exact h4⟩
  have mkN : ∀ i : Nat, i ≠ dn → maskA (peE β w dd tt l x) i = maskA β i := fun i hi => by
    unfold maskA; rw [ear, ear, ear, decide_eq_false (by omega)]; simp
  have mkD : maskA (peE β w dd tt l x) dn = mm_or (maskA β dn) (mm_shl 1 tt) := by
    unfold maskA
    rw [ear, ear, ear, decide_eq_true hdd, htt, or_mask _ _ _ tn (by omega)]
    have z0 : decide ((tn : Int) = 0) = decide (tn = 0) := by rw [decide_eq_decide]; omega
    have z1 : decide ((tn : Int) = 1) = decide (tn = 1) := by rw [decide_eq_decide]; omega
    have z2 : decide ((tn : Int) = 2) = decide (tn = 2) := by rw [decide_eq_decide]; omega
    rw [z0, z1, z2]; simp
  refine ⟨⟨fun i hi => ?_, ?_, ?_, fun j hj => ?_⟩, ⟨fun i q => ?_, fun i q => ?_, fun p q => ?_⟩, fun i q => ?_, fun p q i hi => ?_, hT.cb (β := β) (fun i q => ?_) ⟨G0 4 (by omega), G0 5 (by omega)⟩ (GG 30 (by omega)) (GG 31 (by omega)), hR.cb (β := β) (fun kk j hk q => ?_) (fun k hk => G0 _ (by omega)) (fun o h1 h2 => GG o (by omega))⟩
  · by_cases h : i = 4
    · subst h; rw [e4]; exact G7.symm
    · rw [e0 i h, G0 _ (by omega)]; exact a1 i hi
  · rw [e0 5 (by omega), G0 _ (by omega)]; exact a2
  · rw [e0 6 (by omega), G0 _ (by omega)]; exact a3
  · rw [e (hh + 8) (by omega) (by omega) (by omega) (by omega) (by omega) (by omega), G0 _ (by omega)]; exact a4 j hj
  · rw [G0 5 (by omega)] at q; rw [e _ (by omega) (by omega) (by omega) (by omega) (by omega) (by omega), G 2 (by omega) (by omega) (by omega) (by omega) (by omega) (by omega)]; exact b1 i q
  · rw [G0 6 (by omega)] at q
    rw [G 3 (by omega) (by omega) (by omega) (by omega) (by omega) (by omega)]
    by_cases h : i = dn
    · subst h; rw [eD 0 (by omega)]; exact b2 i q
    · rw [e _ (by omega) (by omega) (by omega) (by omega) (by omega) (by omega)]; exact b2 i q
  · rw [G7] at q
    rw [E4]
    by_cases h : p = p0
    · subst h; rw [if_pos rfl]; exact x0
    · rw [if_neg h, e _ (by omega) (by omega) (by omega) (by omega) (by omega) (by omega)]; exact b3 p (by omega)
  · rw [G0 6 (by omega)] at q
    rw [G 5 (by omega) (by omega) (by omega) (by omega) (by omega) (by omega), G 6 (by omega) (by omega) (by omega) (by omega) (by omega) (by omega), G 7 (by omega) (by omega) (by omega) (by omega) (by omega) (by omega), GG 18 (by omega), GG 19 (by omega), GG 20 (by omega), GG 15 (by omega), GG 16 (by omega), GG 17 (by omega)]
    obtain ⟨⟨c1, c2, c3, c4, c5, c6, c7⟩, c8⟩ := c i q
    refine ⟨?_, fun t ht => ?_⟩
    · by_cases h : i = dn
      · subst h
        rw [eD 1 (by omega), eD 2 (by omega), eD 3 (by omega), eD 5 (by omega), eD 6 (by omega), eD 7 (by omega), eM, mkD, c4]
        exact ⟨c1, c2, c3, rfl, c5, c6, c7⟩
      · rw [e (hh + 14 + 4 * i) (by omega) (by omega) (by omega) (by omega) (by omega) (by omega), mkN i h]
        exact ⟨c1, c2, c3, c4, c5, c6, c7⟩
    · rw [e (hh + 14 + 4 * i + 1) (by omega) (by omega) (by omega) (by omega) (by omega) (by omega), e (hh + 14 + 4 * i + 2) (by omega) (by omega) (by omega) (by omega) (by omega) (by omega), e (hh + 14 + 4 * i + 3) (by omega) (by omega) (by omega) (by omega) (by omega) (by omega)]
      exact c8 t ht
  · rw [G7] at q
    by_cases h : p = p0
    · subst h
      obtain ⟨y1, y2, y3, -⟩ := sc p
      have : i = 0 ∨ i = 1 ∨ i = 2 ∨ i = 3 ∨ i = 4 ∨ i = 5 ∨ i = 6 := by omega
      rcases this with h | h | h | h | h | h | h <;> subst h
      · show τ' (hh + 30 + p) 1 = peE β w dd tt l x 8 p; rw [x1, E8, if_pos rfl]
      · show τ' (hh + 30 + p) 2 = peE β w dd tt l x 9 p; rw [x2, E9, if_pos rfl]
      · show τ' (hh + 30 + p) 3 = peE β w dd tt l x 10 p; rw [x3, E10, if_pos rfl]
      · show τ' (hh + 30 + p) 4 = peE β w dd tt l x 11 p; rw [x4, E11, if_pos rfl]
      · show τ' (hh + 30 + p) 5 = peE β w dd tt l x 12 p; rw [x5.1, GG 12 (by omega), y1]
      · show τ' (hh + 30 + p) 6 = peE β w dd tt l x 13 p; rw [x5.2.1, GG 13 (by omega), y2]
      · show τ' (hh + 30 + p) 7 = peE β w dd tt l x 14 p; rw [x5.2.2, GG 14 (by omega), y3]
    · rw [e _ (by omega) (by omega) (by omega) (by omega) (by omega) (by omega), k p (by omega) i hi]
      have : i = 0 ∨ i = 1 ∨ i = 2 ∨ i = 3 ∨ i = 4 ∨ i = 5 ∨ i = 6 := by omega
      rcases this with h1 | h1 | h1 | h1 | h1 | h1 | h1 <;> subst h1
      · show β 8 p = peE β w dd tt l x 8 p; rw [E8, if_neg h]
      · show β 9 p = peE β w dd tt l x 9 p; rw [E9, if_neg h]
      · show β 10 p = peE β w dd tt l x 10 p; rw [E10, if_neg h]
      · show β 11 p = peE β w dd tt l x 11 p; rw [E11, if_neg h]
      · show β 12 p = peE β w dd tt l x 12 p; rw [GG 12 (by omega)]
      · show β 13 p = peE β w dd tt l x 13 p; rw [GG 13 (by omega)]
      · show β 14 p = peE β w dd tt l x 14 p; rw [GG 14 (by omega)]
  · rw [e (hh + 2) (by omega) (by omega) (by omega) (by omega) (by omega) (by omega), e (hh + 3) (by omega) (by omega) (by omega) (by omega) (by omega) (by omega)]; exact g i q
  · rw [e (hh + 9) (by omega) (by omega) (by omega) (by omega) (by omega) (by omega), e (hh + 10) (by omega) (by omega) (by omega) (by omega) (by omega) (by omega), e (hh + 11) (by omega) (by omega) (by omega) (by omega) (by omega) (by omega)]; exact m kk j hk q
theorem c_readWorth (h4 : hh = 4 ∨ hh = 38) (hr : ∀ i, 0 ≤ r i ∧ r i ≤ 255) (S : SIn n a β cd cd') (hw : tWb r n a 16 = true) (B : HbC hh β τ) (H : RdC r n hh a 0 cd τ) (kT : ∀ a1 β1 c1 c1', woP r n a β cd cd' = .inr (a1, β1, c1, c1') → ∀ τ', RdC r n hh a1 0 c1 τ' → HbC hh β1 τ' → frS hh τ τ' → Q (some (vB true)) τ') (kF : ∀ k p, woP r n a β cd cd' = .inl (k, p) → ∀ τ', RdF hh k p τ' → frS hh τ τ' → Q (some (vB false)) τ') : M0 E (d + 2) qX4_readWorth [vR 77] τ Q := by
  obtain ⟨ha, hc, hc', sh, sn, -⟩ := id S
  have s := sh.1
  have h7 : hh + 7 < 72 := by omega
  have t0 := tW_n ha hr hw
  unfold woP at kT kF
  refine mX4_readWorth (d := d + 1) (c_advance h7 (by rw [(tW_k hw).1]; omega) H (fun τ1 H1 F1 _ => ⟨rfl, ?_⟩))
  refine c_readNumber h7 t0.2 hr (by decide) (by decide) H1 (fun ev _ l1 l2 t1 t2 τ2 H2 g2 F2 => ⟨true, rfl, fun _ => ⟨hh, H2.1, (kdR h4).1, ?_⟩, fun q => ff_tt q⟩) (fun k p ev τ2 R2 F2 => ⟨false, rfl, fun q => tt_ff q, fun _ => kF k p (ev _) τ2 R2 (F1.tr F2).s⟩)
  rw [ev] at kT kF
  rw [g2]
  refine c_readNumber h7 t2 hr (by decide) (by decide) (H2.ow h4 (by omega) (by omega)) (fun ev2 _ m1 m2 t3 t4 τ3 H3 g3 F3 => ⟨true, rfl, fun _ => ⟨hh, H3.1, (kdR h4).1, ?_⟩, fun q => ff_tt q⟩) (fun k p ev2 τ3 R3 F3 => ⟨false, rfl, fun q => tt_ff q, fun _ => kF k p (ev2 _) τ3 R3 (((F1.tr F2).s.w h4 (by omega)).tr F3.s)⟩)
  rw [ev2] at kT
  rw [g3]
  refine kT _ _ _ _ rfl _ (H3.ow h4 (by omega) (by omega)) (wo_fin B sh (fun o h1 h2 h3 h5 => ?_) (fun i h1 h2 => ?_) ?_ wr_same) ((((F1.tr F2).s.w h4 (by omega)).tr F3.s).w h4 (by omega))
  · rw [wr_obj (by omega), F3.1 o (by omega) h3 h5, wr_obj (by omega), (F1.tr F2).1 o (by omega) h3 h5]
  · rw [wr_row h2, F3.1 hh (by omega) (by omega) (by omega), wr_row h1, (F1.tr F2).1 hh (by omega) (by omega) (by omega)]
  · rw [wr_row (by omega), F3.1 hh (by omega) (by omega) (by omega), wr_same]
/-- the notes of a tune, keep -/
theorem c_tuneL {t : Nat} {w : Int} {τ0 : mm_Mem} (h4 : hh = 4 ∨ hh = 38) (hr : ∀ i, 0 ≤ r i ∧ r i ≤ 255) (sh : siH β) (et : β 0 5 = (t : Int)) (ht : t < 3) (B : HbC hh β τ0) : ∀ (c i a : Nat) (βk : mm_Mem) (f : Nat → Nat) (τ : mm_Mem), (i : Int) + c = β 0 4 → a ≤ n → RdC r n hh a 0 cd τ → (∀ o, hh ≤ o → o < hh + 34 → o ≠ hh + 6 → o ≠ hh + 7 → o ≠ hh + 1 → τ o = τ0 o) → (∀ i, i ≠ t → τ (hh + 1) i = τ0 (hh + 1) i) → τ (hh + 1) t = nm5 w → frS hh τ0 τ → (∀ o, o ≠ 30 → o ≠ 2 → βk o = β o) → (∀ i, βk 2 i = if i = t then w else β 2 i) → (∀ j, j < 5 * t → βk 30 j = β 30 j) → tp_ok f → (∀ j, j < 5 → f j = if j < i then (βk 30 (5 * t + j)).toNat else 0) → (∀ a1 β1 c1 c1', nsP r n (β 0 3 - 1) t c i a βk (fun a2 β2 => wdP r n a2 3 (fun a3 => nuP r n a3 0 99 (fun a4 v => .inr (a4, tuE β2 t v, cd, cd')))) = .inr (a1, β1, c1, c1') → ∀ τ', RdC r n hh a1 0 c1 τ' → HbC hh β1 τ' → frS hh τ0 τ' → Q (some (vB true)) τ') → (∀ k p, nsP r n (β 0 3 - 1) t c i a βk (fun a2 β2 => wdP r n a2 3 (fun a3 => nuP r n a3 0 99 (fun a4 v => .inr (a4, tuE β2 t v, cd, cd')))) = .inl (k, p) → ∀ τ', RdF hh k p τ' → frS hh τ0 τ' → Q (some (vB false)) τ') → V0 E (d + 2) qX4_readTune 49 [some (vR 77), some (vI (t : Int)), some (vI (tp f : Nat)), some (vI (i : Int))] [] τ Q := by
  have s := sh.1
  have h7 : hh + 7 < 72 := by omega
  intro c
  induction c with
  | zero =>
    intro i a βk f τ hi ha H e e1 x1 FS f0 f2 f3 hf ff kT kF
    have eL : τ hh 1 = β 0 4 := by rw [e hh (by omega) (by omega) (by omega) (by omega) (by omega)]; exact B.1.1 1 (by omega)
    rw [nsP] at kT kF
    refine bX4_readTune_49 (d := d + 1) ⟨hh, H.1, (kdR h4).1, ⟨by omega, by omega⟩, fun _ => ?_, fun q => by omega⟩
    refine c_readWord h7 ha hr (i := 3) (by omega) rfl H (fun z τ1 H1 F1 _ => ⟨true, rfl, fun q => ff_tt q, fun _ => ?_⟩) (fun z τ1 R1 F1 => ⟨false, rfl, fun _ => kF 1 _ (wd_f z) τ1 R1 (FS.tr F1.s), fun q => tt_ff q⟩)
    rw [wd_t z] at kT kF
    have t1 := tW_n ha hr z
    refine c_readNumber h7 t1.2 hr (by decide) (by decide) H1 (fun ev _ l1 l2 t2 t3 τ2 H2 g2 F2 => ⟨true, rfl, fun _ => ?_, fun q => ff_tt q⟩) (fun k p ev τ2 R2 F2 => ⟨false, rfl, fun q => tt_ff q, fun _ => kF k p (ev _) τ2 R2 (FS.tr (F1.tr F2).s)⟩)
    rw [ev] at kT
    have F12 := F1.tr F2
    have o2 : ∀ o, hh ≤ o → o < hh + 34 → o ≠ hh + 6 → o ≠ hh + 7 → o ≠ hh + 1 → τ2 o = τ0 o := fun o a b c e5 e6 => by rw [F12.1 o (by omega) c e5]; exact e o a b c e5 e6
    have e77 : ∀ v : Int, wr τ2 (hh + 2) t v 77 = τ2 77 := fun v => wr_obj (by omega)
    refine ⟨hh, H2.1, (kdR h4).1, by omega, by omega, tp_R hf, hh, by rw [wr_obj (by omega)]; exact H2.1, (kdR h4).1, by omega, by omega, ?_⟩
    rw [Int.toNat_natCast, e77, g2]
    refine ⟨hh, by rw [wr_obj (by omega), e77]; exact H2.1, (kdR h4).1, ?_⟩
    have e2 : wr (wr τ2 (hh + 2) t (tp f : Nat)) (hh + 3) t (tV r n (tN r n a)) hh 2 = (t : Int) := by
      rw [wr_obj (by omega), wr_obj (by omega), o2 hh (by omega) (by omega) (by omega) (by omega) (by omega)]
      exact (B.1.1 2 (by omega)).trans et
    rw [e2]
    refine ⟨⟨by omega, by omega⟩, kT _ _ _ _ rfl _ (((H2.ow h4 (by omega) (by omega)).ow h4 (by omega) (by omega)).ow h4 (by omega) (by omega)) ?_ ((((FS.tr F12.s).w h4 (by omega)).w h4 (by omega)).w h4 (by omega))⟩
    refine tu_fin (f := f) (w := w) B sh et (fun o a1 a2 a3 a4 a5 a6 a7 => ?_) (fun j hj => ⟨?_, ?_, ?_⟩) (fun j hj => ?_) wr_same ?_ ?_ ?_ f0 f2 f3 (fun j hj => ?_)
    · rw [wr_obj (by omega), wr_obj a7, wr_obj a6]; exact o2 o (by omega) a2 a3 a4 a5
    · rw [wr_obj (by omega), wr_obj (by omega), wr_obj (by omega), F12.1 _ (by omega) (by omega) (by omega)]; exact e1 j hj
    · rw [wr_obj (by omega), wr_obj (by omega), wr_row hj]; rw [o2 _ (by omega) (by omega) (by omega) (by omega) (by omega)]
    · rw [wr_obj (by omega), wr_row hj, wr_obj (by omega)]; rw [o2 _ (by omega) (by omega) (by omega) (by omega) (by omega)]
    · rw [wr_row hj, wr_obj (by omega), wr_obj (by omega)]; rw [o2 _ (by omega) (by omega) (by omega) (by omega) (by omega)]
    · rw [wr_obj (by omega), wr_obj (by omega), wr_obj (by omega), F12.1 _ (by omega) (by omega) (by omega)]; exact x1
    · rw [wr_obj (by omega), wr_obj (by omega), wr_same]
    · rw [wr_obj (by omega), wr_same]
    · rw [ff j hj]
      by_cases q : j < i
      · rw [if_pos q, if_pos (by omega)]
      · rw [if_neg q, if_neg (by omega)]
  | succ c ih =>
    intro i a βk f τ hi ha H e e1 x1 FS f0 f2 f3 hf ff kT kF
    have eL : τ hh 1 = β 0 4 := by rw [e hh (by omega) (by omega) (by omega) (by omega) (by omega)]; exact B.1.1 1 (by omega)
    have eN : τ hh 0 = β 0 3 := by rw [e hh (by omega) (by omega) (by omega) (by omega) (by omega)]; exact B.1.1 0 (by omega)
    rw [nsP] at kT kF
    refine bX4_readTune_49 (d := d + 1) ⟨hh, H.1, (kdR h4).1, ⟨by omega, by omega⟩, fun q => by omega, fun _ => ⟨hh, H.1, (kdR h4).1, ?_⟩⟩
    rw [eN]
    refine c_readNumber h7 ha hr (by decide) ⟨by omega, by omega⟩ H (fun ev _ l1 l2 t2 t3 τ1 H1 g1 F1 => ⟨true, rfl, fun _ => ?_, fun q => ff_tt q⟩) (fun k p ev τ1 R1 F1 => ⟨false, rfl, fun q => tt_ff q, fun _ => kF k p (ev _) τ1 R1 (FS.tr F1.s)⟩)
    rw [ev] at kT kF
    rw [g1]
    refine c_withNote hf (by omega) (by omega) l1 (by omega) ⟨_, rfl, ?_⟩
    rw [Int.toNat_natCast, show (i : Int) + 1 = ((i + 1 : Nat) : Int) by omega]
    refine ih (i + 1) (tN r n a) (wr βk 30 (5 * t + i) (tV r n a)) _ τ1 (by omega) t3 H1 (fun o a1 a2 a3 a4 a5 => by rw [F1.1 o (by omega) a3 a4]; exact e o a1 a2 a3 a4 a5) (fun j hj => by rw [F1.1 _ (by omega) (by omega) (by omega)]; exact e1 j hj) (by rw [F1.1 _ (by omega) (by omega) (by omega)]; exact x1) (FS.tr F1.s) (fun o a1 a2 => by rw [wr_obj a1]; exact f0 o a1 a2) (fun j => by rw [wr_obj (by omega)]; exact f2 j) (fun j hj => by rw [wr_row (by omega)]; exact f3 j hj) (tp_up_ok hf (by omega)) (fun j hj => ?_) kT kF
    unfold tp_up
    by_cases q : j = i
    · subst q; rw [if_pos rfl, if_pos (by omega), wr_same]
    · rw [if_neg q, ff j hj]
      by_cases q2 : j < i
      · rw [if_pos q2, if_pos (by omega), wr_row (by omega)]
      · rw [if_neg q2, if_neg (by omega)]
theorem c_readTune (h4 : hh = 4 ∨ hh = 38) (hr : ∀ i, 0 ≤ r i ∧ r i ≤ 255) (S : SIn n a β cd cd') (hw : tWb r n a 2 = true) (B : HbC hh β τ) (H : RdC r n hh a 0 cd τ) (kT : ∀ a1 β1 c1 c1', tuP r n a β cd cd' = .inr (a1, β1, c1, c1') → ∀ τ', RdC r n hh a1 0 c1 τ' → HbC hh β1 τ' → frS hh τ τ' → Q (some (vB true)) τ') (kF : ∀ k p, tuP r n a β cd cd' = .inl (k, p) → ∀ τ', RdF hh k p τ' → frS hh τ τ' → Q (some (vB false)) τ') : M0 E (d + 3) qX4_readTune [vR 77] τ Q := by
  obtain ⟨ha, hc, hc', sh, sn, -⟩ := id S
  have s := sh.1
  have h7 : hh + 7 < 72 := by omega
  have t0 := tW_n ha hr hw
  obtain ⟨t, et⟩ : ∃ t : Nat, β 0 5 = (t : Int) := ⟨(β 0 5).toNat, by omega⟩
  have e2 : τ hh 2 = (t : Int) := (B.1.1 2 (by omega)).trans et
  unfold tuP at kT kF
  rw [et] at kT kF
  rw [Int.toNat_natCast] at kT kF
  refine mX4_readTune (d := d + 2) ⟨hh, H.1, (kdR h4).1, ?_⟩
  rw [e2]
  refine ⟨fun q => ?_, fun q => c_fail (k := 5) h7 (by omega) H (fun τ' u1 u2 => ⟨_, rfl, kF 5 _ (by rw [if_pos (by omega)]) τ' u1 u2.s⟩)⟩
  rw [if_neg (by omega)] at kT kF
  refine c_advance h7 (by rw [(tW_k hw).1]; omega) H (fun τ1 H1 F1 _ => ⟨rfl, ?_⟩)
  refine c_readNewName h4 t0.2 hr (B.r h4 (by omega) (by omega) F1) sn sh H1 (fun ev w1 t1 t2 τ2 H2 g2 F2 => ⟨true, rfl, fun _ => ⟨hh, H2.1, (kdR h4).1, by omega, by omega, ?_⟩, fun q => ff_tt q⟩) (fun k p ev τ2 R2 F2 => ⟨false, rfl, fun q => tt_ff q, fun _ => kF k p (ev _) τ2 R2 (F1.tr F2).s⟩)
  rw [ev] at kT kF
  rw [g2, Int.toNat_natCast]
  have F12 := F1.tr F2
  refine c_tuneL (w := tV r n (tN r n a)) (τ0 := τ) h4 hr sh et (by omega) B (β 0 4).toNat 0 _ (wr β 2 t (tV r n (tN r n a))) (fun _ => 0) _ (by omega) t2 (H2.ow h4 (by omega) (by omega)) (fun o a1 a2 a3 a4 a5 => by rw [wr_obj a5]; exact F12.1 o (by omega) a3 a4) (fun j hj => by rw [wr_row hj, F12.1 _ (by omega) (by omega) (by omega)]) wr_same (F12.s.w h4 (by omega)) (fun o a1 a2 => wr_obj a2) (fun i => ?_) (fun j hj => by rw [wr_obj (by omega)]) (fun i _ => by show 0 < 8; omega) (fun j hj => by rw [if_neg (by omega)]) kT kF
  by_cases q : i = t
  · subst q; rw [wr_same, if_pos rfl]
  · rw [wr_row q, if_neg q]
end CPe
