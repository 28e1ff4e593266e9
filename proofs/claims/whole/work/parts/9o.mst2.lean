/-! the reference reads statements: rule, door, person -/
section MSt2
variable {E : mm_Env} {d : Nat} {τ : mm_Mem} {Q : mm_Q0} {r : Nat → Int} {n bi : Nat} {a : Nat} {β : mm_Mem} {cd cd' : List Int}
theorem PF.wo {o i k p : Nat} {v : Int} (R : PF k p τ) (ho : 142 ≤ o) : PF k p (wr τ o i v) := ⟨by rw [wr_obj (by omega)]; exact R.1, by rw [wr_obj (by omega)]; exact R.2⟩
/-- a sum or a test is read: by the lazy reader's word -/
theorem m_readsE {b : Nat} {q : Nat} {t : Bool} (hn : n ≤ 1600) (hb2 : bi < 2) (hr : ∀ i, 0 ≤ r i ∧ r i ≤ 255) (ha : b ≤ n) (nb : tBb r n b = false) (hq : q = if t = true then 5 else 2) (hc : cd'.length ≤ b) (H : PQ r n bi b τ) (C : CdM bi cd' τ) (kT : ∀ a' c c', pz r n false 20000 q b 0 = .inr (a', c, c') → tBb r n a' = false → ∀ τ', PQ r n bi a' τ' → CdM bi (cd' ++ c') τ' → frX τ τ' → Q none τ') (kF : ∀ k p, 1 ≤ k → (pz r n false 20000 q b 0 = .inl (k, p) ∨ ∃ a' c c', pz r n false 20000 q b 0 = .inr (a', c, c') ∧ tBb r n a' = true ∧ k = 1 ∧ p = tPl r n a') → ∀ τ', PF k p τ' → frX τ τ' → Q none τ') : M0 E (d + 4) qX11_reads [vR 140, vB t] τ Q := by
  obtain ⟨X, T, h8, h39⟩ := H
  have q5 : q ≤ 5 := by split at hq <;> omega
  have fu := cu_fuel (n := n) (b := b) (q := q) hn q5
  have ee := pz_ee hr 20000 q b 0 (by omega) ha nb fu
  have ne : pz r n true 20000 q b 0 ≠ .inl (0, 0) := pz_ne hr (by omega) ha fu
  refine m_reads (zz := 1600 * bi + cd'.length) hn hb2 hr ha nb X.1 T h8 (fun _ => X.2) h39 (by rw [C.1]; omega) (by omega) (by omega) hq ne (fun a' c c' e1 τ' X' T' u8 uW u39 u38 uC F G => ?_) (fun k p e1 τ' R F => ?_)
  · refine kT a' c c' (ee.1 _ e1) (pz_nb _ _ _ _ a' c c' (by omega) nb e1) τ' ⟨⟨X', uW u8⟩, T', u8, u39⟩ ⟨by rw [List.length_append]; omega, ?_⟩ F
    exact CodeM.app (C.2.fr (fun i _ h => G i h)) uC
  · have k1 := pz_k hr 20000 q b 0 _ (by omega) ha fu e1
    refine kF k p (by unfold okZ at k1; simp at k1; omega) ?_ τ' R F
    rcases ee.2 _ e1 with h | ⟨a', c, c', h, hb, hz, -⟩
    · exact Or.inl h
    · cases hz
      exact Or.inr ⟨a', c, c', h, hb, rfl, rfl⟩
theorem m_rule {kd : Nat} {x : Int} (hn : n ≤ 1600) (hb : bi < 2) (hr : ∀ i, 0 ≤ r i ∧ r i ≤ 255) (S : SIn n a β cd cd') (hk : kd < 3) (hx : x = (kd : Int)) (k2 : 2 ≤ (tk r n a).1) (B : HbM bi β τ) (H : PQ r n bi a τ) (C : CdM bi cd' τ) (kT : ∀ a1 β1 c1 c1', ruP r n kd a β cd cd' = .inr (a1, β1, c1, c1') → tBb r n a1 = false → ∀ τ', PQ r n bi a1 τ' → HbM bi β1 τ' → CdM bi c1' τ' → frZ bi τ τ' → Q none τ') (kF : ∀ k p, 1 ≤ k → beP r n (ruP r n kd a β cd cd') k p → ∀ τ', PF k p τ' → frZ bi τ τ' → Q none τ') : M0 E (d + 5) qX11_rule [vR 140, vI x] τ Q := by
  subst hx
  obtain ⟨ha, hc, hc', sh, sn, -⟩ := id S
  obtain ⟨s, ⟨b2, b3, b4, b5, b6, b7⟩, -⟩ := id sh
  have t0 := tN_lt ha hr k2
  have bj : 0 ≤ β 0 (8 + kd) ∧ β 0 (8 + kd) ≤ ruM kd := by
    have : kd = 0 ∨ kd = 1 ∨ kd = 2 := by omega
    rcases this with h | h | h <;> subst h
    · exact ⟨b2, b3⟩
    · exact ⟨b4, b5⟩
    · exact ⟨b6, b7⟩
  obtain ⟨j, ej⟩ : ∃ j : Nat, β 0 (8 + kd) = (j : Int) := ⟨(β 0 (8 + kd)).toNat, by omega⟩
  have mR : ruM kd ≤ 6 := by unfold ruM; split <;> omega
  have h39 := H.2.2.2
  have e8 : τ 148 (3 * bi + kd) = (j : Int) := (B.1.2.2.2.2.2.1 kd hk).trans ej
  have ix : ((3 * (bi : Int)) + (kd : Int)).toNat = 3 * bi + kd := by omega
  unfold ruP at kT kF
  rw [ej] at kT kF
  -- behind the count
  have full : ruM kd = (j : Int) → V0 E (d + 5) qX11_rule 33 [some (vR 140), some (vI (kd : Int)), none] [vI 1, vR 140] τ Q := fun q => by
    rw [if_pos (by omega)] at kF
    exact bX11_rule_33 (d := d + 4) (m_counts (b := true) (d := d + 2) hn hr ha k2 H (fun q => ff_tt q) (fun q => ff_tt q) (fun _ τ1 R1 F1 => ⟨false, rfl, fun q => tt_ff q, fun _ => kF 5 _ (by omega) (Or.inl rfl) τ1 R1 F1.z⟩))
  have free : ruM kd ≠ (j : Int) → V0 E (d + 5) qX11_rule 33 [some (vR 140), some (vI (kd : Int)), none] [vI 0, vR 140] τ Q := fun q => by
    rw [if_neg (by omega)] at kT kF
    have hj : j < 6 := by omega
    have badS : ∀ z : tBb r n (tN r n a) = true, beP r n (bdQ (pz r n false 20000 2 (tN r n a) 0) (fun a2 c c' => wdP r n a2 17 (fun a3 => bdQ (pz r n false 20000 5 a3 0) (fun a4 u u' => .inr (a4, ruE β kd cd.length (cd ++ c).length (cd ++ c ++ u).length cd'.length (cd' ++ c').length (cd' ++ c' ++ u').length, cd ++ c ++ u, cd' ++ c' ++ u'))))) 1 (tPl r n (tN r n a)) := fun z => by
      rw [pb_q (by omega) (by decide) z, if_pos (by omega), bq_l]; exact Or.inl rfl
    refine bX11_rule_33 (d := d + 4) (m_counts (b := false) (d := d + 2) hn hr ha k2 H (fun _ nb τ1 H1 F1 => ⟨true, rfl, fun _ => ?_, fun q => ff_tt q⟩) (fun _ z τ1 R1 F1 => ⟨false, rfl, fun q => tt_ff q, fun _ => kF 1 _ (by omega) (badS z) τ1 R1 F1.z⟩) (fun q => tt_ff q))
    have h391 := H1.2.2.2
    have e81 : τ1 148 (3 * bi + kd) = (j : Int) := by rw [F1.1 148 (by omega)]; exact e8
    rw [h391, ix, e81, show 6 * ((3 * (bi : Int)) + (kd : Int)) + (j : Int) = ((18 * bi + (6 * kd + j) : Nat) : Int) by omega, Int.toNat_natCast]
    have C1 := C.fa F1
    rw [C1.1]
    have inb : ∀ o, 149 ≤ o → o ≤ 151 → szM o * bi ≤ 18 * bi + (6 * kd + j) ∧ 18 * bi + (6 * kd + j) < szM o * bi + szM o := fun o h1 h2 => by
      have : szM o = 18 := by unfold szM; rw [if_neg (by omega), if_neg (by omega), if_pos ⟨h1, h2⟩]
      rw [this]; omega
    have F1z : frZ bi τ (wr τ1 149 (18 * bi + (6 * kd + j)) (cd'.length : Int)) := F1.z.w (by omega) (inb 149 (by omega) (by omega))
    refine ⟨by omega, by omega, by omega, by omega, m_readsE (t := false) (q := 2) (cd' := cd') (d := d) hn hb hr t0.2 nb rfl (by omega) (H1.wo (by omega)) (C1.wo (by omega)) (fun a2 c c' e1 nb2 τ2 H2 C2 F2 => ⟨rfl, ?_⟩) (fun k p hk ev τ2 R2 F2 => ⟨rfl, ?_⟩)⟩
    · rw [e1, bq_r] at kT kF
      obtain ⟨x1, x2, x3, x4, x5⟩ := pz_ln hr _ 2 _ _ a2 c c' (by omega) t0.2 e1
      have F2z := F1z.tr F2.z
      refine m_mustW (i := 17) (d := d + 2) hn hr x1 (by omega) rfl H2 (fun ev t3 t4 nb3 τ3 H3 F3 => ⟨rfl, by omega, by omega, fun q => absurd H3.2.2.1 q, fun _ => ?_⟩) (fun k p hk ev τ3 R3 F3 => ⟨rfl, by omega, by omega, fun _ => ⟨by omega, by omega, fun _ => ?_, fun q => by have := R3.1; omega⟩, fun q => by have := R3.1; omega⟩)
      · rw [ev] at kT kF
        have C3 := C2.fa F3
        rw [C3.1]
        have F3z : frZ bi τ (wr τ3 150 (18 * bi + (6 * kd + j)) ((cd' ++ c').length : Int)) := (F2z.tr F3.z).w (by omega) (inb 150 (by omega) (by omega))
        refine m_readsE (t := true) (q := 5) (cd' := cd' ++ c') (d := d) hn hb hr t4 nb3 rfl (by rw [List.length_append]; omega) (H3.wo (by omega)) (C3.wo (by omega)) (fun a4 u u' e2 nb4 τ4 H4 C4 F4 => ⟨rfl, by omega, by omega, fun q => absurd H4.2.2.1 q, fun _ => ?_⟩) (fun k p hk ev4 τ4 R4 F4 => ⟨rfl, by omega, by omega, fun _ => ?_, fun q => by have := R4.1; omega⟩)
        · rw [e2, bq_r] at kT
          have h394 := H4.2.2.2
          have O4 : ∀ o, 142 ≤ o → o ≤ 164 → τ4 o = wr τ3 150 (18 * bi + (6 * kd + j)) ((cd' ++ c').length : Int) o := fun o h1 h2 => F4.1 o (by omega)
          have O3 : ∀ o, 142 ≤ o → o ≤ 164 → τ3 o = wr τ1 149 (18 * bi + (6 * kd + j)) (cd'.length : Int) o := fun o h1 h2 => by rw [F3.1 o (by omega), F2.1 o (by omega)]
          have e84 : τ4 148 (3 * bi + kd) = (j : Int) := by rw [O4 148 (by omega) (by omega), wr_obj (by omega), O3 148 (by omega) (by omega), wr_obj (by omega)]; exact e81
          rw [h394, ix, e84, C4.1]
          refine ⟨by omega, by omega, by omega, by omega, ⟨by omega, by omega⟩, kT _ _ _ _ rfl nb4 _ ((H4.wo (by omega)).wo (by omega)) ?_ ((C4.wo (by omega)).wo (by omega)) (((F3z.tr F4.z).w (by omega) (inb 151 (by omega) (by omega))).w (by omega) (by show 3 * bi ≤ 3 * bi + kd ∧ 3 * bi + kd < 3 * bi + 3; omega))⟩
          refine ru_finM B sh hk ej hj (fun o a1 a2 a3 a4 a5 a6 => ?_) (fun i hi => ⟨?_, ?_, ?_⟩) (fun i hi => ?_) wr_same ?_ ?_ ?_
          · rw [wr_obj a3, wr_obj a6, O4 o a1 a2, wr_obj a5, O3 o a1 a2, wr_obj a4, F1.1 o (by omega)]
          · rw [wr_obj (by omega), wr_obj (by omega), O4 149 (by omega) (by omega), wr_obj (by omega), O3 149 (by omega) (by omega), wr_row hi, F1.1 149 (by omega)]
          · rw [wr_obj (by omega), wr_obj (by omega), O4 150 (by omega) (by omega), wr_row hi, O3 150 (by omega) (by omega), wr_obj (by omega), F1.1 150 (by omega)]
          · rw [wr_obj (by omega), wr_row hi, O4 151 (by omega) (by omega), wr_obj (by omega), O3 151 (by omega) (by omega), wr_obj (by omega), F1.1 151 (by omega)]
          · rw [wr_row hi, wr_obj (by omega), O4 148 (by omega) (by omega), wr_obj (by omega), O3 148 (by omega) (by omega), wr_obj (by omega), F1.1 148 (by omega)]
          · rw [wr_obj (by omega), wr_obj (by omega), O4 149 (by omega) (by omega), wr_obj (by omega), O3 149 (by omega) (by omega), wr_same]
          · rw [wr_obj (by omega), wr_obj (by omega), O4 150 (by omega) (by omega), wr_same]
          · rw [wr_obj (by omega), wr_same]
        · refine kF k p hk ?_ _ (R4.wo (by omega)) ((F3z.tr F4.z).w (by omega) (inb 151 (by omega) (by omega)))
          rcases ev4 with h | ⟨a', c, c', h, hb, h1, h2⟩
          · exact Or.inl (by rw [h, bq_l])
          · rw [h, bq_r]; exact Or.inr ⟨_, _, _, _, rfl, hb, h1, h2⟩
      · refine kF k p hk (ev _ (fun b z _ => ?_)) _ ((R3.wo (by omega)).wo (by omega)) (((F2z.tr F3.z).w (by omega) (inb 150 (by omega) (by omega))).w (by omega) (inb 151 (by omega) (by omega)))
        rw [pb_q (by omega) (by decide) z, if_pos (by omega), bq_l]; exact Or.inl rfl
    · refine m_mustF hk R2 ⟨rfl, by omega, by omega, fun _ => ⟨by omega, by omega, fun _ => ?_, fun q => by have := R2.1; omega⟩, fun q => by have := R2.1; omega⟩
      refine kF k p hk ?_ _ ((R2.wo (by omega)).wo (by omega)) (((F1z.tr F2.z).w (by omega) (inb 150 (by omega) (by omega))).w (by omega) (inb 151 (by omega) (by omega)))
      rcases ev with h | ⟨a', c, c', h, hb, h1, h2⟩
      · exact Or.inl (by rw [h, bq_l])
      · subst h1; subst h2; rw [h, bq_r]; exact bz_wd hb
  refine mX11_rule (d := d + 4) ?_
  rw [h39, ix, e8]
  refine ⟨by omega, by omega, ⟨by omega, by omega⟩, fun q => ⟨fun z => free ?_, fun z => full ?_⟩, fun q => ⟨fun z => free ?_, fun z => full ?_⟩⟩
  · unfold ruM; rw [if_neg (by omega)]; omega
  · unfold ruM; rw [if_neg (by omega)]; omega
  · unfold ruM; rw [if_pos (by omega)]; omega
  · unfold ruM; rw [if_pos (by omega)]; omega
theorem m_kindHere (hr : ∀ i, 0 ≤ r i ∧ r i ≤ 255) (ha : a ≤ n) (H : PQ r n bi a τ) (k1 : Q (some (vI (kdI r n a))) τ) : M0 E (d + 1) qX11_kindHere [vR 140] τ Q := by
  have T := H.2.1
  unfold kdI at k1
  refine mX11_kindHere (m_isWord (i := 8) ha hr (by omega) rfl (fun _ => H.1.2) T ⟨_, rfl, fun y => ?_, fun y => ?_⟩)
  · rw [if_neg (by rw [y]; decide)] at k1
    refine m_isWord (i := 9) ha hr (by omega) rfl (fun _ => H.1.2) T ⟨_, rfl, fun y => ?_, fun y => ?_⟩
    · rw [if_neg (by rw [y]; decide)] at k1
      refine m_isWord (i := 10) ha hr (by omega) rfl (fun _ => H.1.2) T ⟨_, rfl, fun y => ?_, fun y => ?_⟩
      · rw [if_neg (by rw [y]; decide)] at k1
        refine m_isWord (i := 11) ha hr (by omega) rfl (fun _ => H.1.2) T ⟨_, rfl, fun y => ?_, fun y => ?_⟩
        · rw [if_neg (by rw [y]; decide)] at k1
          refine m_isWord (i := 12) ha hr (by omega) rfl (fun _ => H.1.2) T ⟨_, rfl, fun y => ?_, fun y => ?_⟩
          · rw [if_neg (by rw [y]; decide)] at k1; exact k1
          · rw [if_pos y] at k1; exact k1
        · rw [if_pos y] at k1; exact k1
      · rw [if_pos y] at k1; exact k1
    · rw [if_pos y] at k1; exact k1
  · rw [if_pos y] at k1; exact k1
theorem bad_kd {b : Nat} (h : tBb r n b = true) : kdI r n b = -1 := by unfold kdI; simp [bad_W h]
theorem kdi_2 {b : Nat} (h : kdI r n b ≠ -1) : 2 ≤ (tk r n b).1 := by
  by_cases q : (tk r n b).1 = 4
  · omega
  · exfalso; apply h; unfold kdI; simp [tW_f (r := r) (n := n) (a := b) q]
theorem m_door (hn : n ≤ 1600) (hb : bi < 2) (hr : ∀ i, 0 ≤ r i ∧ r i ≤ 255) (S : SIn n a β cd cd') (hw : tWb r n a 7 = true) (B : HbM bi β τ) (H : PQ r n bi a τ) (C : CdM bi cd' τ) (kT : ∀ a1 β1 c1 c1', doP r n a β cd cd' = .inr (a1, β1, c1, c1') → tBb r n a1 = false → ∀ τ', PQ r n bi a1 τ' → HbM bi β1 τ' → CdM bi c1' τ' → frZ bi τ τ' → Q none τ') (kF : ∀ k p, 1 ≤ k → beP r n (doP r n a β cd cd') k p → ∀ τ', PF k p τ' → frZ bi τ τ' → Q none τ') : M0 E (d + 4) qX11_door [vR 140] τ Q := by
  obtain ⟨ha, hc, hc', sh, sn, -⟩ := id S
  have s := sh.1
  have t0 := tW_n ha hr hw
  have k2 : 2 ≤ (tk r n a).1 := by rw [(tW_k hw).1]; omega
  obtain ⟨dd, ed⟩ : ∃ t : Nat, β 0 6 = (t : Int) := ⟨(β 0 6).toNat, by omega⟩
  have h39 := H.2.2.2
  have e2 : τ 152 bi = (dd : Int) := B.1.2.2.2.1.trans ed
  have inb : ∀ o, 153 ≤ o → o ≤ 156 → szM o * bi ≤ 4 * bi + dd ∧ 4 * bi + dd < szM o * bi + szM o ∨ 4 ≤ dd := fun o h1 h2 => by
    have : szM o = 4 := by unfold szM; rw [if_neg (by omega), if_neg (by omega), if_neg (by omega), if_pos (by omega)]
    rw [this]; omega
  unfold doP at kT kF
  rw [ed] at kT kF
  refine mX11_door (d := d + 3) ?_
  rw [h39, Int.toNat_natCast, e2]
  refine ⟨by omega, by omega, fun q => ?_, fun q => ?_⟩
  · rw [if_neg (by omega)] at kT kF
    have inb : ∀ o, 153 ≤ o → o ≤ 156 → szM o * bi ≤ 4 * bi + dd ∧ 4 * bi + dd < szM o * bi + szM o := fun o h1 h2 => by rcases inb o h1 h2 with h | h <;> omega
    have h4 : dd < 4 := by omega
    refine bX11_door_19 (d := d + 3) (m_counts (b := false) (d := d + 1) hn hr ha k2 H (fun _ nb τ1 H1 F1 => ⟨true, rfl, fun _ => ?_, fun q => ff_tt q⟩) (fun _ z τ1 R1 F1 => ⟨false, rfl, fun q => tt_ff q, fun _ => kF 1 _ (by omega) (bz_nn z) τ1 R1 F1.z⟩) (fun q => tt_ff q))
    have h391 := H1.2.2.2
    have e21 : τ1 152 bi = (dd : Int) := by rw [F1.1 152 (by omega)]; exact e2
    rw [h391, Int.toNat_natCast, e21, show 4 * (bi : Int) + (dd : Int) = ((4 * bi + dd : Nat) : Int) by omega, Int.toNat_natCast]
    refine ⟨by omega, by omega, m_fresh (d := d) hn hb hr t0.2 sh sn (B.fa F1) H1 (fun ev w1 t1 t2 nb2 τ2 H2 F2 => ⟨_, rfl, by omega, by omega, fun q => absurd H2.2.2.1 q, fun _ => ?_⟩) (fun k p hk ev v τ2 R2 F2 => ⟨_, rfl, by omega, by omega, fun _ => ?_, fun q => by have := R2.1; omega⟩)⟩
    · rw [ev] at kT kF
      have F12 := F1.tr F2
      generalize hw0 : tV r n (tN r n a) = w at *
      have H3 : PQ r n bi (tN r n (tN r n a)) (wr τ2 153 (4 * bi + dd) w) := H2.wo (by omega)
      have F3 : frZ bi τ (wr τ2 153 (4 * bi + dd) w) := F12.z.w (by omega) (inb 153 (by omega) (by omega))
      have kr := kd_r (r := r) (n := n) (a := tN r n (tN r n a))
      refine m_kindHere (d := d + 2) hr t2 H3 ⟨_, rfl, ⟨by omega, by omega⟩, fun q1 => ?_, fun q1 => ?_⟩
      · rw [if_neg q1] at kT kF
        have t3 := kd_n t2 hr q1
        refine bX11_door_77 (d := d + 3) ⟨fun _ => m_kindHere (d := d + 2) hr t2 H3 ⟨_, rfl, by omega, by omega, ⟨by omega, by omega⟩, ?_⟩, fun q => by have := H3.2.2.1; omega⟩
        rw [Int.toNat_natCast]
        generalize hkk : kdI r n (tN r n (tN r n a)) = kk at *
        have F4 : frZ bi τ (wr (wr τ2 153 (4 * bi + dd) w) 154 (4 * bi + dd) kk) := F3.w (by omega) (inb 154 (by omega) (by omega))
        have C4 : CdM bi cd' (wr (wr τ2 153 (4 * bi + dd) w) 154 (4 * bi + dd) kk) := ((C.fa F12).wo (by omega)).wo (by omega)
        have O4 : ∀ o i, 142 ≤ o → o ≤ 164 → wr (wr τ2 153 (4 * bi + dd) w) 154 (4 * bi + dd) kk o i = if o = 154 ∧ i = 4 * bi + dd then kk else if o = 153 ∧ i = 4 * bi + dd then w else τ o i := fun o i h1 h2 => by
          simp only [wr]
          rw [F12.1 o (by omega)]
        -- behind the kind
        refine m_next (d := d + 2) hn hr t2 (kdi_2 (by rw [hkk]; exact q1)) (H3.wo (by omega)) (fun nb5 τ5 H5 F5 => ⟨rfl, ?_⟩) (fun z τ5 R5 F5 => ⟨rfl, ?_⟩)
        · have e25 : τ5 152 bi = (dd : Int) := by rw [F5.1 152 (by omega), wr_obj (by omega), wr_obj (by omega), F12.1 152 (by omega)]; exact e2
          have F5z := F4.tr F5.z
          have C5 := C4.fa F5
          -- the last writes
          have last : ∀ (σ : mm_Mem) (a6 : Nat) (one two : Int), PQ r n bi a6 σ → CdM bi cd' σ → frZ bi τ σ → (∀ o i, 142 ≤ o → o ≤ 164 → σ o i = if o = 155 ∧ i = 4 * bi + dd then one else τ5 o i) → HbM bi (doE β w kk one two) (wr (wr σ 156 (4 * bi + dd) two) 152 bi ((dd : Int) + 1)) ∧ PQ r n bi a6 (wr (wr σ 156 (4 * bi + dd) two) 152 bi ((dd : Int) + 1)) ∧ CdM bi cd' (wr (wr σ 156 (4 * bi + dd) two) 152 bi ((dd : Int) + 1)) ∧ frZ bi τ (wr (wr σ 156 (4 * bi + dd) two) 152 bi ((dd : Int) + 1)) := fun σ a6 one two Hσ Cσ Fσ Oσ => by
            refine ⟨do_finM B sh ed (fun o a1 a2 a3 a4 => ?_) (fun o i a1 a2 a3 => ?_) wr_same ?_ ?_ ?_ ?_, (Hσ.wo (by omega)).wo (by omega), (Cσ.wo (by omega)).wo (by omega), (Fσ.w (by omega) (inb 156 (by omega) (by omega))).w (by omega) (by show 1 * bi ≤ bi ∧ bi < 1 * bi + 1; omega)⟩
            · funext i
              rw [wr_obj a3, wr_obj (by omega), Oσ o i a1 a2, if_neg (by omega), F5.1 o (by omega), O4 o i a1 a2, if_neg (by omega), if_neg (by omega)]
            · rw [wr_obj (by omega)]
              have : wr σ 156 (4 * bi + dd) two o i = σ o i := by simp [wr, a3]
              rw [this, Oσ o i (by omega) (by omega), if_neg (by omega), F5.1 o (by omega), O4 o i (by omega) (by omega), if_neg (by omega), if_neg (by omega)]
            · rw [wr_obj (by omega), wr_obj (by omega), Oσ _ _ (by omega) (by omega), if_neg (by omega), F5.1 _ (by omega), O4 _ _ (by omega) (by omega), if_neg (by omega), if_pos ⟨rfl, rfl⟩]
            · rw [wr_obj (by omega), wr_obj (by omega), Oσ _ _ (by omega) (by omega), if_neg (by omega), F5.1 _ (by omega), O4 _ _ (by omega) (by omega), if_pos ⟨rfl, rfl⟩]
            · rw [wr_obj (by omega), wr_obj (by omega), Oσ _ _ (by omega) (by omega), if_pos ⟨rfl, rfl⟩]
            · rw [wr_obj (by omega), wr_same]
          refine ⟨fun q5 => ?_, fun q5 => ?_⟩
          · rw [if_neg q5] at kT kF
            -- the first number
            have one : ∀ lo : Int, lo = (if kk = 2 then 1 else 0) → M0 E (d + 3) qX11_number [vR 140, vI lo, vI 40] τ5 (fun v τ8 => ∃ r9 : Int, v = some (vI r9) ∧ V0 E (d + 3 + 1) qX11_door 130 [some (vR 140), some (vI ((4 * bi + dd : Nat) : Int)), some (vI kk)] [vI r9, vI ((4 * bi + dd : Nat) : Int), vR 155] τ8 Q) := fun lo el => by
              subst el
              refine m_number (d := d + 1) hn hr t3.2 (by split <;> decide) (by decide) H5 (fun ev6 l1 l2 t4 t5 nb6 τ6 H6 F6 => ⟨_, rfl, ?_⟩) (fun k p hk ev6 v τ6 hv R6 F6 => ⟨_, rfl, ?_⟩)
              · rw [ev6] at kT kF
                have l3 : 0 ≤ tV r n (tN r n (tN r n (tN r n a))) := by split at l1 <;> omega
                generalize tV r n (tN r n (tN r n (tN r n a))) = on at *
                have H7 : PQ r n bi (tN r n (tN r n (tN r n (tN r n a)))) (wr τ6 155 (4 * bi + dd) on) := H6.wo (by omega)
                have C7 : CdM bi cd' (wr τ6 155 (4 * bi + dd) on) := (C5.fa F6).wo (by omega)
                have F7 : frZ bi τ (wr τ6 155 (4 * bi + dd) on) := (F5z.tr F6.z).w (by omega) (inb 155 (by omega) (by omega))
                have O7 : ∀ o i, 142 ≤ o → o ≤ 164 → wr τ6 155 (4 * bi + dd) on o i = if o = 155 ∧ i = 4 * bi + dd then on else τ5 o i := fun o i h1 h2 => by simp only [wr]; rw [F6.1 o (by omega)]
                -- the second number
                have two : ∀ lo hi : Int, kk ≠ 2 → lo = (if kk = 4 then 1 else 0) → hi = (if kk = 3 then 4 else 9) → M0 E (d + 3) qX11_number [vR 140, vI lo, vI hi] (wr τ6 155 (4 * bi + dd) on) (fun v τ15 => ∃ r16 : Int, v = some (vI r16) ∧ 0 ≤ ((4 * bi + dd : Nat) : Int) ∧ ((4 * bi + dd : Nat) : Int) < 8 ∧ inR r16 ∧ (((τ15 140 8) ≠ 0 → Q none (wr τ15 156 ((4 * bi + dd : Nat) : Int).toNat r16)) ∧ ((τ15 140 8) = 0 → 0 ≤ (τ15 140 39) ∧ (τ15 140 39) < 2 ∧ 0 ≤ (τ15 140 39) ∧ (τ15 140 39) < 2 ∧ inR ((τ15 152 (τ15 140 39).toNat) + 1) ∧ Q none (wr (wr τ15 156 ((4 * bi + dd : Nat) : Int).toNat r16) 152 (τ15 140 39).toNat ((τ15 152 (τ15 140 39).toNat) + 1))))) := fun lo hi kn el eh => by
                  rw [if_neg kn] at kT kF
                  subst el; subst eh
                  rw [Int.toNat_natCast]
                  refine m_number (d := d + 1) hn hr t5 (by split <;> decide) (by split <;> decide) H7 (fun ev8 m1 m2 t6 t7 nb8 τ8 H8 F8 => ⟨_, rfl, by omega, by omega, ⟨by split at m1 <;> omega, by split at m2 <;> omega⟩, fun q => absurd H8.2.2.1 q, fun _ => ?_⟩) (fun k p hk ev8 v τ8 hv R8 F8 => ⟨_, rfl, by omega, by omega, hv, fun _ => kF k p hk (ev8 _ (fun b v z _ => bz_r z)) _ (R8.wo (by omega)) ((F7.tr F8.z).w (by omega) (inb 156 (by omega) (by omega))), fun q => by have := R8.1; omega⟩)
                  rw [ev8] at kT
                  have h398 := H8.2.2.2
                  have e28 : τ8 152 bi = (dd : Int) := by rw [F8.1 152 (by omega), wr_obj (by omega), F6.1 152 (by omega)]; exact e25
                  rw [h398, Int.toNat_natCast, e28]
                  obtain ⟨L1, L2, L3, L4⟩ := last τ8 _ on (tV r n (tN r n (tN r n (tN r n (tN r n a))))) H8 (C7.fa F8) (F7.tr F8.z) (fun o i h1 h2 => by rw [F8.1 o (by omega)]; exact O7 o i h1 h2)
                  exact ⟨by omega, by omega, by omega, by omega, ⟨by omega, by omega⟩, kT _ _ _ _ rfl nb8 _ L2 L1 L3 L4⟩
                refine bX11_door_130 (d := d + 3) ?_
                rw [Int.toNat_natCast]
                have h396 := H6.2.2.2
                have e26 : τ6 152 bi = (dd : Int) := by rw [F6.1 152 (by omega)]; exact e25
                refine ⟨by omega, by omega, ⟨by omega, by omega⟩, ⟨by omega, by omega⟩, fun z1 => ⟨fun z3 => ⟨fun z4 => ?_, fun z4 => ?_⟩, fun z3 => ?_⟩, fun z1 => ?_⟩
                · have kk2 : kk = 2 := by omega
                  rw [if_pos kk2] at kT
                  rw [h396, Int.toNat_natCast, e26]
                  obtain ⟨L1, L2, L3, L4⟩ := last (wr τ6 155 (4 * bi + dd) on) _ on 0 H7 C7 F7 O7
                  rw [kk2] at L1
                  exact ⟨by omega, by omega, fun q => absurd H6.2.2.1 q, fun _ => ⟨by omega, by omega, by omega, by omega, ⟨by omega, by omega⟩, kT _ _ _ _ rfl nb6 _ L2 L1 L3 L4⟩⟩
                · have := two 1 9 (by omega) (by rw [if_pos z4]) (by rw [if_neg (by omega)])
                  rw [Int.toNat_natCast] at this; exact this
                · have := two 0 4 (by omega) (by rw [if_neg (by omega)]) (by rw [if_pos z3])
                  rw [Int.toNat_natCast] at this; exact this
                · have := two 0 9 (by omega) (by rw [if_neg (by omega)]) (by rw [if_neg (by omega)])
                  rw [Int.toNat_natCast] at this; exact this
              · have K := kF k p hk (ev6 _ (fun b v z _ => by
                  by_cases y : kk = 2
                  · rw [if_pos y]; exact bz_r z
                  · rw [if_neg y]; exact bz_nu z))
                have F7 : frZ bi τ (wr τ6 155 (4 * bi + dd) v) := (F5z.tr F6.z).w (by omega) (inb 155 (by omega) (by omega))
                have R7 : PF k p (wr τ6 155 (4 * bi + dd) v) := R6.wo (by omega)
                have fin : ∀ x : Int, Q none (wr (wr τ6 155 (4 * bi + dd) v) 156 (4 * bi + dd) x) := fun x => K _ (R7.wo (by omega)) (F7.w (by omega) (inb 156 (by omega) (by omega)))
                refine bX11_door_130 (d := d + 3) ?_
                rw [Int.toNat_natCast]
                refine ⟨by omega, by omega, hv, ⟨by omega, by omega⟩, fun z1 => ⟨fun z3 => ⟨fun z4 => ⟨by omega, by omega, fun _ => fin 0, fun q => by have := R6.1; omega⟩, fun z4 => ?_⟩, fun z3 => ?_⟩, fun z1 => ?_⟩
                · exact m_numberF hk R7 ⟨_, rfl, by omega, by omega, by decide, fun _ => fin 0, fun q => by have := R7.1; omega⟩
                · exact m_numberF hk R7 ⟨_, rfl, by omega, by omega, by decide, fun _ => fin 0, fun q => by have := R7.1; omega⟩
                · exact m_numberF hk R7 ⟨_, rfl, by omega, by omega, by decide, fun _ => fin 0, fun q => by have := R7.1; omega⟩
            exact ⟨fun q6 => one 0 (by rw [if_neg q6]), fun q6 => one 1 (by rw [if_pos q6])⟩
          · rw [if_pos q5] at kT
            have O5 : ∀ o i, 142 ≤ o → o ≤ 164 → wr τ5 155 (4 * bi + dd) 0 o i = if o = 155 ∧ i = 4 * bi + dd then 0 else τ5 o i := fun o i h1 h2 => by simp only [wr]
            obtain ⟨L1, L2, L3, L4⟩ := last (wr τ5 155 (4 * bi + dd) 0) _ 0 0 (H5.wo (by omega)) (C5.wo (by omega)) (F5z.w (by omega) (inb 155 (by omega) (by omega))) O5
            rw [q5] at L1
            have h395 := H5.2.2.2
            refine bX11_door_130 (d := d + 3) ?_
            rw [Int.toNat_natCast, h395, Int.toNat_natCast, e25]
            refine ⟨by omega, by omega, by decide, ⟨by omega, by omega⟩, fun z1 => ⟨fun z3 => ⟨fun z4 => ⟨by omega, by omega, fun q => absurd H5.2.2.1 q, fun _ => ⟨by omega, by omega, by omega, by omega, ⟨by omega, by omega⟩, kT _ _ _ _ rfl nb5 _ L2 L1 L3 L4⟩⟩, fun z4 => by omega⟩, fun z3 => by omega⟩, fun z1 => by omega⟩
        · -- what stands behind the kind is bad
          have K := kF 1 (tPl r n (tN r n (tN r n (tN r n a)))) (by omega) (by
            by_cases y : kk = 0
            · rw [if_pos y]; exact bz_r z
            · rw [if_neg y]; exact bz_nu z)
          have F5z := F4.tr F5.z
          have kz : ∀ v : Int, V0 E (d + 3 + 1) qX11_door 130 [some (vR 140), some (vI ((4 * bi + dd : Nat) : Int)), some (vI kk)] [vI 0, vI ((4 * bi + dd : Nat) : Int), vR 155] τ5 Q := fun v => by
            have F7 : frZ bi τ (wr τ5 155 (4 * bi + dd) 0) := F5z.w (by omega) (inb 155 (by omega) (by omega))
            have R7 : PF 1 (tPl r n (tN r n (tN r n (tN r n a)))) (wr τ5 155 (4 * bi + dd) 0) := R5.wo (by omega)
            have fin : ∀ x : Int, Q none (wr (wr τ5 155 (4 * bi + dd) 0) 156 (4 * bi + dd) x) := fun x => K _ (R7.wo (by omega)) (F7.w (by omega) (inb 156 (by omega) (by omega)))
            refine bX11_door_130 (d := d + 3) ?_
            rw [Int.toNat_natCast]
            refine ⟨by omega, by omega, by decide, ⟨by omega, by omega⟩, fun z1 => ⟨fun z3 => ⟨fun z4 => ⟨by omega, by omega, fun _ => fin 0, fun q => by have := R5.1; omega⟩, fun z4 => ?_⟩, fun z3 => ?_⟩, fun z1 => ?_⟩
            · exact m_numberF (Nat.le_refl 1) R7 ⟨_, rfl, by omega, by omega, by decide, fun _ => fin 0, fun q => by have := R7.1; omega⟩
            · exact m_numberF (Nat.le_refl 1) R7 ⟨_, rfl, by omega, by omega, by decide, fun _ => fin 0, fun q => by have := R7.1; omega⟩
            · exact m_numberF (Nat.le_refl 1) R7 ⟨_, rfl, by omega, by omega, by decide, fun _ => fin 0, fun q => by have := R7.1; omega⟩
          exact ⟨fun q5 => ⟨fun q6 => m_numberF (Nat.le_refl 1) R5 ⟨_, rfl, kz 0⟩, fun q6 => m_numberF (Nat.le_refl 1) R5 ⟨_, rfl, kz 0⟩⟩, fun q5 => kz 0⟩
      · rw [if_pos q1] at kF
        exact m_bl (k := 1) (by omega) hn t2 hr H3 (fun τ' R _ _ F => ⟨rfl, bX11_door_77 (d := d + 3) ⟨fun q => by have := R.1; omega, fun _ => kF 1 _ (by omega) (Or.inl rfl) τ' R (F3.tr F.z)⟩⟩)
    · have K := kF k p hk (ev _ (fun b v z _ => Or.inl (by rw [if_pos (bad_kd z)])))
      have R3 : PF k p (wr τ2 153 (4 * bi + dd) v) := R2.wo (by omega)
      exact bX11_door_77 (d := d + 3) ⟨fun q => by have := R3.1; omega, fun _ => K _ R3 ((F1.tr F2).z.w (by omega) (inb 153 (by omega) (by omega)))⟩
  · rw [if_pos (by omega)] at kF
    exact bX11_door_19 (d := d + 3) (m_counts (b := true) (d := d + 1) hn hr ha k2 H (fun q => ff_tt q) (fun q => ff_tt q) (fun _ τ1 R1 F1 => ⟨false, rfl, fun q => tt_ff q, fun _ => kF 5 _ (by omega) (Or.inl rfl) τ1 R1 F1.z⟩))
end MSt2
