/-! the reference reads statements: person; the head; a house -/
section MSt3
variable {E : mm_Env} {d : Nat} {τ : mm_Mem} {Q : mm_Q0} {r : Nat → Int} {n bi : Nat} {a : Nat} {β : mm_Mem} {cd cd' : List Int}
/-- what the cells of a new person hold -/
def peO (bi p0 : Nat) (l : Nat) (v : Nat → Int) (τ τ' : mm_Mem) : Prop := ∀ o i, 142 ≤ o → o ≤ 164 → τ' o i = if 158 ≤ o ∧ o < 158 + l ∧ i = 4 * bi + p0 then v o else τ o i
theorem peO.fa {p0 l : Nat} {v : Nat → Int} {σ σ' : mm_Mem} (h : peO bi p0 l v τ σ) (F : frA σ σ') : peO bi p0 l v τ σ' := fun o i h1 h2 => by rw [F.1 o (by omega)]; exact h o i h1 h2
theorem peO.wo {p0 l : Nat} {v : Nat → Int} {σ : mm_Mem} {x : Int} (h : peO bi p0 l v τ σ) (hl : l < 5) (hv : v (158 + l) = x) : peO bi p0 (l + 1) v τ (wr σ (158 + l) (4 * bi + p0) x) := fun o i h1 h2 => by
  by_cases q : o = 158 + l ∧ i = 4 * bi + p0
  · obtain ⟨rfl, rfl⟩ := q
    rw [wr_same, if_pos ⟨by omega, by omega, rfl⟩, hv]
  · have : wr σ (158 + l) (4 * bi + p0) x o i = σ o i := by simp only [wr, if_neg q]
    rw [this, h o i h1 h2]
    by_cases q2 : 158 ≤ o ∧ o < 158 + l ∧ i = 4 * bi + p0
    · rw [if_pos q2, if_pos (by omega)]
    · rw [if_neg q2, if_neg (by omega)]
theorem m_person (hn : n ≤ 1600) (hb : bi < 2) (hr : ∀ i, 0 ≤ r i ∧ r i ≤ 255) (S : SIn n a β cd cd') (hw : tWb r n a 13 = true) (B : HbM bi β τ) (H : PQ r n bi a τ) (C : CdM bi cd' τ) (kT : ∀ a1 β1 c1 c1', peP r n a β cd cd' = .inr (a1, β1, c1, c1') → tBb r n a1 = false → ∀ τ', PQ r n bi a1 τ' → HbM bi β1 τ' → CdM bi c1' τ' → frZ bi τ τ' → Q none τ') (kF : ∀ k p, 1 ≤ k → beP r n (peP r n a β cd cd') k p → ∀ τ', PF k p τ' → frZ bi τ τ' → Q none τ') : M0 E (d + 4) qX11_person [vR 140] τ Q := by
  obtain ⟨ha, hc, hc', sh, sn, -⟩ := id S
  have s := sh.1
  have t0 := tW_n ha hr hw
  have k2 : 2 ≤ (tk r n a).1 := by rw [(tW_k hw).1]; omega
  obtain ⟨p0, ep⟩ : ∃ t : Nat, β 0 7 = (t : Int) := ⟨(β 0 7).toNat, by omega⟩
  have h39 := H.2.2.2
  have e7 : τ 157 bi = (p0 : Int) := B.1.2.2.2.2.1.trans ep
  unfold peP at kT kF
  rw [ep] at kT kF
  refine mX11_person (d := d + 3) ?_
  rw [h39, Int.toNat_natCast, e7]
  refine ⟨by omega, by omega, fun q => ?_, fun q => ?_⟩
  · rw [if_neg (by omega)] at kT kF
    have h4 : p0 < 4 := by omega
    have inb : ∀ o, 158 ≤ o → o ≤ 162 → szM o * bi ≤ 4 * bi + p0 ∧ 4 * bi + p0 < szM o * bi + szM o := fun o h1 h2 => by
      have : szM o = 4 := by unfold szM; rw [if_neg (by omega), if_neg (by omega), if_neg (by omega), if_pos (by omega)]
      rw [this]; omega
    -- the rest behind a fault
    have rest : ∀ (k p : Nat), 1 ≤ k → (∀ τ', PF k p τ' → frZ bi τ τ' → Q none τ') → ∀ (σ : mm_Mem), PF k p σ → frZ bi τ σ → ∀ x : Int, inR x → Q none (wr σ 162 (4 * bi + p0) x) := fun k p hk K σ R F x _ => K _ (R.wo (by omega)) (F.w (by omega) (inb 162 (by omega) (by omega)))
    -- from each place on
    have r5 : ∀ (k p : Nat), 1 ≤ k → (∀ τ', PF k p τ' → frZ bi τ τ' → Q none τ') → ∀ (σ : mm_Mem), PF k p σ → frZ bi τ σ → M0 E (d + 3) qX11_number [vR 140, vI 0, vI 100] σ (fun v τ31 => ∃ r32 : Int, v = some (vI r32) ∧ 0 ≤ ((4 * bi + p0 : Nat) : Int) ∧ ((4 * bi + p0 : Nat) : Int) < 8 ∧ inR r32 ∧ (((τ31 140 8) ≠ 0 → Q none (wr τ31 162 (4 * bi + p0) r32)) ∧ ((τ31 140 8) = 0 → 0 ≤ (τ31 140 39) ∧ (τ31 140 39) < 2 ∧ 0 ≤ (τ31 140 39) ∧ (τ31 140 39) < 2 ∧ inR ((τ31 157 (τ31 140 39).toNat) + 1) ∧ Q none (wr (wr τ31 162 (4 * bi + p0) r32) 157 (τ31 140 39).toNat ((τ31 157 (τ31 140 39).toNat) + 1))))) := fun k p hk K σ R F =>
      m_numberF hk R ⟨_, rfl, by omega, by omega, by decide, fun _ => rest k p hk K σ R F 0 (by decide), fun q => by have := R.1; omega⟩
    refine bX11_person_19 (d := d + 3) (m_counts (b := false) (d := d + 1) hn hr ha k2 H (fun _ nb τ1 H1 F1 => ⟨true, rfl, fun _ => ?_, fun q => ff_tt q⟩) (fun _ z τ1 R1 F1 => ⟨false, rfl, fun q => tt_ff q, fun _ => kF 1 _ (by omega) (bz_nn z) τ1 R1 F1.z⟩) (fun q => tt_ff q))
    have h391 := H1.2.2.2
    have e71 : τ1 157 bi = (p0 : Int) := by rw [F1.1 157 (by omega)]; exact e7
    rw [h391, Int.toNat_natCast, e71, show 4 * (bi : Int) + (p0 : Int) = ((4 * bi + p0 : Nat) : Int) by omega, Int.toNat_natCast]
    refine ⟨by omega, by omega, m_fresh (d := d) hn hb hr t0.2 sh sn (B.fa F1) H1 (fun ev w1 t1 t2 nb2 τ2 H2 F2 => ⟨_, rfl, by omega, by omega, ?_⟩) (fun k p hk ev v τ2 R2 F2 => ⟨_, rfl, by omega, by omega, ?_⟩)⟩
    · rw [ev] at kT kF
      have F12 := F1.tr F2
      generalize hw0 : tV r n (tN r n a) = w at *
      have F2z : frZ bi τ (wr τ2 158 (4 * bi + p0) w) := F12.z.w (by omega) (inb 158 (by omega) (by omega))
      have O2 : ∀ v : Nat → Int, v 158 = w → peO bi p0 1 v τ (wr τ2 158 (4 * bi + p0) w) := fun v hv => peO.wo (l := 0) (fun o i h1 h2 => by rw [F12.1 o (by omega), if_neg (by omega)]) (by omega) hv
      have C2 : CdM bi cd' (wr τ2 158 (4 * bi + p0) w) := (C.fa F12).wo (by omega)
      refine m_mustW (i := 7) (d := d + 1) hn hr t2 (by omega) rfl (H2.wo (by omega)) (fun ev3 t3 t4 nb3 τ3 H3 F3 => ⟨rfl, ?_⟩) (fun k p hk ev3 τ3 R3 F3 => ⟨rfl, ?_⟩)
      · rw [ev3] at kT kF
        have F3z := F2z.tr F3.z
        have B3 : HbM bi β τ3 := by
          have O := fun (v : Nat → Int) (hv : v 158 = w) => (O2 v hv).fa F3
          have Ow := O (fun _ => w) rfl
          have eo : ∀ o, 142 ≤ o → o ≤ 164 → o ≠ 158 → τ3 o = τ o := fun o h1 h2 h3 => by funext i; rw [Ow o i h1 h2, if_neg (by omega)]
          have e58 : ∀ i, i ≠ 4 * bi + p0 → τ3 158 i = τ 158 i := fun i hi => by rw [Ow 158 i (by omega) (by omega), if_neg (by omega)]
          obtain ⟨sH', ⟨N1, N2, N3⟩, D, P, T, R⟩ := B
          obtain ⟨h1, h2, h3, h4', h5, h6, h7, h8⟩ := sH'
          refine ⟨⟨by rw [eo 142 (by omega) (by omega) (by omega)]; exact h1, by rw [eo 143 (by omega) (by omega) (by omega)]; exact h2, by rw [eo 144 (by omega) (by omega) (by omega)]; exact h3, by rw [eo 152 (by omega) (by omega) (by omega)]; exact h4', by rw [eo 157 (by omega) (by omega) (by omega)]; exact h5, fun j hj => by rw [eo 148 (by omega) (by omega) (by omega)]; exact h6 j hj, by rw [eo 163 (by omega) (by omega) (by omega)]; exact h7, by rw [eo 164 (by omega) (by omega) (by omega)]; exact h8⟩, ⟨fun t q => by rw [eo 145 (by omega) (by omega) (by omega)]; exact N1 t q, fun t q => by rw [eo 153 (by omega) (by omega) (by omega)]; exact N2 t q, fun t q => by rw [e58 _ (by omega)]; exact N3 t q⟩, ?_, ?_, ?_, ?_⟩
          · unfold sD; rw [eo 154 (by omega) (by omega) (by omega), eo 155 (by omega) (by omega) (by omega), eo 156 (by omega) (by omega) (by omega)]; exact D
          · unfold sP; rw [eo 159 (by omega) (by omega) (by omega), eo 160 (by omega) (by omega) (by omega), eo 161 (by omega) (by omega) (by omega), eo 162 (by omega) (by omega) (by omega)]; exact P
          · unfold hTm; rw [eo 146 (by omega) (by omega) (by omega), eo 147 (by omega) (by omega) (by omega)]; exact T
          · unfold hRm; rw [eo 149 (by omega) (by omega) (by omega), eo 150 (by omega) (by omega) (by omega), eo 151 (by omega) (by omega) (by omega)]; exact R
        have C3 := C2.fa F3
        refine m_asked (kd := 1) (d := d) hn hb hr t4 (by omega) rfl sh sn B3 H3 (fun ev4 d1 d2 t5 t6 nb4 τ4 H4 F4 => ⟨_, rfl, by omega, by omega, ⟨by omega, ?_⟩, ?_⟩) (fun k p hk ev4 τ4 R4 F4 => ⟨_, rfl, by omega, by omega, by decide, ?_⟩)
        · have : β 0 (5 + 1) ≤ 4 := by show β 0 6 ≤ 4; omega
          omega
        · have ev4 : ∀ K, knP r n (tN r n (tN r n (tN r n a))) (β 3) (β 0 6) K = K (tN r n (tN r n (tN r n (tN r n a)))) (fnd (β 3) (β 0 6) (tV r n (tN r n (tN r n (tN r n a))))) := ev4
          have d1 : 0 ≤ fnd (β 3) (β 0 6) (tV r n (tN r n (tN r n (tN r n a)))) := d1
          have d2 : fnd (β 3) (β 0 6) (tV r n (tN r n (tN r n (tN r n a)))) < β 0 6 := d2
          rw [ev4] at kT kF
          show M0 E (d + 3) qX11_must_ [vR 140, vL 1953853029] (wr τ4 159 (4 * bi + p0) (fnd (β 3) (β 0 6) (tV r n (tN r n (tN r n (tN r n a)))))) _
          generalize hdd : fnd (β 3) (β 0 6) (tV r n (tN r n (tN r n (tN r n a)))) = dd at *
          have F4z : frZ bi τ (wr τ4 159 (4 * bi + p0) dd) := (F3z.tr F4.z).w (by omega) (inb 159 (by omega) (by omega))
          have O4 : ∀ v : Nat → Int, v 158 = w → v 159 = dd → peO bi p0 2 v τ (wr τ4 159 (4 * bi + p0) dd) := fun v h1 h2 => peO.wo (l := 1) (((O2 v h1).fa F3).fa F4) (by omega) h2
          have C4 : CdM bi cd' (wr τ4 159 (4 * bi + p0) dd) := (C3.fa F4).wo (by omega)
          refine m_mustW (i := 2) (d := d + 1) hn hr t6 (by omega) rfl (H4.wo (by omega)) (fun ev5 t7 t8 nb5 τ5 H5 F5 => ⟨rfl, ?_⟩) (fun k p hk ev5 τ5 R5 F5 => ⟨rfl, ?_⟩)
          · rw [ev5] at kT kF
            have F5z := F4z.tr F5.z
            have B5 : HbM bi β τ5 := by
              have Ow := (O4 (fun o => if o = 158 then w else dd) rfl rfl).fa F5
              have eo : ∀ o, 142 ≤ o → o ≤ 164 → o ≠ 158 → o ≠ 159 → τ5 o = τ o := fun o h1 h2 h3 h4 => by funext i; rw [Ow o i h1 h2, if_neg (by omega)]
              have e58 : ∀ o i, 142 ≤ o → o ≤ 164 → i ≠ 4 * bi + p0 → τ5 o i = τ o i := fun o i h1 h2 hi => by rw [Ow o i h1 h2, if_neg (by omega)]
              obtain ⟨sH', ⟨N1, N2, N3⟩, D, P, T, R⟩ := B
              obtain ⟨h1, h2, h3, h4', h5, h6, h7, h8⟩ := sH'
              refine ⟨⟨by rw [eo 142 (by omega) (by omega) (by omega) (by omega)]; exact h1, by rw [eo 143 (by omega) (by omega) (by omega) (by omega)]; exact h2, by rw [eo 144 (by omega) (by omega) (by omega) (by omega)]; exact h3, by rw [eo 152 (by omega) (by omega) (by omega) (by omega)]; exact h4', by rw [eo 157 (by omega) (by omega) (by omega) (by omega)]; exact h5, fun j hj => by rw [eo 148 (by omega) (by omega) (by omega) (by omega)]; exact h6 j hj, by rw [eo 163 (by omega) (by omega) (by omega) (by omega)]; exact h7, by rw [eo 164 (by omega) (by omega) (by omega) (by omega)]; exact h8⟩, ⟨fun t q => by rw [eo 145 (by omega) (by omega) (by omega) (by omega)]; exact N1 t q, fun t q => by rw [eo 153 (by omega) (by omega) (by omega) (by omega)]; exact N2 t q, fun t q => by rw [e58 _ _ (by omega) (by omega) (by omega)]; exact N3 t q⟩, ?_, fun t q => ?_, ?_, ?_⟩
              · unfold sD; rw [eo 154 (by omega) (by omega) (by omega) (by omega), eo 155 (by omega) (by omega) (by omega) (by omega), eo 156 (by omega) (by omega) (by omega) (by omega)]; exact D
              · rw [e58 159 _ (by omega) (by omega) (by omega), eo 160 (by omega) (by omega) (by omega) (by omega), eo 161 (by omega) (by omega) (by omega) (by omega), eo 162 (by omega) (by omega) (by omega) (by omega)]; exact P t q
              · unfold hTm; rw [eo 146 (by omega) (by omega) (by omega) (by omega), eo 147 (by omega) (by omega) (by omega) (by omega)]; exact T
              · unfold hRm; rw [eo 149 (by omega) (by omega) (by omega) (by omega), eo 150 (by omega) (by omega) (by omega) (by omega), eo 151 (by omega) (by omega) (by omega) (by omega)]; exact R
            have C5 := C4.fa F5
            refine m_asked (kd := 0) (d := d) hn hb hr t8 (by omega) rfl sh sn B5 H5 (fun ev6 m1 m2 t9 u1 nb6 τ6 H6 F6 => ⟨_, rfl, by omega, by omega, ⟨by omega, ?_⟩, ?_⟩) (fun k p hk ev6 τ6 R6 F6 => ⟨_, rfl, by omega, by omega, by decide, ?_⟩)
            · have : β 0 (5 + 0) ≤ 3 := by show β 0 5 ≤ 3; omega
              omega
            · have ev6 : ∀ K, knP r n (tN r n (tN r n (tN r n (tN r n (tN r n a))))) (β 2) (β 0 5) K = K (tN r n (tN r n (tN r n (tN r n (tN r n (tN r n a)))))) (fnd (β 2) (β 0 5) (tV r n (tN r n (tN r n (tN r n (tN r n (tN r n a))))))) := ev6
              have m1 : 0 ≤ fnd (β 2) (β 0 5) (tV r n (tN r n (tN r n (tN r n (tN r n (tN r n a)))))) := m1
              have m2 : fnd (β 2) (β 0 5) (tV r n (tN r n (tN r n (tN r n (tN r n (tN r n a)))))) < β 0 5 := m2
              rw [ev6] at kT kF
              show M0 E (d + 3) qX11_must_ [vR 140, vL 465726301555] (wr τ6 160 (4 * bi + p0) (fnd (β 2) (β 0 5) (tV r n (tN r n (tN r n (tN r n (tN r n (tN r n a)))))))) _
              generalize htt : fnd (β 2) (β 0 5) (tV r n (tN r n (tN r n (tN r n (tN r n (tN r n a)))))) = tt at *
              have F6z : frZ bi τ (wr τ6 160 (4 * bi + p0) tt) := (F5z.tr F6.z).w (by omega) (inb 160 (by omega) (by omega))
              have O6 : ∀ v : Nat → Int, v 158 = w → v 159 = dd → v 160 = tt → peO bi p0 3 v τ (wr τ6 160 (4 * bi + p0) tt) := fun v h1 h2 h3 => peO.wo (l := 2) (((O4 v h1 h2).fa F5).fa F6) (by omega) h3
              have C6 : CdM bi cd' (wr τ6 160 (4 * bi + p0) tt) := (C5.fa F6).wo (by omega)
              refine m_mustW (i := 14) (d := d + 1) hn hr u1 (by omega) rfl (H6.wo (by omega)) (fun ev7 u2 u3 nb7 τ7 H7 F7 => ⟨rfl, ?_⟩) (fun k p hk ev7 τ7 R7 F7 => ⟨rfl, ?_⟩)
              · rw [ev7] at kT kF
                refine m_number (d := d + 1) hn hr u3 (by decide) (by decide) H7 (fun ev8 l1 l2 u4 u5 nb8 τ8 H8 F8 => ⟨_, rfl, by omega, by omega, ⟨by omega, by omega⟩, ?_⟩) (fun k p hk ev8 v τ8 hv R8 F8 => ⟨_, rfl, by omega, by omega, hv, ?_⟩)
                · rw [ev8] at kT kF
                  generalize hl : tV r n (tN r n (tN r n (tN r n (tN r n (tN r n (tN r n (tN r n a))))))) = l at *
                  have F78 := F7.tr F8
                  have F8z : frZ bi τ (wr τ8 161 (4 * bi + p0) l) := (F6z.tr F78.z).w (by omega) (inb 161 (by omega) (by omega))
                  have O8 : ∀ v : Nat → Int, v 158 = w → v 159 = dd → v 160 = tt → v 161 = l → peO bi p0 4 v τ (wr τ8 161 (4 * bi + p0) l) := fun v h1 h2 h3 h4 => peO.wo (l := 3) ((O6 v h1 h2 h3).fa F78) (by omega) h4
                  have C8 : CdM bi cd' (wr τ8 161 (4 * bi + p0) l) := (C6.fa F78).wo (by omega)
                  refine m_mustW (i := 15) (d := d + 1) hn hr u5 (by omega) rfl (H8.wo (by omega)) (fun ev9 u6 u7 nb9 τ9 H9 F9 => ⟨rfl, ?_⟩) (fun k p hk ev9 τ9 R9 F9 => ⟨rfl, r5 k p hk (kF k p hk (ev9 _ (fun b z _ => bz_nu z))) τ9 R9 (F8z.tr F9.z)⟩)
                  rw [ev9] at kT kF
                  refine m_number (d := d + 1) hn hr u7 (by decide) (by decide) H9 (fun evx x1 x2 u8 u9 nbx τx Hx Fx => ⟨_, rfl, by omega, by omega, ⟨by omega, by omega⟩, fun q => absurd Hx.2.2.1 q, fun _ => ?_⟩) (fun k p hk evx v τx hv Rx Fx => ⟨_, rfl, by omega, by omega, hv, fun _ => rest k p hk (kF k p hk (evx _ (fun b v z _ => bz_r z))) τx Rx (F8z.tr (F9.tr Fx).z) v hv, fun q => by have := Rx.1; omega⟩)
                  rw [evx] at kT
                  generalize hx0 : tV r n (tN r n (tN r n (tN r n (tN r n (tN r n (tN r n (tN r n (tN r n (tN r n a))))))))) = x at *
                  have F9x := F9.tr Fx
                  have h39x := Hx.2.2.2
                  have Ox := peO.wo (l := 4) (x := x) ((O8 (fun o => if o = 158 then w else if o = 159 then dd else if o = 160 then tt else if o = 161 then l else x) rfl rfl rfl rfl).fa F9x) (by omega) rfl
                  have e7x : τx 157 bi = (p0 : Int) := by
                    have := (O8 (fun o => if o = 158 then w else if o = 159 then dd else if o = 160 then tt else if o = 161 then l else x) rfl rfl rfl rfl).fa F9x 157 bi (by omega) (by omega)
                    rw [this, if_neg (by omega)]; exact e7
                  rw [h39x, Int.toNat_natCast, e7x]
                  refine ⟨by omega, by omega, by omega, by omega, ⟨by omega, by omega⟩, kT _ _ _ _ rfl nbx _ ((Hx.wo (by omega)).wo (by omega)) (pe_finM B sh ep (fun o a1 a2 a3 a4 => ?_) (fun o i a1 a2 a3 => ?_) wr_same ?_ ?_ ?_ ?_ ?_) (((C8.fa F9x).wo (by omega)).wo (by omega)) (((F8z.tr F9x.z).w (by omega) (inb 162 (by omega) (by omega))).w (by omega) (by show 1 * bi ≤ bi ∧ bi < 1 * bi + 1; omega))⟩
                  · funext i; rw [wr_obj a3, Ox o i a1 a2, if_neg (by omega)]
                  · rw [wr_obj (by omega), Ox o i (by omega) (by omega), if_neg (by omega)]
                  · rw [wr_obj (by omega), Ox 158 _ (by omega) (by omega), if_pos (by omega)]; rfl
                  · rw [wr_obj (by omega), Ox 159 _ (by omega) (by omega), if_pos (by omega)]; rfl
                  · rw [wr_obj (by omega), Ox 160 _ (by omega) (by omega), if_pos (by omega)]; rfl
                  · rw [wr_obj (by omega), Ox 161 _ (by omega) (by omega), if_pos (by omega)]; rfl
                  · rw [wr_obj (by omega), Ox 162 _ (by omega) (by omega), if_pos (by omega)]; rfl
                · have K := kF k p hk (ev8 _ (fun b v z _ => bz_wd z))
                  have R8' : PF k p (wr τ8 161 (4 * bi + p0) v) := R8.wo (by omega)
                  exact m_mustF hk R8' ⟨rfl, r5 k p hk K _ R8' ((F6z.tr (F7.tr F8).z).w (by omega) (inb 161 (by omega) (by omega)))⟩
              · have K := kF k p hk (ev7 _ (fun b z _ => bz_nu z))
                have R7' : PF k p (wr τ7 161 (4 * bi + p0) 0) := R7.wo (by omega)
                exact m_numberF hk R7 ⟨_, rfl, by omega, by omega, by decide, m_mustF hk R7' ⟨rfl, r5 k p hk K _ R7' ((F6z.tr F7.z).w (by omega) (inb 161 (by omega) (by omega)))⟩⟩
            · have K := kF k p hk (ev6 _ (fun b v z _ => bz_wd z))
              have R6' : PF k p (wr τ6 160 (4 * bi + p0) 0) := R6.wo (by omega)
              have R7' : PF k p (wr (wr τ6 160 (4 * bi + p0) 0) 161 (4 * bi + p0) 0) := R6'.wo (by omega)
              exact m_mustF hk R6' ⟨rfl, m_numberF hk R6' ⟨_, rfl, by omega, by omega, by decide, m_mustF hk R7' ⟨rfl, r5 k p hk K _ R7' (((F5z.tr F6.z).w (by omega) (inb 160 (by omega) (by omega))).w (by omega) (inb 161 (by omega) (by omega)))⟩⟩⟩
          · have K := kF k p hk (ev5 _ (fun b z _ => bz_kn z))
            have R6' : PF k p (wr τ5 160 (4 * bi + p0) 0) := R5.wo (by omega)
            have R7' : PF k p (wr (wr τ5 160 (4 * bi + p0) 0) 161 (4 * bi + p0) 0) := R6'.wo (by omega)
            exact m_askedF hk R5 ⟨_, rfl, by omega, by omega, by decide, m_mustF hk R6' ⟨rfl, m_numberF hk R6' ⟨_, rfl, by omega, by omega, by decide, m_mustF hk R7' ⟨rfl, r5 k p hk K _ R7' (((F4z.tr F5.z).w (by omega) (inb 160 (by omega) (by omega))).w (by omega) (inb 161 (by omega) (by omega)))⟩⟩⟩⟩
        · have K := kF k p hk (ev4 _ (fun b v z _ => bz_wd z))
          have R4' : PF k p (wr τ4 159 (4 * bi + p0) 0) := R4.wo (by omega)
          have R6' : PF k p (wr (wr τ4 159 (4 * bi + p0) 0) 160 (4 * bi + p0) 0) := R4'.wo (by omega)
          have R7' : PF k p (wr (wr (wr τ4 159 (4 * bi + p0) 0) 160 (4 * bi + p0) 0) 161 (4 * bi + p0) 0) := R6'.wo (by omega)
          exact m_mustF hk R4' ⟨rfl, m_askedF hk R4' ⟨_, rfl, by omega, by omega, by decide, m_mustF hk R6' ⟨rfl, m_numberF hk R6' ⟨_, rfl, by omega, by omega, by decide, m_mustF hk R7' ⟨rfl, r5 k p hk K _ R7' ((((F3z.tr F4.z).w (by omega) (inb 159 (by omega) (by omega))).w (by omega) (inb 160 (by omega) (by omega))).w (by omega) (inb 161 (by omega) (by omega)))⟩⟩⟩⟩⟩
      · have K := kF k p hk (ev3 _ (fun b z _ => bz_kn z))
        have R4' : PF k p (wr τ3 159 (4 * bi + p0) 0) := R3.wo (by omega)
        have R6' : PF k p (wr (wr τ3 159 (4 * bi + p0) 0) 160 (4 * bi + p0) 0) := R4'.wo (by omega)
        have R7' : PF k p (wr (wr (wr τ3 159 (4 * bi + p0) 0) 160 (4 * bi + p0) 0) 161 (4 * bi + p0) 0) := R6'.wo (by omega)
        exact m_askedF hk R3 ⟨_, rfl, by omega, by omega, by decide, m_mustF hk R4' ⟨rfl, m_askedF hk R4' ⟨_, rfl, by omega, by omega, by decide, m_mustF hk R6' ⟨rfl, m_numberF hk R6' ⟨_, rfl, by omega, by omega, by decide, m_mustF hk R7' ⟨rfl, r5 k p hk K _ R7' ((((F2z.tr F3.z).w (by omega) (inb 159 (by omega) (by omega))).w (by omega) (inb 160 (by omega) (by omega))).w (by omega) (inb 161 (by omega) (by omega)))⟩⟩⟩⟩⟩⟩
    · have K := kF k p hk (ev _ (fun b v z _ => bz_wd z))
      have R2' : PF k p (wr τ2 158 (4 * bi + p0) v) := R2.wo (by omega)
      have R4' : PF k p (wr (wr τ2 158 (4 * bi + p0) v) 159 (4 * bi + p0) 0) := R2'.wo (by omega)
      have R6' : PF k p (wr (wr (wr τ2 158 (4 * bi + p0) v) 159 (4 * bi + p0) 0) 160 (4 * bi + p0) 0) := R4'.wo (by omega)
      have R7' : PF k p (wr (wr (wr (wr τ2 158 (4 * bi + p0) v) 159 (4 * bi + p0) 0) 160 (4 * bi + p0) 0) 161 (4 * bi + p0) 0) := R6'.wo (by omega)
      exact m_mustF hk R2' ⟨rfl, m_askedF hk R2' ⟨_, rfl, by omega, by omega, by decide, m_mustF hk R4' ⟨rfl, m_askedF hk R4' ⟨_, rfl, by omega, by omega, by decide, m_mustF hk R6' ⟨rfl, m_numberF hk R6' ⟨_, rfl, by omega, by omega, by decide, m_mustF hk R7' ⟨rfl, r5 k p hk K _ R7' (((((F1.tr F2).z.w (by omega) (inb 158 (by omega) (by omega))).w (by omega) (inb 159 (by omega) (by omega))).w (by omega) (inb 160 (by omega) (by omega))).w (by omega) (inb 161 (by omega) (by omega)))⟩⟩⟩⟩⟩⟩⟩
  · rw [if_pos (by omega)] at kF
    exact bX11_person_19 (d := d + 3) (m_counts (b := true) (d := d + 1) hn hr ha k2 H (fun q => ff_tt q) (fun q => ff_tt q) (fun _ τ1 R1 F1 => ⟨false, rfl, fun q => tt_ff q, fun _ => kF 5 _ (by omega) (Or.inl rfl) τ1 R1 F1.z⟩))
end MSt3
