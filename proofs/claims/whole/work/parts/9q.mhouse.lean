/-! the reference reads a house -/
theorem fm_wr_o {τ : mm_Mem} {o k o' : Nat} {z : Int} (h : o' ≠ o) : fm (wr τ o k z) o' = fm τ o' := by
  funext j; unfold fm; rw [wr_obj h]
theorem fm_wr_k {τ : mm_Mem} {o k j : Nat} {z : Int} (h : j ≠ k) : fm (wr τ o k z) o j = fm τ o j := by
  unfold fm; rw [wr_row h]
set_option maxRecDepth 100000 in
theorem SH_140 (L : Nat) : (mm_SH L).getD 140 (.inr 99) = .inr 11 := rfl
/-- a long cell holds what its number is worth as a long -/
theorem V0_norm {E : mm_Env} {d : Nat} {q : mm_Y} {pc : Nat} {ls : List (Option mm_PV)} {st : List mm_PV} {τ : mm_Mem} {Q : mm_Q0} {z : Int} (hz : Int64.ofInt z = Int64.ofInt (τ 140 7)) (K : V0 E d q pc ls st (wr τ 140 7 z) Q) : V0 E d q pc ls st τ Q := by
  intro p l e s m args below meth c H locs la QM hC hR hS hL hret
  have r7 : mm_R0 140 7 = none := rfl
  have eW : mm_W E (mm_SH E.2.2.2.2) (fm (wr τ 140 7 z)) = mm_W E (mm_SH E.2.2.2.2) (fm τ) := by
    unfold mm_W
    apply List.map_congr_left
    intro i _
    by_cases h : i + 2 = 140
    · rw [h, SH_140]
      unfold mm_E mm_fs
      have : (List.range (mm_N 11)).map (fun k => mm_fv E (mm_ty 11 k) (fm (wr τ 140 7 z) 140 k)) = (List.range (mm_N 11)).map (fun k => mm_fv E (mm_ty 11 k) (fm τ 140 k)) := by
        apply List.map_congr_left
        intro k _
        by_cases hk : k = 7
        · subst hk
          rw [fm_none r7, fm_none r7, wr_same]
          show Value.long (Int64.ofInt z) = Value.long (Int64.ofInt (τ 140 7))
          rw [hz]
        · rw [fm_wr_k hk]
      simp only [this]
    · rw [fm_wr_o h]
  refine K p l e s m args below meth c H locs la QM hC ?_ hS hL hret
  obtain ⟨h1, h2, h3, h4, h5, h6⟩ := hR
  refine ⟨by rw [eW]; exact h1, h2, h3, ?_, h5, fun o k kd q1 q2 => ?_⟩
  · have : (fun k => Int32.ofInt (fm (wr τ 140 7 z) 1 k)) = fun k => Int32.ofInt (fm τ 1 k) := by rw [fm_wr_o (by omega)]
    rw [this]; exact h4
  · by_cases h : o = 140
    · subst h
      by_cases hk : k = 7
      · subst hk
        have e : (mm_SH E.2.2.2.2)[140]? = some (.inr 11) := KD_SH _ (by omega) rfl
        rw [e] at q1
        cases q1
        exact absurd q2 (by decide)
      · rw [fm_wr_k hk]; exact h6 140 k kd q1 q2
    · rw [fm_wr_o h]; exact h6 o k kd q1 q2
section MHouse
variable {E : mm_Env} {d : Nat} {τ : mm_Mem} {Q : mm_Q0} {r : Nat → Int} {n bi : Nat} {a : Nat} {β : mm_Mem} {cd cd' : List Int}
theorem m_isWordG {x : Int} (hx : inL x) (k1 : ∀ b τ', (∀ o, o ≠ 140 → τ' o = τ o) → (∀ i, i ≠ 7 → τ' 140 i = τ 140 i) → Q (some (vB b)) τ') : M0 E d qX11_isWord [vR 140, vL x] τ Q := by
  refine M0_of rfl (Nat.le_of_ble_eq_true rfl) [some (vR 140), some (vL x), none] rfl (V0_norm (z := (Int64.ofInt (τ 140 7)).toInt) (Int64.ofInt_toInt _) (bX11_isWord_0 ?_))
  have K := fun b => k1 b (wr τ 140 7 (Int64.ofInt (τ 140 7)).toInt) (fun o ho => wr_obj ho) (fun i hi => wr_row hi)
  refine ⟨fun _ => K false, fun _ => ⟨?_, hx, fun _ => K false, fun _ => K true⟩⟩
  rw [wr_same]; exact zm_inL _
/-- the counts, before the head -/
def ZM (bi : Nat) (τ : mm_Mem) : Prop := τ 144 bi = 0 ∧ τ 152 bi = 0 ∧ τ 157 bi = 0 ∧ (∀ j, j < 3 → τ 148 (3 * bi + j) = 0) ∧ τ 163 bi = 1 ∧ τ 164 bi = 1
theorem he_finM {v w : Int} {τ' : mm_Mem} (Z : ZM bi τ) (e : ∀ o, 144 ≤ o → o ≤ 164 → τ' o = τ o) (h0 : τ' 142 bi = v) (h1 : τ' 143 bi = w) : HbM bi (heE v w) τ' := by
  obtain ⟨z1, z2, z3, z4, z5, z6⟩ := Z
  have H5 : heE v w 0 5 = 0 := rfl
  have H6 : heE v w 0 6 = 0 := rfl
  have H7 : heE v w 0 7 = 0 := rfl
  have H8 : ∀ k, k < 3 → heE v w 0 (8 + k) = 0 := fun k hk => by unfold heE; rw [wr_row (by omega), wr_row (by omega)]; unfold be0; rw [if_pos rfl, if_neg (by omega)]
  refine ⟨⟨?_, ?_, ?_, ?_, ?_, fun j hj => ?_, ?_, ?_⟩, ⟨fun t q => by omega, fun t q => by omega, fun t q => by omega⟩, fun t q => by omega, fun t q => by omega, fun t q => by omega, fun k j hk q => by rw [H8 k hk] at q; omega⟩
  · rw [h0]; rfl
  · rw [h1]; rfl
  · rw [e 144 (by omega) (by omega), z1]; rfl
  · rw [e 152 (by omega) (by omega), z2]; rfl
  · rw [e 157 (by omega) (by omega), z3]; rfl
  · rw [e 148 (by omega) (by omega), z4 j hj, H8 j hj]
  · rw [e 163 (by omega) (by omega), z5]; rfl
  · rw [e 164 (by omega) (by omega), z6]; rfl
theorem m_beginning (hn : n ≤ 1600) (hb : bi < 2) (hr : ∀ i, 0 ≤ r i ∧ r i ≤ 255) (Z : ZM bi τ) (H : PQ r n bi 0 τ) (C : CdM bi [] τ) (kT : ∀ a1 β1 c1 c1', heP r n = .inr (a1, β1, c1, c1') → tBb r n a1 = false → ∀ τ', PQ r n bi a1 τ' → HbM bi β1 τ' → CdM bi c1' τ' → frZ bi τ τ' → Q none τ') (kF : ∀ k p, 1 ≤ k → beP r n (heP r n) k p → ∀ τ', PF k p τ' → frZ bi τ τ' → Q none τ') : M0 E (d + 3) qX11_beginning [vR 140] τ Q := by
  obtain ⟨X, T, h8, h39⟩ := id H
  have b1 : ∀ {σ : mm_Mem} {v : Int}, frZ bi τ σ → frZ bi τ (wr σ 142 bi v) := fun F => F.w (by omega) (by show 1 * bi ≤ bi ∧ bi < 1 * bi + 1; omega)
  have b2 : ∀ {σ : mm_Mem} {v : Int}, frZ bi τ σ → frZ bi τ (wr σ 143 bi v) := fun F => F.w (by omega) (by show 1 * bi ≤ bi ∧ bi < 1 * bi + 1; omega)
  unfold heP at kT kF
  refine mX11_beginning (d := d + 2) (m_isWord (i := 0) (Nat.zero_le _) hr (by omega) rfl (fun _ => X.2) T ⟨_, rfl, fun y => ?_, fun y => ?_⟩)
  · have t0 := tW_n (Nat.zero_le _) hr y
    rw [wd_t y] at kT kF
    refine bX11_beginning_19 (d := d + 2) ⟨fun _ => m_next (d := d + 1) hn hr (Nat.zero_le _) (by rw [(tW_k y).1]; omega) H (fun nb τ1 H1 F1 => ⟨rfl, ?_⟩) (fun z τ1 R1 F1 => ⟨rfl, ?_⟩), fun q => by omega⟩
    · have h391 := H1.2.2.2
      rw [h391, Int.toNat_natCast]
      refine m_number (d := d) hn hr t0.2 (by decide) (by decide) H1 (fun ev2 l1 l2 t1 t2 nb2 τ2 H2 F2 => ⟨_, rfl, by omega, by omega, ⟨by omega, by omega⟩, ?_⟩) (fun k p hk ev2 v τ2 hv R2 F2 => ⟨_, rfl, by omega, by omega, hv, ?_⟩)
      · rw [ev2] at kT kF
        have F12 := F1.tr F2
        refine m_mustW (i := 1) (d := d) hn hr t2 (by omega) rfl (H2.wo (by omega)) (fun ev3 t3 t4 nb3 τ3 H3 F3 => ⟨rfl, ?_⟩) (fun k p hk ev3 τ3 R3 F3 => ⟨rfl, ?_⟩)
        · rw [ev3] at kT kF
          have h393 := H3.2.2.2
          rw [h393, Int.toNat_natCast]
          have F3z := (b1 F12.z (v := tV r n (tN r n 0))).tr F3.z
          refine m_number (d := d) hn hr t4 (by decide) (by decide) H3 (fun ev4 m1 m2 t5 t6 nb4 τ4 H4 F4 => ⟨_, rfl, by omega, by omega, ⟨by omega, by omega⟩, fun q => absurd H4.2.2.1 q, fun _ => ?_⟩) (fun k p hk ev4 v τ4 hv R4 F4 => ⟨_, rfl, by omega, by omega, hv, fun _ => kF k p hk (ev4 _ (fun b v z _ => bz_sg z)) _ (R4.wo (by omega)) (b2 (F3z.tr F4.z)), fun q => by have := R4.1; omega⟩)
          rw [ev4] at kT kF
          have F4z := b2 (F3z.tr F4.z) (v := tV r n (tN r n (tN r n (tN r n 0))))
          refine m_mustS (d := d) hn hr t6 (by decide) (H4.wo (by omega)) (fun ev5 t7 t8 nb5 τ5 H5 F5 => ⟨rfl, kT _ _ _ _ (by rw [ev5]) nb5 τ5 H5 (he_finM Z (fun o h1 h2 => ?_) ?_ ?_) ((((C.fa F12).wo (by omega)).fa (F3.tr F4)).wo (by omega) |>.fa F5) (F4z.tr F5.z)⟩) (fun k p hk ev5 τ5 R5 F5 => ⟨rfl, kF k p hk (ev5 _ (fun b z _ => bz_r z)) τ5 R5 (F4z.tr F5.z)⟩)
          · rw [F5.1 o (by omega), wr_obj (by omega), F4.1 o (by omega), F3.1 o (by omega), wr_obj (by omega), F12.1 o (by omega)]
          · rw [F5.1 142 (by omega), wr_obj (by omega), F4.1 142 (by omega), F3.1 142 (by omega), wr_same]
          · rw [F5.1 143 (by omega), wr_same]
        · have K := kF k p hk (ev3 _ (fun b z _ => bz_nu z))
          have h393 : τ3 140 39 = (bi : Int) := by rw [F3.2 39 (by omega), wr_obj (by omega), F2.2 39 (by omega)]; exact h391
          rw [h393, Int.toNat_natCast]
          exact m_numberF hk R3 ⟨_, rfl, by omega, by omega, by decide, fun _ => K _ (R3.wo (by omega)) (b2 ((b1 F12.z).tr F3.z)), fun q => by have := R3.1; omega⟩
      · have K := kF k p hk (ev2 _ (fun b v z _ => bz_wd z))
        have R2' : PF k p (wr τ2 142 bi v) := R2.wo (by omega)
        have h392 : wr τ2 142 bi v 140 39 = (bi : Int) := by rw [wr_obj (by omega), F2.2 39 (by omega)]; exact h391
        refine m_mustF hk R2' ⟨rfl, ?_⟩
        rw [h392, Int.toNat_natCast]
        exact m_numberF hk R2' ⟨_, rfl, by omega, by omega, by decide, fun _ => K _ (R2'.wo (by omega)) (b2 (b1 (F1.tr F2).z)), fun q => by have := R2'.1; omega⟩
    · have K := kF 1 _ (by omega) (bz_nu z)
      have h391 : τ1 140 39 = (bi : Int) := by rw [F1.2 39 (by omega)]; exact h39
      rw [h391, Int.toNat_natCast]
      have R2' : PF 1 (tPl r n (tN r n 0)) (wr τ1 142 bi 0) := R1.wo (by omega)
      have h392 : wr τ1 142 bi 0 140 39 = (bi : Int) := by rw [wr_obj (by omega)]; exact h391
      refine m_numberF (Nat.le_refl 1) R1 ⟨_, rfl, by omega, by omega, by decide, m_mustF (Nat.le_refl 1) R2' ⟨rfl, ?_⟩⟩
      rw [h392, Int.toNat_natCast]
      exact m_numberF (Nat.le_refl 1) R2' ⟨_, rfl, by omega, by omega, by decide, fun _ => K _ (R2'.wo (by omega)) (b2 (b1 F1.z)), fun q => by have := R2'.1; omega⟩
  · have K := kF 1 (tPl r n 0) (by omega) (Or.inl (wd_f y))
    exact m_bl (k := 1) (by omega) hn (Nat.zero_le _) hr H (fun τ' R _ _ F => ⟨rfl, bX11_beginning_19 (d := d + 2) ⟨fun q => by have := R.1; omega, fun _ => K τ' R F.z⟩⟩)
theorem m_beginningF {k p : Nat} (hk : 1 ≤ k) (R : PF k p τ) (k1 : ∀ τ', PF k p τ' → frA τ τ' → Q none τ') : M0 E (d + 1) qX11_beginning [vR 140] τ Q := by
  refine mX11_beginning (m_isWordG (by decide) (fun b τ' F G => ?_))
  have R' : PF k p τ' := ⟨by rw [G 8 (by omega)]; exact R.1, by rw [G 9 (by omega)]; exact R.2⟩
  have e := k1 τ' R' ⟨F, fun i hi => G i (by omega)⟩
  have v19 : V0 E (d + 1) qX11_beginning 19 [some (vR 140)] [] τ' Q := bX11_beginning_19 ⟨fun q => by have := R'.1; omega, fun _ => e⟩
  exact ⟨_, rfl, fun _ => v19, fun _ => m_blameF hk R' ⟨rfl, v19⟩⟩
theorem m_statement (hn : n ≤ 1600) (hb : bi < 2) (hr : ∀ i, 0 ≤ r i ∧ r i ≤ 255) (S : SIn n a β cd cd') (B : HbM bi β τ) (H : PQ r n bi a τ) (C : CdM bi cd' τ) (kT : ∀ a1 β1 c1 c1', stP r n a β cd cd' = .inr (a1, β1, c1, c1') → tBb r n a1 = false → ∀ τ', PQ r n bi a1 τ' → HbM bi β1 τ' → CdM bi c1' τ' → frZ bi τ τ' → Q none τ') (kF : ∀ k p, 1 ≤ k → beP r n (stP r n a β cd cd') k p → ∀ τ', PF k p τ' → frZ bi τ τ' → Q none τ') : M0 E (d + 6) qX11_statement [vR 140] τ Q := by
  have ha := S.1
  have T := H.2.1
  have W : wdM τ := fun _ => H.1.2
  have sp := si_sa (r := r) hn hr S
  -- behind what was read
  have good : ∀ a1 β1 c1 c1', saP r n a β cd cd' = .inr (a1, β1, c1, c1') → tBb r n a1 = false → ∀ τ', PQ r n bi a1 τ' → HbM bi β1 τ' → CdM bi c1' τ' → frZ bi τ τ' → (none : Option mm_PV) = none ∧ (((τ' 140 8) ≠ 0 → Q none τ') ∧ ((τ' 140 8) = 0 → M0 E (d + 5) qX11_must [vR 140, vI 59] τ' (fun v τ39 => v = none ∧ Q none τ39))) := fun a1 β1 c1 c1' e nb τ' H1 B1 C1 F1 => by
    rw [e] at sp
    have S1 : SIn n a1 β1 c1 c1' := sp.2
    refine ⟨rfl, fun q => absurd H1.2.2.1 q, fun _ => m_mustS (d := d + 3) hn hr S1.1 (by decide) H1 (fun ev t1 t2 nb2 τ2 H2 F2 => ⟨rfl, kT _ _ _ _ (by unfold stP; rw [e, bs_r, ev]) nb2 τ2 H2 (B1.fa F2) (C1.fa F2) (F1.tr F2.z)⟩) (fun k p hk ev τ2 R2 F2 => ⟨rfl, kF k p hk (by unfold stP; rw [e, bs_r]; exact ev _ (fun b z _ => bz_r z)) τ2 R2 (F1.tr F2.z)⟩)⟩
  have bad : ∀ k p, 1 ≤ k → beP r n (saP r n a β cd cd') k p → ∀ τ', PF k p τ' → frZ bi τ τ' → (none : Option mm_PV) = none ∧ (((τ' 140 8) ≠ 0 → Q none τ') ∧ ((τ' 140 8) = 0 → M0 E (d + 5) qX11_must [vR 140, vI 59] τ' (fun v τ39 => v = none ∧ Q none τ39))) := fun k p hk e τ' R F => by
    refine ⟨rfl, fun _ => kF k p hk ?_ τ' R F, fun q => by have := R.1; omega⟩
    unfold stP
    rcases e with e | ⟨a1, β1, c1, c1', e, h1, h2, h3⟩
    · rw [e, bs_l]; exact Or.inl rfl
    · rw [e, bs_r]; subst h2; subst h3; exact bz_sg h1
  refine mX11_statement (d := d + 5) (m_isWord (i := 2) ha hr (by omega) rfl W T ⟨_, rfl, fun n2 => ?_, fun y => ?_⟩)
  · refine m_isWord (i := 4) ha hr (by omega) rfl W T ⟨_, rfl, fun n4 => ?_, fun y => ?_⟩
    · refine m_isWord (i := 5) ha hr (by omega) rfl W T ⟨_, rfl, fun n5 => ?_, fun y => ?_⟩
      · refine m_isWord (i := 6) ha hr (by omega) rfl W T ⟨_, rfl, fun n6 => ?_, fun y => ?_⟩
        · refine m_isWord (i := 7) ha hr (by omega) rfl W T ⟨_, rfl, fun n7 => ?_, fun y => ?_⟩
          · refine m_isWord (i := 13) ha hr (by omega) rfl W T ⟨_, rfl, fun n13 => ?_, fun y => ?_⟩
            · refine m_isWord (i := 16) ha hr (by omega) rfl W T ⟨_, rfl, fun n16 => ?_, fun y => ?_⟩
              · refine m_bl (k := 1) (by omega) hn ha hr H (fun τ' R _ _ F => bad 1 _ (by omega) (Or.inl (sa_no (fun i hi y => ?_))) τ' R F.z)
                rcases hi with h | h | h | h | h | h | h <;> subst h
                · rw [n2] at y; cases y
                · rw [n4] at y; cases y
                · rw [n5] at y; cases y
                · rw [n6] at y; cases y
                · rw [n7] at y; cases y
                · rw [n13] at y; cases y
                · rw [n16] at y; cases y
              · have e := sa_w (β := β) (cd := cd) (cd' := cd') (by omega) y
                rw [if_neg (by omega), if_neg (by omega), if_neg (by omega), if_neg (by omega), if_neg (by omega), if_neg (by omega)] at e
                rw [e] at good bad
                exact m_worths (d := d + 2) hn hb hr S y B H C good bad
            · have e := sa_w (β := β) (cd := cd) (cd' := cd') (by omega) y
              rw [if_neg (by omega), if_neg (by omega), if_neg (by omega), if_neg (by omega), if_neg (by omega), if_pos rfl] at e
              rw [e] at good bad
              exact m_person (d := d + 1) hn hb hr S y B H C good bad
          · have e := sa_w (β := β) (cd := cd) (cd' := cd') (by omega) y
            rw [if_neg (by omega), if_neg (by omega), if_neg (by omega), if_neg (by omega), if_pos rfl] at e
            rw [e] at good bad
            exact m_door (d := d + 1) hn hb hr S y B H C good bad
        · have e := sa_w (β := β) (cd := cd) (cd' := cd') (by omega) y
          rw [if_neg (by omega), if_neg (by omega), if_neg (by omega), if_pos rfl] at e
          rw [e] at good bad
          exact m_rule (d := d) (kd := 2) hn hb hr S (by omega) rfl (by rw [(tW_k y).1]; omega) B H C good bad
      · have e := sa_w (β := β) (cd := cd) (cd' := cd') (by omega) y
        rw [if_neg (by omega), if_neg (by omega), if_pos rfl] at e
        rw [e] at good bad
        exact m_rule (d := d) (kd := 1) hn hb hr S (by omega) rfl (by rw [(tW_k y).1]; omega) B H C good bad
    · have e := sa_w (β := β) (cd := cd) (cd' := cd') (by omega) y
      rw [if_neg (by omega), if_pos rfl] at e
      rw [e] at good bad
      exact m_rule (d := d) (kd := 0) hn hb hr S (by omega) rfl (by rw [(tW_k y).1]; omega) B H C good bad
  · have e := sa_w (β := β) (cd := cd) (cd' := cd') (by omega) y
    rw [if_pos rfl] at e
    rw [e] at good bad
    exact m_tune (d := d + 1) hn hb hr S y B H C good bad
theorem ho_bad {f m : Nat} (h : tBb r n a = true) : hoP r n (f + 1) m a β cd cd' = .inl (1, tPl r n a) := by
  rw [hoP, if_neg (by rw [tB_k h]; omega)]
  unfold stP
  rw [sa_no (fun i _ => by rw [bad_W h]; decide), bs_l, bs_l]
/-- the loop of statements, to its end -/
theorem m_houseL (hn : n ≤ 1600) (hb : bi < 2) (hr : ∀ i, 0 ≤ r i ∧ r i ≤ 255) : ∀ (f m a : Nat) (β : mm_Mem) (cd cd' : List Int) (τ : mm_Mem), SIn n a β cd cd' → tBb r n a = false → n + 1 ≤ f + a → m ≤ a → HbM bi β τ → PQ r n bi a τ → CdM bi cd' τ → (∀ m1 β1 c1 c1', hoP r n f m a β cd cd' = .inr (m1, β1, c1, c1') → ∀ τ', τ' 140 8 = 0 → τ' 140 9 = -1 → τ' 140 39 = (bi : Int) → HbM bi β1 τ' → CdM bi c1' τ' → frZ bi τ τ' → M0 E (d + 6) qX11_begins [vR 140] (wr (wr (wr τ' 140 10 0) 140 11 (-1)) 140 12 (bi : Int)) (fun v τ6 => v = none ∧ Q (some (vI (m1 : Int))) τ6)) → (∀ k p, 1 ≤ k → hoP r n f m a β cd cd' = .inl (k, p) → ∀ τ', PF k p τ' → frZ bi τ τ' → M0 E (d + 6) qX11_refuses [vR 140, vI 1] (wr (wr τ' 140 10 (k : Int)) 140 11 (p : Int)) (fun v τ7 => ∃ r8 : Int, v = some (vI r8) ∧ Q (some (vI r8)) τ7)) → V0 E (d + 7) qX11_house 130 [some (vR 140), some (vI (m : Int))] [] τ Q := by
  intro f
  induction f with
  | zero => intro m a β cd cd' τ S _ hf; have := S.1; omega
  | succ f ih =>
    intro m a β cd cd' τ S nb hf hm B H C kT kF
    have ha := S.1
    obtain ⟨X, T, h8, h39⟩ := id H
    have k0 : τ 140 3 = 0 ↔ (tk r n a).1 = 0 := by
      rw [T.1, (rf_s (tk_r (r := r) (n := n) ha hr).2.1).2.2.2]
      have : (tk r n a).1 ≠ 1 := of_decide_eq_false nb
      omega
    have sp := si_st (r := r) hn hr S
    rw [hoP] at kT kF
    refine bX11_house_130 (d := d + 6) ⟨fun q => absurd h8 q, fun _ => ⟨fun q => ⟨fun _ => ?_, fun q2 => by omega⟩, fun q => ?_⟩⟩
    · rw [if_pos (k0.mp q)] at kT
      have := kT _ _ _ _ rfl τ h8 X.2 h39 B C frZ.rf
      rw [h8, X.2, h39]; exact this
    · rw [if_neg (fun z => q (k0.mpr z))] at kT kF
      refine m_statement (d := d) hn hb hr S B H C (fun a1 β1 c1 c1' e1 nb1 τ1 H1 B1 C1 F1 => ⟨rfl, ?_⟩) (fun k p hk e1 τ1 R1 F1 => ⟨rfl, ?_⟩)
      · rw [e1] at sp
        rw [e1, bs_r] at kT kF
        rw [show (m : Int) + 1 = ((m + 1 : Nat) : Int) by omega]
        exact ih (m + 1) a1 β1 c1 c1' τ1 sp.2 nb1 (by have := sp.1; omega) (by have := sp.1; omega) B1 H1 C1 (fun m2 β2 c2 c2' e2 τ2 h1 h2 h3 h4 h5 h6 => kT m2 β2 c2 c2' e2 τ2 h1 h2 h3 h4 h5 (F1.tr h6)) (fun k p hk e2 τ2 h1 h2 => kF k p hk e2 τ2 h1 (F1.tr h2))
      · have fl : bdS (stP r n a β cd cd') (fun a1 β1 c1 c1' => hoP r n f (m + 1) a1 β1 c1 c1') = .inl (k, p) := by
          rcases e1 with e1 | ⟨a1, β1, c1, c1', e1, h1, h2, h3⟩
          · rw [e1, bs_l]
          · rw [e1] at sp
            have := sp.2.1
            have := sp.1
            obtain ⟨g, rfl⟩ : ∃ g, f = g + 1 := ⟨f - 1, by omega⟩
            rw [e1, bs_r, ho_bad h1, h2, h3]
        have := kF k p hk fl τ1 R1 F1
        refine bX11_house_130 (d := d + 6) ⟨fun _ => ⟨fun q => by have := R1.1; omega, fun _ => ?_⟩, fun q => by have := R1.1; omega⟩
        rw [R1.1, R1.2]; exact this
end MHouse
