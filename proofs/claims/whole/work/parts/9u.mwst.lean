/-! the reference makes the whistles -/
theorem CodeM.seg {z : Nat} {cd u c w : List Int} {τ : mm_Mem} (h : CodeM z cd τ) (e : cd = u ++ c ++ w) : CodeM (z + u.length) c τ := fun j hj => by
  subst e
  have := h (u.length + j) (by rw [List.length_append, List.length_append]; omega)
  rw [List.getD_eq_getElem?_getD, List.append_assoc, List.getElem?_append_right (by omega), List.getElem?_append_left (by omega), show u.length + j - u.length = j by omega] at this
  rw [List.getD_eq_getElem?_getD, show z + u.length + j = z + (u.length + j) by omega]; exact this
/-- what the reference's rules are read from -/
def RuM (bi : Nat) (β : mm_Mem) (cd' : List Int) (τ : mm_Mem) : Prop := τ 140 12 = (bi : Int) ∧ (∀ k, k < 3 → τ 148 (3 * bi + k) = β 0 (8 + k)) ∧ hRm bi β τ ∧ CodeM (1600 * bi) cd' τ ∧ τ 142 bi = β 0 3 ∧ τ 143 bi = β 0 4
theorem RuM.fr {bi : Nat} {β : mm_Mem} {cd' : List Int} {τ τ' : mm_Mem} (h : RuM bi β cd' τ) (e : ∀ o, 140 ≤ o → o < 173 → τ' o = τ o) : RuM bi β cd' τ' := by
  obtain ⟨h1, h2, h3, h4, h5, h6⟩ := h
  refine ⟨by rw [e 140 (by omega) (by omega)]; exact h1, fun k hk => by rw [e 148 (by omega) (by omega)]; exact h2 k hk, fun k j hk hj => ?_, h4.fr (fun i _ _ => ⟨by rw [e 165 (by omega) (by omega)], by rw [e 166 (by omega) (by omega)]⟩), by rw [e 142 (by omega) (by omega)]; exact h5, by rw [e 143 (by omega) (by omega)]; exact h6⟩
  rw [e 149 (by omega) (by omega), e 150 (by omega) (by omega), e 151 (by omega) (by omega)]; exact h3 k j hk hj
section MWst
variable {E : mm_Env} {d : Nat} {τ : mm_Mem} {Q : mm_Q0} {bi : Nat} {β : mm_Mem} {cd cd' : List Int} {F : Nat → Int}
theorem em_t {v n : Int} (hn : 1 ≤ n) : v % n = if 0 ≤ Int.tmod v n then Int.tmod v n else Int.tmod v n + n := by
  by_cases q : 0 ≤ v
  · rw [tm_pos q, if_pos (Int.emod_nonneg v (by omega))]
  · have t := tm_neg (a := v) (b := n) (by omega) (by omega)
    rw [t]
    have e : Int.tmod v n = -Int.tmod (-v) n := by rw [Int.neg_tmod, Int.neg_neg]
    have p : Int.tmod (-v) n = (-v) % n := tm_pos (by omega)
    have b := Int.emod_nonneg (-v) (show n ≠ 0 by omega)
    by_cases z : Int.tmod v n = 0
    · rw [if_pos z, if_pos (by omega), z]
    · rw [if_neg z, if_neg (by omega)]
theorem m_ruledL {kd : Nat} {m y : Int} (hb : bi < 2) (hk : kd < 3) (H : siH β) (R : siR β cd cd') (hl : cd'.length ≤ 1600) (hm : 1 ≤ m ∧ m ≤ 100) (hF : ∀ i, i < 6 → bd6 (F i)) : ∀ (c j : Nat) (τ : mm_Mem), ((j + c : Nat) : Int) = β 0 (8 + kd) → RuM bi β cd' τ → (∀ i, i < 6 → τ 175 (i + 1) = F i) → (∀ τ', (∀ o, o ≠ 174 → τ' o = τ o) → Q (some (vI (match chG β cd F kd c j with | some v => v % m | none => y))) τ') → V0 E (d + 3) qX11_ruled 17 [some (vR 140), none, some (vI m), some (vI y), some (vI ((3 * bi + kd : Nat) : Int)), some (vI ((18 * bi + (6 * kd + j) : Nat) : Int)), none, none] [] τ Q := by
  have m6 : β 0 (8 + kd) ≤ 6 := by
    obtain ⟨-, ⟨-, b1, -, b2, -, b3⟩, -⟩ := H
    have : kd = 0 ∨ kd = 1 ∨ kd = 2 := by omega
    rcases this with h | h | h <;> subst h
    · exact b1
    · exact b2
    · show β 0 10 ≤ 6; omega
  intro c
  induction c with
  | zero =>
    intro j τ hj S hf k1
    refine bX11_ruled_17 (d := d + 2) ?_
    rw [Int.toNat_natCast, S.2.1 kd hk]
    exact ⟨by omega, by omega, ⟨by omega, by omega⟩, ⟨by omega, by omega⟩, fun _ => k1 τ (fun _ _ => rfl), fun q => by omega⟩
  | succ c ih =>
    intro j τ hj S hf k1
    obtain ⟨u, x, t, w, u', c', t', w', ⟨e, e', -, ⟨a1, a2, a3⟩, -, ⟨o1, v1, o2, v2⟩, bS, bT⟩⟩ := ru_v hF (R kd j hk (by omega))
    obtain ⟨s1, s2, s3, s4, -⟩ := id S
    obtain ⟨r1, r2, r3⟩ := s3 kd j hk (by omega)
    have L : cd'.length = u'.length + c'.length + t'.length + w'.length := by rw [e']; simp only [List.length_append]
    refine bX11_ruled_17 (d := d + 2) ?_
    rw [Int.toNat_natCast, Int.toNat_natCast, s2 kd hk, r2, r3]
    refine ⟨by omega, by omega, ⟨by omega, by omega⟩, ⟨by omega, by omega⟩, fun q => by omega, fun _ => ⟨by omega, by omega, by omega, by omega, ?_⟩⟩
    refine m_works (F := F) (c := t') (z := 1600 * bi + (u' ++ c').length) (v := vTs β cd F (6 * kd + j)) (d := d) hb hF s1 (s4.seg (u := u' ++ c') (c := t') (w := w') e') (by rw [a2]; omega) (by rw [a3]; simp only [List.length_append]; omega) (by simp only [List.length_append]; omega) hf o2 v2 (fun τ1 F1 => ⟨_, rfl, bd6_L (b01_6 bT), fun q => ⟨by omega, by omega, by omega, by omega, ?_⟩, fun q => ?_⟩)
    · rw [chG, if_pos (by omega)] at k1
      have S1 := S.fr (τ' := τ1) (fun o h1 h2 => F1 o (by omega))
      obtain ⟨t1, t2, t3, t4, -⟩ := id S1
      obtain ⟨q1, q2, q3⟩ := t3 kd j hk (by omega)
      rw [q1, q2]
      refine m_works (F := F) (c := c') (z := 1600 * bi + u'.length) (v := vSm β cd F (6 * kd + j)) (d := d) hb hF t1 (t4.seg (u := u') (c := c') (w := t' ++ w') (by rw [e']; simp)) (by rw [a1]; omega) (by rw [a2]; simp only [List.length_append]; omega) (by omega) (fun i hi => by rw [F1 175 (by omega)]; exact hf i hi) o1 v1 (fun τ2 F2 => ⟨_, rfl, ⟨by omega, by omega⟩, bd6_L bS, by omega, ?_⟩)
      have tb := tm_b (l := vSm β cd F (6 * kd + j)) (r := m) (by omega) (by unfold bd6; omega)
      have et := em_t (v := vSm β cd F (6 * kd + j)) hm.1
      have K := k1 τ2 (fun o ho => (F2 o ho).trans (F1 o ho))
      have K : Q (some (vI (vSm β cd F (6 * kd + j) % m))) τ2 := K
      rw [et] at K
      refine ⟨⟨by omega, by omega⟩, fun z => ?_, fun z => ⟨⟨by omega, by omega⟩, ?_⟩⟩
      · rw [if_pos z] at K; exact K
      · rw [if_neg z] at K; exact K
    · have v0 : vTs β cd F (6 * kd + j) = 0 := by rcases bT with h | h <;> omega
      rw [chG, if_neg (by omega)] at k1
      rw [show ((18 * bi + (6 * kd + j) : Nat) : Int) + 1 = ((18 * bi + (6 * kd + (j + 1)) : Nat) : Int) by omega]
      exact ih (j + 1) τ1 (by rw [show j + 1 + c = j + (c + 1) by omega]; exact hj) (S.fr (fun o h1 h2 => F1 o (by omega))) (fun i hi => by rw [F1 175 (by omega)]; exact hf i hi) (fun τ2 F2 => k1 τ2 (fun o ho => (F2 o ho).trans (F1 o ho)))
theorem m_ruled {kd : Nat} {x m y : Int} (hb : bi < 2) (hk : kd < 3) (hx : x = (kd : Int)) (H : siH β) (R : siR β cd cd') (hl : cd'.length ≤ 1600) (hm : 1 ≤ m ∧ m ≤ 100) (hF : ∀ i, i < 6 → bd6 (F i)) (S : RuM bi β cd' τ) (hf : ∀ i, i < 6 → τ 175 (i + 1) = F i) (k1 : ∀ τ', (∀ o, o ≠ 174 → τ' o = τ o) → Q (some (vI (match chP β cd F kd with | some v => v % m | none => y))) τ') : M0 E (d + 3) qX11_ruled [vR 140, vI x, vI m, vI y] τ Q := by
  subst hx
  have b0 : 0 ≤ β 0 (8 + kd) := by
    obtain ⟨-, ⟨b1, -, b2, -, b3, -⟩, -⟩ := H
    have : kd = 0 ∨ kd = 1 ∨ kd = 2 := by omega
    rcases this with h | h | h <;> subst h
    · exact b1
    · exact b2
    · exact b3
  refine mX11_ruled (d := d + 2) ?_
  rw [S.1, show 3 * (bi : Int) + (kd : Int) = ((3 * bi + kd : Nat) : Int) by omega, show 6 * ((3 * bi + kd : Nat) : Int) = ((18 * bi + (6 * kd + 0) : Nat) : Int) by omega]
  exact m_ruledL (d := d) hb hk H R hl hm hF (β 0 (8 + kd)).toNat 0 τ (by omega) S hf k1
def frL (τ τ' : mm_Mem) : Prop := ∀ o, (o < 174 ∨ 178 ≤ o) → τ' o = τ o
theorem m_lays {g : Nat} {x : Int} {s : (Nat → Int) × Int} (hb : bi < 2) (H : siH β) (R : siR β cd cd') (hl : cd'.length ≤ 1600) (w : okW β s) (hg : g + 1 < 3000) (hx : x = (g : Int)) (S : RuM bi β cd' τ) (h6 : ∀ i : Nat, (i : Int) < β 0 4 → τ 176 (5 * g + i) = s.1 i) (h7 : τ 177 g = s.2) (k1 : ∀ τ', (∀ i : Nat, (i : Int) < β 0 4 → τ' 176 (5 * (g + 1) + i) = (nxP β cd s).1 i) → τ' 177 (g + 1) = (nxP β cd s).2 → (∀ j, j < 5 * (g + 1) → τ' 176 j = τ 176 j) → (∀ j, j ≠ g + 1 → τ' 177 j = τ 177 j) → frL τ τ' → Q none τ') : M0 E (d + 4) qX11_lays [vR 140, vI x] τ Q := by
  subst hx
  have h := H.1
  obtain ⟨s12, -, -, -, s42, s43⟩ := id S
  have pr := pl_r (cd := cd) (s := s) H
  have nr := nt_r (cd := cd) (s := s) H
  have kr := kp_r (cd := cd) w
  have w2 := w.2
  -- the end, from a memory in which the notes are copied
  have fin : ∀ σ : mm_Mem, RuM bi β cd' σ → (∀ i : Nat, (i : Int) < β 0 4 → σ 176 (5 * (g + 1) + i) = s.1 i) → (∀ j, j < 5 * (g + 1) → σ 176 j = τ 176 j) → σ 177 = τ 177 → frL τ σ → V0 E (d + 4) qX11_lays 4 [some (vR 140), some (vI (g : Int)), some (vI (smP s.1 (β 0 4).toNat)), some (vI (((β 0 4).toNat : Nat) : Int)), none] [] σ Q := fun σ Sσ c6 e6 e7 Fσ => by
    have f0 := fc_b (old := 0) (here := 0) H w (by omega) (by omega)
    have b0 := f0 0 (by omega)
    have σ6 : ∀ i : Nat, (i : Int) < β 0 4 → σ 176 (5 * g + i) = s.1 i := fun i hi => by rw [e6 _ (by omega)]; exact h6 i hi
    have i1 : (5 * (g : Int)).toNat = 5 * g + 0 := by omega
    have i2 : (5 * (g : Int) + β 0 4 - 1).toNat = 5 * g + ((β 0 4).toNat - 1) := by omega
    obtain ⟨z12, -, -, -, z42, z43⟩ := id Sσ
    refine bX11_lays_4 (d := d + 3) ?_
    rw [z12, Int.toNat_natCast, z43, i1, i2, Int.toNat_natCast, σ6 0 (by omega), σ6 _ (by omega), e7, h7]
    refine ⟨by omega, by omega, ⟨by omega, by omega⟩, fun _ => ⟨bd6_R b0, by omega, by omega, by omega, by omega, by omega, by omega, by omega, by omega, by omega, by omega, ?_⟩, fun q => by omega⟩
    generalize hτ1 : wr (wr (wr (wr (wr (wr σ 175 1 (smP s.1 (β 0 4).toNat)) 175 2 (s.1 0)) 175 3 (s.1 ((β 0 4).toNat - 1))) 175 4 0) 175 5 0) 175 6 s.2 = τ1
    have O1 : ∀ o, o ≠ 175 → τ1 o = σ o := fun o ho => by rw [← hτ1, wr_obj ho, wr_obj ho, wr_obj ho, wr_obj ho, wr_obj ho, wr_obj ho]
    have fc1 : ∀ i, i < 6 → τ1 175 (i + 1) = fcP (β 0 4).toNat s.1 s.2 0 0 i := fun i hi => by
      rw [← hτ1]
      have : i = 0 ∨ i = 1 ∨ i = 2 ∨ i = 3 ∨ i = 4 ∨ i = 5 := by omega
      rcases this with h | h | h | h | h | h <;> subst h <;> simp [wr, fcP]
    clear hτ1
    refine m_ruled (d := d) (kd := 0) hb (by omega) rfl H R hl (by omega) f0 (Sσ.fr (fun o h1 h2 => O1 o (by omega))) fc1 (fun τ2 F2 => ⟨_, rfl, by omega, by omega, ?_⟩)
    show M0 E (d + 3) qX11_ruled [vR 140, vI 2, vI 100, vI (τ2 177 g)] τ2 _
    have epl : (match chP β cd (fcP (β 0 4).toNat s.1 s.2 0 0) 0 with | some v => v % β 0 4 | none => 0) = plP β cd s.1 s.2 := rfl
    rw [epl]
    have O2 : ∀ o, o ≠ 174 → o ≠ 175 → τ2 o = σ o := fun o p q => (F2 o p).trans (O1 o q)
    have e72 : τ2 177 g = s.2 := by rw [O2 177 (by omega) (by omega), e7]; exact h7
    rw [e72]
    refine m_ruled (d := d) (kd := 2) hb (by omega) rfl H R hl (by omega) f0 (Sσ.fr (fun o h1 h2 => O2 o (by omega) (by omega))) (fun i hi => by rw [F2 175 (by omega)]; exact fc1 i hi) (fun τ3 F3 => ⟨_, rfl, by omega, by omega, ?_⟩)
    have ekp : (match chP β cd (fcP (β 0 4).toNat s.1 s.2 0 0) 2 with | some v => v % 100 | none => s.2) = kpP β cd s.1 s.2 := rfl
    rw [ekp]
    have O3 : ∀ o, o ≠ 174 → o ≠ 175 → τ3 o = σ o := fun o p q => (F3 o p).trans (O2 o p q)
    have z3 := Sσ.fr (τ' := τ3) (fun o h1 h2 => O3 o (by omega) (by omega))
    obtain ⟨y12, -, -, -, y42, y43⟩ := id z3
    have ip : (5 * (g : Int) + plP β cd s.1 s.2).toNat = 5 * g + (plP β cd s.1 s.2).toNat := by omega
    have e63 : τ3 176 (5 * g + (plP β cd s.1 s.2).toNat) = s.1 (plP β cd s.1 s.2).toNat := by rw [O3 176 (by omega) (by omega)]; exact σ6 _ (by omega)
    have wo := w.1 (plP β cd s.1 s.2).toNat (by omega)
    rw [ip, e63, y12, Int.toNat_natCast, y42, show ((g : Int) + 1).toNat = g + 1 by omega]
    refine ⟨⟨by omega, by omega⟩, by omega, by omega, ⟨by omega, by omega⟩, by omega, by omega, by omega, by omega, ⟨by omega, by omega⟩, by omega, ?_⟩
    have f1 := fc_b (old := s.1 (plP β cd s.1 s.2).toNat) (here := plP β cd s.1 s.2) H w (by omega) (by omega)
    generalize hτ4 : wr (wr (wr τ3 177 (g + 1) (kpP β cd s.1 s.2)) 175 4 (s.1 (plP β cd s.1 s.2).toNat)) 175 5 (plP β cd s.1 s.2) = τ4
    have O4 : ∀ o, o ≠ 175 → o ≠ 177 → τ4 o = τ3 o := fun o p q => by rw [← hτ4, wr_obj p, wr_obj p, wr_obj q]
    have e74 : ∀ j, τ4 177 j = if j = g + 1 then kpP β cd s.1 s.2 else τ3 177 j := fun j => by
      rw [← hτ4, wr_obj (by omega), wr_obj (by omega)]
      by_cases q : j = g + 1
      · subst q; rw [wr_same, if_pos rfl]
      · rw [wr_row q, if_neg q]
    have fc4 : ∀ i, i < 6 → τ4 175 (i + 1) = fcP (β 0 4).toNat s.1 s.2 (s.1 (plP β cd s.1 s.2).toNat) (plP β cd s.1 s.2) i := fun i hi => by
      rw [← hτ4]
      have q : ∀ i, i < 6 → τ3 175 (i + 1) = fcP (β 0 4).toNat s.1 s.2 0 0 i := fun i hi => by rw [F3 175 (by omega), F2 175 (by omega)]; exact fc1 i hi
      have : i = 0 ∨ i = 1 ∨ i = 2 ∨ i = 3 ∨ i = 4 ∨ i = 5 := by omega
      rcases this with h | h | h | h | h | h <;> subst h
      · rw [wr_row (by omega), wr_row (by omega), wr_obj (by omega), q 0 (by omega)]; rfl
      · rw [wr_row (by omega), wr_row (by omega), wr_obj (by omega), q 1 (by omega)]; rfl
      · rw [wr_row (by omega), wr_row (by omega), wr_obj (by omega), q 2 (by omega)]; rfl
      · rw [wr_row (by omega), wr_same]; rfl
      · rw [wr_same]; rfl
      · rw [wr_row (by omega), wr_row (by omega), wr_obj (by omega), q 5 (by omega)]; rfl
    clear hτ4
    refine m_ruled (d := d) (kd := 1) hb (by omega) rfl H R hl (by omega) f1 (z3.fr (fun o h1 h2 => O4 o (by omega) (by omega))) fc4 (fun τ5 F5 => ⟨_, rfl, by omega, by omega, ?_⟩)
    have ent : (match chP β cd (fcP (β 0 4).toNat s.1 s.2 (s.1 (plP β cd s.1 s.2).toNat) (plP β cd s.1 s.2)) 1 with | some v => v % β 0 3 | none => Int.tmod (s.1 (plP β cd s.1 s.2).toNat + 1) (β 0 3)) = ntP β cd s.1 s.2 := by
      unfold ntP
      cases chP β cd (fcP (β 0 4).toNat s.1 s.2 (s.1 (plP β cd s.1 s.2).toNat) (plP β cd s.1 s.2)) 1 with
      | none => exact tm_pos (by omega)
      | some v => rfl
    rw [ent, show (5 * ((g : Int) + 1) + plP β cd s.1 s.2).toNat = 5 * (g + 1) + (plP β cd s.1 s.2).toNat by omega]
    have O5 : ∀ o, o ≠ 174 → o ≠ 175 → o ≠ 177 → τ5 o = σ o := fun o p q r => ((F5 o p).trans (O4 o q r)).trans (O3 o p q)
    refine ⟨⟨by omega, by omega⟩, k1 _ (fun i hi => ?_) ?_ (fun j hj => ?_) (fun j hj => ?_) (fun o ho => ?_)⟩
    · show _ = (if (i : Int) = plP β cd s.1 s.2 then ntP β cd s.1 s.2 else s.1 i)
      by_cases q : i = (plP β cd s.1 s.2).toNat
      · subst q; rw [wr_same, if_pos (by omega)]
      · rw [wr_row (by omega), if_neg (by omega), O5 176 (by omega) (by omega) (by omega)]; exact c6 i hi
    · rw [wr_obj (by omega), F5 177 (by omega), e74, if_pos rfl]; rfl
    · rw [wr_row (by omega), O5 176 (by omega) (by omega) (by omega)]; exact e6 j hj
    · rw [wr_obj (by omega), F5 177 (by omega), e74, if_neg hj, O3 177 (by omega) (by omega), e7]
    · rw [wr_obj (by omega), O5 o (by omega) (by omega) (by omega)]; exact Fσ o ho
  -- the copying
  have cop : ∀ (c i : Nat) (σ : mm_Mem), (i : Int) + c = β 0 4 → RuM bi β cd' σ → (∀ j : Nat, j < i → σ 176 (5 * (g + 1) + j) = s.1 j) → (∀ j, j < 5 * (g + 1) → σ 176 j = τ 176 j) → σ 177 = τ 177 → frL τ σ → V0 E (d + 4) qX11_lays 4 [some (vR 140), some (vI (g : Int)), some (vI (smP s.1 i)), some (vI (i : Int)), none] [] σ Q := by
    intro c
    induction c with
    | zero =>
      intro i σ hi Sσ c6 e6 e7 Fσ
      have ei : i = (β 0 4).toNat := by omega
      rw [ei]
      exact fin σ Sσ (fun j hj => c6 j (by omega)) e6 e7 Fσ
    | succ c ih =>
      intro i σ hi Sσ c6 e6 e7 Fσ
      obtain ⟨z12, -, -, -, z42, z43⟩ := id Sσ
      have i1 : (5 * (g : Int) + (i : Int)).toNat = 5 * g + i := by omega
      have i2 : (5 * ((g : Int) + 1) + (i : Int)).toNat = 5 * (g + 1) + i := by omega
      have q6 : σ 176 (5 * g + i) = s.1 i := by rw [e6 _ (by omega)]; exact h6 i (by omega)
      refine bX11_lays_4 (d := d + 3) ?_
      rw [z12, Int.toNat_natCast, z43, i1, i2, wr_row (show 5 * g + i ≠ 5 * (g + 1) + i by omega), q6, show (i : Int) + 1 = ((i + 1 : Nat) : Int) by omega]
      refine ⟨by omega, by omega, ⟨by omega, by omega⟩, fun q => by omega, fun _ => ⟨by omega, by omega, by omega, by omega, by omega, by omega, ?_⟩⟩
      have e : smP s.1 i + s.1 i = smP s.1 (i + 1) := rfl
      rw [e]
      refine ih (i + 1) _ (by omega) (Sσ.fr (fun o h1 h2 => wr_obj (by omega))) (fun j hj => ?_) (fun j hj => by rw [wr_row (by omega)]; exact e6 j hj) (by rw [wr_obj (by omega)]; exact e7) (fun o ho => by rw [wr_obj (by omega)]; exact Fσ o ho)
      by_cases q : j = i
      · subst q; rw [wr_same]
      · rw [wr_row (by omega)]; exact c6 j (by omega)
  exact mX11_lays (d := d + 3) (cop (β 0 4).toNat 0 τ (by omega) S (fun j hj => by omega) (fun _ _ => rfl) rfl (fun _ _ => rfl))
end MWst
