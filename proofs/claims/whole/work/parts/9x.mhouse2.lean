/-! house(), by the reference -/
section MHouse2
variable {E : mm_Env} {d : Nat} {τ : mm_Mem} {Q : mm_Q0} {α β : mm_Mem} {cd cd' : List Int} {k b bi n : Nat} {r : Nat → Int}
def frI (bi : Nat) (τ τ' : mm_Mem) : Prop := (∀ o, (o < 140 ∨ o = 141 ∨ 172 < o) → τ' o = τ o) ∧ (∀ i, (9 < i ∧ i < 38) ∨ 49 < i → τ' 140 i = τ 140 i) ∧ τ' 140 1 = 0 ∧ ∀ o i, 142 ≤ o → o ≤ 164 → ¬ (szM o * bi ≤ i ∧ i < szM o * bi + szM o) → τ' o i = τ o i
theorem frI.z {τ1 τ2 : mm_Mem} (h : frI bi τ τ1) (F : frZ bi τ1 τ2) : frI bi τ τ2 := ⟨fun o x => (F.1 o x).trans (h.1 o x), fun i x => (F.2.1 i (by omega)).trans (h.2.1 i x), (F.2.1 1 (by omega)).trans h.2.2.1, fun o i x y z => (F.2.2 o i x y z).trans (h.2.2.2 o i x y z)⟩
theorem frI.w {o i : Nat} {τ1 : mm_Mem} {v : Int} (h : frI bi τ τ1) (ho : 142 ≤ o ∧ o ≤ 164) (hi : szM o * bi ≤ i ∧ i < szM o * bi + szM o) : frI bi τ (wr τ1 o i v) := h.z (frZ.rf.w ho hi)
theorem frI.w38 {τ1 : mm_Mem} {v : Int} (h : frI bi τ τ1) : frI bi τ (wr τ1 140 38 v) := ⟨fun o x => (wr_obj (by omega)).trans (h.1 o x), fun i x => (wr_row (by omega)).trans (h.2.1 i x), (wr_row (by omega)).trans h.2.2.1, fun o i x y z => by rw [wr_obj (by omega)]; exact h.2.2.2 o i x y z⟩
/-- the fault is told -/
theorem m_house_f {kk p : Nat} (hk : k ≤ 600) (w : WF k α) (H : RepM b α τ) {τ' : mm_Mem} (F : frI (1 - b) τ τ') (k1 : ∀ τ', RepM b (hsF α kk p) τ' → FrM τ τ' → Q (some (vI (-1))) τ') : M0 E (d + 6) qX11_refuses [vR 140, vI 1] (wr (wr τ' 140 10 (kk : Int)) 140 11 (p : Int)) (fun v τ7 => ∃ r8 : Int, v = some (vI r8) ∧ Q (some (vI r8)) τ7) := by
  obtain ⟨h1, h2, h3, h4, h5, h6, h7, h8, h9, h10, h11, h12⟩ := id H
  obtain ⟨-, -, -, -, -, ⟨-, -, c24⟩, -⟩ := id w
  have e73 : wr (wr τ' 140 10 (kk : Int)) 140 11 (p : Int) 173 = τ 173 := by rw [wr_obj (by omega), wr_obj (by omega), F.1 173 (by omega)]
  have e1 : τ 173 1 = α 24 1 := h12 1 (by omega)
  have c1 := c24 1
  have le := w.le
  have hz : ∀ o, 0 < szM o := fun o => by unfold szM; split <;> (try split) <;> (try split) <;> (try split) <;> omega
  have B : ∀ o i j, 142 ≤ o → o ≤ 164 → i = szM o * b + j → j < szM o → τ' o i = τ o i := fun o i j x y z u => F.2.2.2 o i x y (fun ⟨q1, q2⟩ => by
    have hb := h1.1
    have : b = 0 ∨ b = 1 := by omega
    rcases this with rfl | rfl
    · rw [Nat.sub_zero, Nat.mul_one] at q1; omega
    · rw [Nat.sub_self, Nat.mul_zero] at q2; omega)
  refine mX11_refuses (a0 := 1) ⟨by omega, by omega, by omega, by omega, ?_, _, rfl, k1 _ ?_ ?_⟩
  · rw [e73]
    show inR (τ 173 1 + 1)
    rw [e1]; exact ⟨by omega, by omega⟩
  · have R1 : RepM b (wr (wr (wr α 0 0 0) 0 1 (kk : Int)) 0 2 (p : Int)) (wr (wr τ' 140 10 (kk : Int)) 140 11 (p : Int)) := by
      have A0 : ∀ i, 3 ≤ i → wr (wr (wr α 0 0 0) 0 1 (kk : Int)) 0 2 (p : Int) 0 i = α 0 i := fun i hi => by rw [wr_row (by omega), wr_row (by omega), wr_row (by omega)]
      have Ao : ∀ o, o ≠ 0 → wr (wr (wr α 0 0 0) 0 1 (kk : Int)) 0 2 (p : Int) o = α o := fun o q => by rw [wr_obj q, wr_obj q, wr_obj q]
      have T : ∀ i, (11 < i ∧ i < 38) ∨ 49 < i → wr (wr τ' 140 10 (kk : Int)) 140 11 (p : Int) 140 i = τ 140 i := fun i q => by rw [wr_row (by omega), wr_row (by omega), F.2.1 i (by omega)]
      have O : ∀ o, (o < 140 ∨ o = 141 ∨ 172 < o) → wr (wr τ' 140 10 (kk : Int)) 140 11 (p : Int) o = τ o := fun o q => by rw [wr_obj (by omega), wr_obj (by omega), F.1 o q]
      have G : ∀ o i j, 142 ≤ o → o ≤ 164 → i = szM o * b + j → j < szM o → wr (wr τ' 140 10 (kk : Int)) 140 11 (p : Int) o i = τ o i := fun o i j x y z u => by rw [wr_obj (by omega), wr_obj (by omega), B o i j x y z u]
      refine ⟨⟨h1.1, by rw [T 12 (by omega)]; exact h1.2⟩, ⟨?_, fun i hi => ?_⟩, ⟨?_, ?_⟩, ⟨?_, ?_, ?_, ?_, ?_, fun j hj => ?_, ?_, ?_⟩, ⟨fun t q => ?_, fun t q => ?_, fun t q => ?_⟩, fun t q => ⟨?_, ?_, ?_⟩, fun t q => ⟨?_, ?_, ?_, ?_⟩, ⟨fun p q => ?_, fun p q => ?_, fun p q => ?_⟩, fun t m q1 q2 => ⟨fun i hi => ?_, ?_, ?_⟩, ?_, ⟨?_, fun i q => ?_⟩, fun i hi => ?_⟩
      · rw [wr_row (by omega), wr_row (by omega), F.2.2.1, wr_row (by omega), wr_row (by omega), wr_same]
      · rw [O 141 (by omega), Ao 1 (by omega)]; exact h2.2 i hi
      · rw [wr_row (by omega), wr_same, wr_row (by omega), wr_same]
      · rw [wr_same, wr_same]
      · rw [G 142 b 0 (by omega) (by omega) (Nat.one_mul b).symm (by decide), A0 3 (by omega)]; exact h4.1
      · rw [G 143 b 0 (by omega) (by omega) (Nat.one_mul b).symm (by decide), A0 4 (by omega)]; exact h4.2.1
      · rw [G 144 b 0 (by omega) (by omega) (Nat.one_mul b).symm (by decide), A0 5 (by omega)]; exact h4.2.2.1
      · rw [G 152 b 0 (by omega) (by omega) (Nat.one_mul b).symm (by decide), A0 6 (by omega)]; exact h4.2.2.2.1
      · rw [G 157 b 0 (by omega) (by omega) (Nat.one_mul b).symm (by decide), A0 7 (by omega)]; exact h4.2.2.2.2.1
      · rw [G 148 (3 * b + j) j (by omega) (by omega) rfl hj, A0 _ (by omega)]; exact h4.2.2.2.2.2.1 j hj
      · rw [G 163 b 0 (by omega) (by omega) (Nat.one_mul b).symm (by decide), A0 11 (by omega)]; exact h4.2.2.2.2.2.2.1
      · rw [G 164 b 0 (by omega) (by omega) (Nat.one_mul b).symm (by decide), A0 12 (by omega)]; exact h4.2.2.2.2.2.2.2
      · rw [A0 5 (by omega)] at q
        rw [G 145 (3 * b + t) t (by omega) (by omega) rfl (show t < 3 by omega), Ao 2 (by omega)]; exact h5.1 t q
      · rw [A0 6 (by omega)] at q
        rw [G 153 (4 * b + t) t (by omega) (by omega) rfl (show t < 4 by omega), Ao 3 (by omega)]; exact h5.2.1 t q
      · rw [A0 7 (by omega)] at q
        rw [G 158 (4 * b + t) t (by omega) (by omega) rfl (show t < 4 by omega), Ao 4 (by omega)]; exact h5.2.2 t q
      · rw [A0 6 (by omega)] at q
        rw [G 154 (4 * b + t) t (by omega) (by omega) rfl (show t < 4 by omega), Ao 5 (by omega)]; exact (h6 t q).1
      · rw [A0 6 (by omega)] at q
        rw [G 155 (4 * b + t) t (by omega) (by omega) rfl (show t < 4 by omega), Ao 6 (by omega)]; exact (h6 t q).2.1
      · rw [A0 6 (by omega)] at q
        rw [G 156 (4 * b + t) t (by omega) (by omega) rfl (show t < 4 by omega), Ao 7 (by omega)]; exact (h6 t q).2.2
      · rw [A0 7 (by omega)] at q
        rw [G 159 (4 * b + t) t (by omega) (by omega) rfl (show t < 4 by omega), Ao 8 (by omega)]; exact (h7 t q).1
      · rw [A0 7 (by omega)] at q
        rw [G 160 (4 * b + t) t (by omega) (by omega) rfl (show t < 4 by omega), Ao 9 (by omega)]; exact (h7 t q).2.1
      · rw [A0 7 (by omega)] at q
        rw [G 161 (4 * b + t) t (by omega) (by omega) rfl (show t < 4 by omega), Ao 10 (by omega)]; exact (h7 t q).2.2.1
      · rw [A0 7 (by omega)] at q
        rw [G 162 (4 * b + t) t (by omega) (by omega) rfl (show t < 4 by omega), Ao 11 (by omega)]; exact (h7 t q).2.2.2
      · rw [O 179 (by omega), O 180 (by omega), O 181 (by omega), Ao 12 (by omega), Ao 13 (by omega), Ao 14 (by omega)]; exact h8.1 _ q
      · rw [O 182 (by omega), O 183 (by omega), O 184 (by omega), Ao 15 (by omega), Ao 16 (by omega), Ao 17 (by omega)]; exact h8.2.1 _ q
      · rw [O 185 (by omega), O 186 (by omega), O 187 (by omega), Ao 18 (by omega), Ao 19 (by omega), Ao 20 (by omega)]; exact h8.2.2 _ q
      · rw [A0 5 (by omega)] at q1
        rw [A0 4 (by omega)] at hi
        unfold wnA
        rw [O 176 (by omega), Ao 21 (by omega)]; exact (h9 t m q1 q2).1 i hi
      · rw [A0 5 (by omega)] at q1
        rw [O 177 (by omega), Ao 22 (by omega)]; exact (h9 t m q1 q2).2.1
      · rw [A0 5 (by omega)] at q1
        rw [O 178 (by omega), Ao 23 (by omega)]; exact (h9 t m q1 q2).2.2
      · rw [T 71 (by omega), A0 13 (by omega)]; exact h10
      · rw [T 73 (by omega), A0 14 (by omega)]; exact h11.1
      · rw [A0 14 (by omega)] at q
        rw [O 193 (by omega), Ao 25 (by omega)]; exact h11.2 i q
      · rw [O 173 (by omega), Ao 24 (by omega)]; exact h12 i hi
    exact R1.ref (i := 1) (by omega)
  · intro o ho
    rw [wr_obj (by omega), wr_obj (by omega), wr_obj (by omega), F.1 o (by omega)]
theorem m_house_s {m1 n1 a1 : Nat} (w : WF k α) (H : RepM b α τ) {τ' : mm_Mem} (hb : bi < 2) (hn : n1 ≤ 1600) (F : frI bi τ τ') (S : SIn n1 a1 β cd cd') (B : HbM bi β τ') (C : CdM bi cd' τ') (k1 : ∀ τ', RepM bi (hsA α β cd) τ' → FrM τ τ' → Q (some (vI (m1 : Int))) τ') : M0 E (d + 6) qX11_begins [vR 140] (wr (wr (wr τ' 140 10 0) 140 11 (-1)) 140 12 (bi : Int)) (fun v τ6 => v = none ∧ Q (some (vI (m1 : Int))) τ6) := by
  obtain ⟨g1, g2, g3, g4, g5, g6, g7, g8, g9, g10, g11, g12⟩ := id H
  obtain ⟨sa, sl, sl', sH', sN', sD', sP', sC', sT', sR'⟩ := id S
  have O : ∀ o, o ≠ 140 → wr (wr (wr τ' 140 10 0) 140 11 (-1)) 140 12 (bi : Int) o = τ' o := fun o q => by rw [wr_obj q, wr_obj q, wr_obj q]
  have B1 : HbM bi β (wr (wr (wr τ' 140 10 0) 140 11 (-1)) 140 12 (bi : Int)) := B.cg (fun o p q => O o (by omega))
  have C1 : CdM bi cd' (wr (wr (wr τ' 140 10 0) 140 11 (-1)) 140 12 (bi : Int)) := C.cg (by rw [wr_row (by omega), wr_row (by omega), wr_row (by omega)]) (O 165 (by omega)) (O 166 (by omega))
  obtain ⟨b1, b2, b3, b4, b5, b6⟩ := B1
  refine m_begins (d := d + 1) hb sH' sT' sR' (by omega) ⟨wr_same, b1.2.2.2.2.2.1, b6, C1.2, b1.1, b1.2.1⟩ b1.2.2.1 b5 (fun τ6 W z1 z2 z3 G => ⟨rfl, k1 τ6 ?_ (fun o ho => ?_)⟩)
  · have T : ∀ i, τ6 140 i = wr (wr (wr τ' 140 10 0) 140 11 (-1)) 140 12 (bi : Int) 140 i := fun i => by rw [G 140 (by omega)]
    have T2 : ∀ i, (12 < i ∧ i < 38) ∨ 49 < i → τ6 140 i = τ 140 i := fun i q => by rw [T, wr_row (by omega), wr_row (by omega), wr_row (by omega), F.2.1 i (by omega)]
    have B2 : HbM bi β τ6 := HbM.cg (τ := wr (wr (wr τ' 140 10 0) 140 11 (-1)) 140 12 (bi : Int)) ⟨b1, b2, b3, b4, b5, b6⟩ (fun o p q => G o (by omega))
    obtain ⟨b1, b2, b3, b4, b5, b6⟩ := B2
    refine ⟨⟨hb, by rw [T, wr_same]⟩, ⟨?_, fun i hi => ?_⟩, ⟨?_, ?_⟩, b1.cb (fun i p q => hs_0 ⟨p, q⟩) (fun _ _ _ => rfl), ?_, ?_, ?_, ⟨fun p q => ?_, fun p q => ?_, fun p q => ?_⟩, fun t m q1 q2 => ?_, ?_, ⟨?_, fun i q => ?_⟩, fun i hi => ?_⟩
    · rw [T, wr_row (by omega), wr_row (by omega), wr_row (by omega), F.2.2.1]; rfl
    · rw [G 141 (by omega), O 141 (by omega), F.1 141 (by omega), hs_o' (Or.inl rfl)]; exact g2.2 i hi
    · rw [T, wr_row (by omega), wr_row (by omega), wr_same]; rfl
    · rw [T, wr_row (by omega), wr_same]; rfl
    · unfold sN
      rw [hs_0 (by omega), hs_0 (by omega), hs_0 (by omega), hs_o (by omega), hs_o (by omega), hs_o (by omega)]; exact b2
    · unfold sD
      rw [hs_0 (by omega), hs_o (by omega), hs_o (by omega), hs_o (by omega)]; exact b3
    · unfold sP
      rw [hs_0 (by omega), hs_o (by omega), hs_o (by omega), hs_o (by omega), hs_o (by omega)]; exact b4
    · rw [hs_o (by omega), hs_o (by omega), hs_o (by omega)]
      obtain ⟨y1, y2, y3, -⟩ := sC' p
      have := z1 p q
      omega
    · rw [hs_o (by omega), hs_o (by omega), hs_o (by omega)]
      obtain ⟨-, -, -, y1, y2, y3, -⟩ := sC' p
      have := z2 p q
      omega
    · rw [hs_o (by omega), hs_o (by omega), hs_o (by omega)]
      obtain ⟨-, -, -, -, -, -, y1, y2, y3⟩ := sC' p
      have := z3 p q
      omega
    · rw [hs_0 (by omega)] at q1
      obtain ⟨⟨x1, x2⟩, x3⟩ := W t m q1 q2
      refine ⟨fun i hi => ?_, by rw [hs_22 q2]; exact x2, by rw [hs_23 q2]; exact x3⟩
      rw [hs_0 (by omega)] at hi
      have := sH'.1
      rw [hs_wn q2 (by omega)]; exact x1 i hi
    · rw [T2 71 (by omega), hs_0' (by omega)]; exact g10
    · rw [T2 73 (by omega), hs_0' (by omega)]; exact g11.1
    · rw [hs_0' (by omega)] at q
      rw [G 193 (by omega), O 193 (by omega), F.1 193 (by omega), hs_o' (by omega)]; exact g11.2 i q
    · rw [G 173 (by omega), O 173 (by omega), F.1 173 (by omega), hs_o' (by omega)]; exact g12 i hi
  · rw [G o (by omega), O o (by omega), F.1 o (by omega)]
theorem m_house130F {kk p : Nat} {x : Int} (hk : 1 ≤ kk) (R : PF kk p τ) (K : M0 E (d + 6) qX11_refuses [vR 140, vI 1] (wr (wr τ 140 10 (kk : Int)) 140 11 (p : Int)) (fun v τ7 => ∃ r8 : Int, v = some (vI r8) ∧ Q (some (vI r8)) τ7)) : V0 E (d + 7) qX11_house 130 [some (vR 140), some (vI x)] [] τ Q := by
  refine bX11_house_130 (d := d + 6) ⟨fun _ => ⟨fun q => by have := R.1; omega, fun _ => ?_⟩, fun q => by have := R.1; omega⟩
  rw [R.1, R.2]; exact K
theorem m_house50 (hb : bi < 2) : ∀ (c i : Nat) (τ : mm_Mem), i + c = 3 → τ 140 39 = (bi : Int) → (∀ j, j < i → τ 148 (3 * bi + j) = 0) → (∀ τ', (∀ j, j < 3 → τ' 148 (3 * bi + j) = 0) → (∀ j, ¬ (3 * bi ≤ j ∧ j < 3 * bi + 3) → τ' 148 j = τ 148 j) → (∀ o, o ≠ 148 → τ' o = τ o) → M0 E (d + 6) qX11_ahead [vR 140] (wr (wr (wr (wr (wr τ' 152 bi 0) 157 bi 0) 163 bi 1) 164 bi 1) 140 38 0) (fun v τ14 => v = none ∧ M0 E (d + 6) qX11_beginning [vR 140] τ14 (fun v τ15 => v = none ∧ V0 E (d + 7) qX11_house 130 [some (vR 140), some (vI 1)] [] τ15 Q))) → V0 E (d + 7) qX11_house 50 [some (vR 140), some (vI (i : Int))] [] τ Q
  | 0, i, τ, e, h39, h, K => by
    refine bX11_house_50 (d := d + 6) ⟨⟨by omega, by omega⟩, fun q => ?_, fun q => by omega⟩
    rw [h39]
    exact ⟨by omega, by omega, by omega, by omega, by omega, by omega, by omega, by omega, K τ (fun j hj => h j (by omega)) (fun _ _ => rfl) (fun _ _ => rfl)⟩
  | c + 1, i, τ, e, h39, h, K => by
    refine bX11_house_50 (d := d + 6) ⟨⟨by omega, by omega⟩, fun q => by omega, fun q => ?_⟩
    rw [h39]
    refine ⟨by omega, by omega, ?_⟩
    rw [show (3 * (bi : Int) + (i : Int)).toNat = 3 * bi + i by omega, show (i : Int) + 1 = ((i + 1 : Nat) : Int) by omega]
    refine m_house50 hb c (i + 1) _ (by omega) (by rw [wr_obj (by omega)]; exact h39) (fun j hj => ?_) (fun τ' a1 a2 a3 => K τ' a1 (fun j q => by rw [a2 j q, wr_row (by omega)]) (fun o q => by rw [a3 o q, wr_obj q]))
    by_cases q : j = i
    · subst q; exact wr_same
    · rw [wr_row (by omega)]; exact h j (by omega)
theorem m_house (hk : k ≤ 600) (w : WF k α) (H : RepM b α τ) (k1 : ∀ b' τ', RepM b' (houseA α) τ' → FrM τ τ' → Q (some (vI (houseR α))) τ') : M0 E (d + 7) qX11_house [vR 140] τ Q := by
  obtain ⟨g1, g2, -⟩ := id H
  obtain ⟨⟨a1, a2, a3, a4, a5, a6, a7⟩, -⟩ := id w
  have hr : ∀ i, 0 ≤ α 1 i ∧ α 1 i ≤ 255 := a3
  have hn : (α 0 0).toNat ≤ 1600 := by omega
  have hb := g1.1
  have hB : 1 - b < 2 := by omega
  have sp := si_hs (r := α 1) hn hr
  have sq := si_he (r := α 1) (n := (α 0 0).toNat) hr
  have KF : ∀ kk p, hsP (α 1) (α 0 0).toNat = .inl (kk, p) → ∀ τ', frI (1 - b) τ τ' → M0 E (d + 6) qX11_refuses [vR 140, vI 1] (wr (wr τ' 140 10 (kk : Int)) 140 11 (p : Int)) (fun v τ7 => ∃ r8 : Int, v = some (vI r8) ∧ Q (some (vI r8)) τ7) := fun kk p e τ' F => by
    have eX : houseX α = .inl (kk, p) := e
    have eA : houseA α = hsF α kk p := by unfold houseA; rw [eX]
    have eR : houseR α = -1 := by unfold houseR; rw [eX]
    rw [eA, eR] at k1
    exact m_house_f hk w H F (k1 b)
  have KT : ∀ m1 β c1 c1', hsP (α 1) (α 0 0).toNat = .inr (m1, β, c1, c1') → ∀ τ', HbM (1 - b) β τ' → CdM (1 - b) c1' τ' → frI (1 - b) τ τ' → M0 E (d + 6) qX11_begins [vR 140] (wr (wr (wr τ' 140 10 0) 140 11 (-1)) 140 12 ((1 - b : Nat) : Int)) (fun v τ6 => v = none ∧ Q (some (vI (m1 : Int))) τ6) := fun m1 β c1 c1' e τ' B C F => by
    have eX : houseX α = .inr (m1, β, c1, c1') := e
    have eA : houseA α = hsA α β c1 := by unfold houseA; rw [eX]
    have eR : houseR α = (m1 : Int) := by unfold houseR; rw [eX]
    rw [eA, eR] at k1
    rw [e] at sp
    obtain ⟨-, a, S⟩ := sp
    exact m_house_s w H hB hn F S B C (k1 (1 - b))
  refine mX11_house (d := d + 6) ?_
  rw [g1.2, show 1 - (b : Int) = ((1 - b : Nat) : Int) by omega, g2.1]
  refine ⟨⟨by omega, by omega⟩, by omega, by omega, ?_⟩
  rw [show ((1 - b : Nat) : Int).toNat = 1 - b by omega]
  generalize hbi : 1 - b = bi at *
  refine m_house50 hB 3 0 _ (by omega) (by rw [wr_obj (by omega), wr_same]) (fun j q => by omega) (fun τ1 z1 z2 z3 => ?_)
  have s1 : ∀ o, (szM o = 1) → szM o * bi ≤ bi ∧ bi < szM o * bi + szM o := fun o q => by rw [q]; omega
  have F0 : frI bi τ (wr (wr (wr (wr (wr (wr (wr τ 140 2 (α 0 0)) 140 1 0) 140 5 0) 140 8 0) 140 9 (-1)) 140 39 (bi : Int)) 144 bi 0) := by
    refine frI.w ⟨fun o q => ?_, fun i q => ?_, ?_, fun o i q1 q2 q3 => ?_⟩ (by omega) (s1 144 rfl)
    · rw [wr_obj (by omega), wr_obj (by omega), wr_obj (by omega), wr_obj (by omega), wr_obj (by omega), wr_obj (by omega)]
    · rw [wr_row (by omega), wr_row (by omega), wr_row (by omega), wr_row (by omega), wr_row (by omega), wr_row (by omega)]
    · rw [wr_row (by omega), wr_row (by omega), wr_row (by omega), wr_row (by omega), wr_same]
    · rw [wr_obj (by omega), wr_obj (by omega), wr_obj (by omega), wr_obj (by omega), wr_obj (by omega), wr_obj (by omega)]
  have F1 : frI bi τ τ1 := by
    refine F0.z ⟨fun o q => z3 o (by omega), fun i q => by rw [z3 140 (by omega)], fun o i q1 q2 q3 => ?_⟩
    by_cases q : o = 148
    · subst q; exact z2 i q3
    · rw [z3 o q]
  have F2 : frI bi τ (wr (wr (wr (wr (wr τ1 152 bi 0) 157 bi 0) 163 bi 1) 164 bi 1) 140 38 0) := ((((F1.w (by omega) (s1 152 rfl)).w (by omega) (s1 157 rfl)).w (by omega) (s1 163 rfl)).w (by omega) (s1 164 rfl)).w38
  have q140 : ∀ i, i ≠ 38 → wr (wr (wr (wr (wr τ1 152 bi 0) 157 bi 0) 163 bi 1) 164 bi 1) 140 38 0 140 i = wr (wr (wr (wr (wr (wr τ 140 2 (α 0 0)) 140 1 0) 140 5 0) 140 8 0) 140 9 (-1)) 140 39 (bi : Int) 140 i := fun i q => by rw [wr_row q, wr_obj (by omega), wr_obj (by omega), wr_obj (by omega), wr_obj (by omega), z3 140 (by omega), wr_obj (by omega)]
  have q8 : wr (wr (wr (wr (wr τ1 152 bi 0) 157 bi 0) 163 bi 1) 164 bi 1) 140 38 0 140 8 = 0 := by rw [q140 8 (by omega), wr_row (by omega), wr_row (by omega), wr_same]
  have q9 : wr (wr (wr (wr (wr τ1 152 bi 0) 157 bi 0) 163 bi 1) 164 bi 1) 140 38 0 140 9 = -1 := by rw [q140 9 (by omega), wr_row (by omega), wr_same]
  have q39 : wr (wr (wr (wr (wr τ1 152 bi 0) 157 bi 0) 163 bi 1) 164 bi 1) 140 38 0 140 39 = (bi : Int) := by rw [q140 39 (by omega), wr_same]
  have Z2 : ZM bi (wr (wr (wr (wr (wr τ1 152 bi 0) 157 bi 0) 163 bi 1) 164 bi 1) 140 38 0) := by
    refine ⟨?_, ?_, ?_, fun j q => ?_, ?_, ?_⟩
    · rw [wr_obj (by omega), wr_obj (by omega), wr_obj (by omega), wr_obj (by omega), wr_obj (by omega), z3 144 (by omega), wr_same]
    · rw [wr_obj (by omega), wr_obj (by omega), wr_obj (by omega), wr_obj (by omega), wr_same]
    · rw [wr_obj (by omega), wr_obj (by omega), wr_obj (by omega), wr_same]
    · rw [wr_obj (by omega), wr_obj (by omega), wr_obj (by omega), wr_obj (by omega), wr_obj (by omega)]; exact z1 j q
    · rw [wr_obj (by omega), wr_obj (by omega), wr_same]
    · rw [wr_obj (by omega), wr_same]
  have X2 : txM (α 1) (α 0 0).toNat (wr (wr (wr (wr (wr τ1 152 bi 0) 157 bi 0) 163 bi 1) 164 bi 1) 140 38 0) := by
    refine ⟨fun i hi => by rw [F2.1 141 (by omega)]; exact g2.2 i hi, ?_⟩
    rw [q140 2 (by omega), wr_row (by omega), wr_row (by omega), wr_row (by omega), wr_row (by omega), wr_row (by omega), wr_same]; omega
  refine m_ahead (d := d + 5) (a := 0) hn hr (by omega) X2 (fun _ => q9) q8 (by rw [q140 5 (by omega), wr_row (by omega), wr_row (by omega), wr_row (by omega), wr_same]; rfl) (fun nb τ2 T2 e8 W2 f2 => ⟨rfl, ?_⟩) (fun bd τ2 e8 e9 W2 f2 => ⟨rfl, ?_⟩)
  · have P2 : PQ (α 1) (α 0 0).toNat bi 0 τ2 := ⟨⟨X2.fr f2, W2 e8⟩, T2, e8, by rw [f2.2 39 (by omega)]; exact q39⟩
    have Z3 : ZM bi τ2 := by
      unfold ZM
      rw [f2.1 144 (by omega), f2.1 152 (by omega), f2.1 157 (by omega), f2.1 148 (by omega), f2.1 163 (by omega), f2.1 164 (by omega)]; exact Z2
    have C2 : CdM bi [] τ2 := ⟨by rw [f2.2 38 (by omega), wr_same]; rfl, fun i hi => absurd hi (Nat.not_lt_zero i)⟩
    have F3 : frI bi τ τ2 := F2.z f2.z
    refine m_beginning (d := d + 3) hn hB hr Z3 P2 C2 (fun a3 β3 c3 c3' e3 nb3 τ3 P3 B3 C3 f3 => ⟨rfl, ?_⟩) (fun kk p hkk e3 τ3 R3 f3 => ⟨rfl, ?_⟩)
    · rw [e3] at sq
      have eh : hsP (α 1) (α 0 0).toNat = hoP (α 1) (α 0 0).toNat ((α 0 0).toNat + 1) 1 a3 β3 c3 c3' := by unfold hsP; rw [e3, bs_r]
      exact m_houseL (d := d) hn hB hr ((α 0 0).toNat + 1) 1 a3 β3 c3 c3' τ3 sq.2 nb3 (by omega) (by have := sq.1; omega) B3 P3 C3 (fun m4 β4 c4 c4' e4 τ4 _ _ _ B4 C4 f4 => KT m4 β4 c4 c4' (eh.trans e4) τ4 B4 C4 ((F3.z f3).z f4)) (fun kk p hkk e4 τ4 R4 f4 => KF kk p (eh.trans e4) τ4 ((F3.z f3).z f4))
    · refine m_house130F hkk R3 (KF kk p ?_ τ3 (F3.z f3))
      rcases e3 with e3 | ⟨a1, β1, c1, c1', e3, h1, h2, h3⟩
      · unfold hsP; rw [e3, bs_l]
      · unfold hsP; rw [e3, bs_r, ho_bad h1, h2, h3]
  · have hb1 : tBb (α 1) (α 0 0).toNat 0 = true := decide_eq_true bd
    have e0 : hsP (α 1) (α 0 0).toNat = .inl (1, tPl (α 1) (α 0 0).toNat 0) := by
      unfold hsP heP wdP
      rw [if_neg (by rw [bad_W hb1]; decide), bs_l]
    refine m_beginningF (d := d + 5) (k := 1) (p := tPl (α 1) (α 0 0).toNat 0) (by omega) ⟨e8, e9⟩ (fun τ3 R3 f3 => ⟨rfl, ?_⟩)
    exact m_house130F (by omega) R3 (KF 1 _ e0 τ3 ((F2.z f2.z).z f3.z))
end MHouse2
