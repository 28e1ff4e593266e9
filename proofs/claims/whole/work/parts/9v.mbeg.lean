/-! the reference begins -/
def wM1 (β : mm_Mem) (cd : List Int) (t n : Nat) (τ : mm_Mem) : Prop := (∀ i : Nat, (i : Int) < β 0 4 → τ 176 (5 * (1000 * t + n) + i) = (wsP β cd t n).1 i) ∧ τ 177 (1000 * t + n) = (wsP β cd t n).2
def wM2 (β : mm_Mem) (cd : List Int) (t n : Nat) (τ : mm_Mem) : Prop := τ 178 (1000 * t + n) = numA (β 0 3) (wsP β cd t n).1 (β 0 4).toNat
def frG (τ τ' : mm_Mem) : Prop := ∀ o, (o < 174 ∨ 188 ≤ o) → τ' o = τ o
section MBeg
variable {E : mm_Env} {d : Nat} {τ : mm_Mem} {Q : mm_Q0} {bi : Nat} {β : mm_Mem} {cd cd' : List Int}
theorem m_numberAtL {x : Int} {g : Nat} {f : Nat → Int} (hb : bi < 2) (hx : x = (g : Int)) (hg : g < 3000) (hL : 2 ≤ β 0 4 ∧ β 0 4 ≤ 5) (S : RuM bi β cd' τ) (h6 : ∀ i : Nat, (i : Int) < β 0 4 → τ 176 (5 * g + i) = f i) (k1 : Q (some (vI (numA (β 0 3) f (β 0 4).toNat))) τ) : ∀ (c i : Nat), (i : Int) + c = β 0 4 → V0 E d qX11_numberAt 4 [some (vR 140), some (vI x), some (vI (numA (β 0 3) f i)), some (vI (i : Int))] [] τ Q := by
  subst hx
  obtain ⟨z12, -, -, -, z42, z43⟩ := id S
  intro c
  induction c with
  | zero =>
    intro i hi
    refine bX11_numberAt_4 ?_
    rw [z12, Int.toNat_natCast, z43]
    refine ⟨by omega, by omega, ⟨by omega, by omega⟩, fun _ => ?_, fun q => by omega⟩
    rw [show i = (β 0 4).toNat by omega]; exact k1
  | succ c ih =>
    intro i hi
    refine bX11_numberAt_4 ?_
    rw [z12, Int.toNat_natCast, z43, z42, show (5 * (g : Int) + (i : Int)).toNat = 5 * g + i by omega, h6 i (by omega), show (i : Int) + 1 = ((i + 1 : Nat) : Int) by omega]
    exact ⟨by omega, by omega, ⟨by omega, by omega⟩, fun q => by omega, fun _ => ⟨by omega, by omega, by omega, by omega, ih (i + 1) (by omega)⟩⟩
/-- the counts begin -/
theorem m_beg217 : ∀ (c i : Nat) (τ : mm_Mem), i + c = 4 → (∀ j, j < i → τ 185 j = -1 ∧ τ 186 j = 0 ∧ τ 187 j = 0) → (∀ τ', (∀ j, j < 4 → τ' 185 j = -1 ∧ τ' 186 j = 0 ∧ τ' 187 j = 0) → (∀ o, (o < 185 ∨ 188 ≤ o) → τ' o = τ o) → Q none τ') → V0 E (d + 1) qX11_begins 217 [some (vR 140), some (vI (i : Int)), none, none] [] τ Q
  | 0, i, τ, hi, W, k1 => bX11_begins_217 ⟨⟨by omega, by omega⟩, fun _ => k1 τ (fun j hj => W j (by omega)) (fun _ _ => rfl), fun q => by omega⟩
  | c + 1, i, τ, hi, W, k1 => by
    refine bX11_begins_217 ⟨⟨by omega, by omega⟩, fun q => by omega, fun _ => ⟨by omega, by omega, by omega, by omega, by omega, by omega, ?_⟩⟩
    rw [Int.toNat_natCast, show (i : Int) + 1 = ((i + 1 : Nat) : Int) by omega]
    refine m_beg217 c (i + 1) _ (by omega) (fun j hj => ?_) (fun τ' N O => k1 τ' N (fun o ho => by rw [O o ho, wr_obj (by omega), wr_obj (by omega), wr_obj (by omega)]))
    by_cases q : j = i
    · subst q; simp [wr]
    · obtain ⟨a, b, c⟩ := W j (by omega); simp [wr, q, a, b, c]
theorem m_beg182 : ∀ (c i : Nat) (τ : mm_Mem), i + c = 12 → (∀ j, j < i → τ 182 j = 0 ∧ τ 183 j = -1 ∧ τ 184 j = 0) → (∀ τ', (∀ j, j < 12 → τ' 182 j = 0 ∧ τ' 183 j = -1 ∧ τ' 184 j = 0) → (∀ j, j < 4 → τ' 185 j = -1 ∧ τ' 186 j = 0 ∧ τ' 187 j = 0) → (∀ o, (o < 182 ∨ 188 ≤ o) → τ' o = τ o) → Q none τ') → V0 E (d + 1) qX11_begins 182 [some (vR 140), some (vI (i : Int)), none, none] [] τ Q
  | 0, i, τ, hi, W, k1 => by
    refine bX11_begins_182 ⟨⟨by omega, by omega⟩, fun _ => m_beg217 4 0 τ (by omega) (fun j hj => by omega) (fun τ' N O => k1 τ' (fun j hj => ?_) N (fun o ho => O o (by omega))), fun q => by omega⟩
    rw [O 182 (by omega), O 183 (by omega), O 184 (by omega)]; exact W j (by omega)
  | c + 1, i, τ, hi, W, k1 => by
    refine bX11_begins_182 ⟨⟨by omega, by omega⟩, fun q => by omega, fun _ => ⟨by omega, by omega, by omega, by omega, by omega, by omega, ?_⟩⟩
    rw [Int.toNat_natCast, show (i : Int) + 1 = ((i + 1 : Nat) : Int) by omega]
    refine m_beg182 c (i + 1) _ (by omega) (fun j hj => ?_) (fun τ' N N2 O => k1 τ' N N2 (fun o ho => by rw [O o ho, wr_obj (by omega), wr_obj (by omega), wr_obj (by omega)]))
    by_cases q : j = i
    · subst q; simp [wr]
    · obtain ⟨a, b, c⟩ := W j (by omega); simp [wr, q, a, b, c]
theorem m_beg148 : ∀ (c i : Nat) (τ : mm_Mem), i + c = 4 → (∀ j, j < i → τ 179 j = 0 ∧ τ 180 j = 0 ∧ τ 181 j = 0) → (∀ τ', (∀ j, j < 4 → τ' 179 j = 0 ∧ τ' 180 j = 0 ∧ τ' 181 j = 0) → (∀ j, j < 12 → τ' 182 j = 0 ∧ τ' 183 j = -1 ∧ τ' 184 j = 0) → (∀ j, j < 4 → τ' 185 j = -1 ∧ τ' 186 j = 0 ∧ τ' 187 j = 0) → (∀ o, (o < 179 ∨ 188 ≤ o) → τ' o = τ o) → Q none τ') → V0 E (d + 1) qX11_begins 148 [some (vR 140), some (vI (i : Int)), none, none] [] τ Q
  | 0, i, τ, hi, W, k1 => by
    refine bX11_begins_148 ⟨⟨by omega, by omega⟩, fun _ => m_beg182 12 0 τ (by omega) (fun j hj => by omega) (fun τ' N N2 O => k1 τ' (fun j hj => ?_) N N2 (fun o ho => O o (by omega))), fun q => by omega⟩
    rw [O 179 (by omega), O 180 (by omega), O 181 (by omega)]; exact W j (by omega)
  | c + 1, i, τ, hi, W, k1 => by
    refine bX11_begins_148 ⟨⟨by omega, by omega⟩, fun q => by omega, fun _ => ⟨by omega, by omega, by omega, by omega, by omega, by omega, ?_⟩⟩
    rw [Int.toNat_natCast, show (i : Int) + 1 = ((i + 1 : Nat) : Int) by omega]
    refine m_beg148 c (i + 1) _ (by omega) (fun j hj => ?_) (fun τ' N N2 N3 O => k1 τ' N N2 N3 (fun o ho => by rw [O o ho, wr_obj (by omega), wr_obj (by omega), wr_obj (by omega)]))
    by_cases q : j = i
    · subst q; simp [wr]
    · obtain ⟨a, b, c⟩ := W j (by omega); simp [wr, q, a, b, c]
/-- behind the tunes before t: t's own row -/
theorem m_begT {t : Nat} (hb : bi < 2) (H : siH β) (T : siT β) (R : siR β cd cd') (hl : cd'.length ≤ 1600) (ht : (t : Int) < β 0 5) (S : RuM bi β cd' τ) (hT : hTm bi β τ) (k1 : ∀ τ', (∀ n, n < 1000 → wM1 β cd t n τ' ∧ wM2 β cd t n τ') → (∀ j, j < 5000 * t → τ' 176 j = τ 176 j) → (∀ j, j < 1000 * t → τ' 177 j = τ 177 j ∧ τ' 178 j = τ 178 j) → (∀ o, (o < 174 ∨ 179 ≤ o) → τ' o = τ o) → V0 E (d + 5) qX11_begins 2 [some (vR 140), some (vI ((t : Int) + 1)), none, none] [] τ' Q) : V0 E (d + 5) qX11_begins 23 [some (vR 140), some (vI (t : Int)), some (vI (1000 * (t : Int))), some (vI 0)] [] τ Q := by
  have h := H.1
  have t3 : t < 3 := by omega
  obtain ⟨tt1, tt2⟩ := hT t ht
  -- the numbers
  have nums : ∀ (c i : Nat) (σ : mm_Mem), i + c = 1000 → RuM bi β cd' σ → (∀ n, n < 1000 → wM1 β cd t n σ) → (∀ n, n < i → wM2 β cd t n σ) → (∀ j, j < 5000 * t → σ 176 j = τ 176 j) → (∀ j, j < 1000 * t → σ 177 j = τ 177 j ∧ σ 178 j = τ 178 j) → (∀ o, (o < 174 ∨ 179 ≤ o) → σ o = τ o) → V0 E (d + 5) qX11_begins 114 [some (vR 140), some (vI (t : Int)), some (vI (1000 * (t : Int))), some (vI ((1000 * t + i : Nat) : Int))] [] σ Q := by
    intro c
    induction c with
    | zero =>
      intro i σ hi Sσ W1 W2 e6 e7 O
      exact bX11_begins_114 (d := d + 4) ⟨⟨by omega, by omega⟩, ⟨by omega, by omega⟩, fun _ => k1 σ (fun n hn => ⟨W1 n hn, W2 n (by omega)⟩) e6 e7 O, fun q => by omega⟩
    | succ c ih =>
      intro i σ hi Sσ W1 W2 e6 e7 O
      have w := ws_ok (cd := cd) H T ht i
      have nb := ws_num H w (β 0 4).toNat (by omega)
      refine bX11_begins_114 (d := d + 4) ⟨⟨by omega, by omega⟩, ⟨by omega, by omega⟩, fun q => by omega, fun _ => mX11_numberAt (m_numberAtL (f := (wsP β cd t i).1) (g := 1000 * t + i) hb rfl (by omega) (by omega) Sσ (W1 i (by omega)).1 ⟨_, rfl, by omega, by omega, ⟨by omega, by omega⟩, ?_⟩ (β 0 4).toNat 0 (by omega))⟩
      rw [Int.toNat_natCast, show ((1000 * t + i : Nat) : Int) + 1 = ((1000 * t + (i + 1) : Nat) : Int) by omega]
      refine ih (i + 1) _ (by omega) (Sσ.fr (fun o h1 h2 => wr_obj (by omega))) (fun n hn => ?_) (fun n hn => ?_) (fun j hj => by rw [wr_obj (by omega)]; exact e6 j hj) (fun j hj => ⟨by rw [wr_obj (by omega)]; exact (e7 j hj).1, by rw [wr_row (by omega)]; exact (e7 j hj).2⟩) (fun o ho => by rw [wr_obj (by omega)]; exact O o ho)
      · obtain ⟨a, b⟩ := W1 n hn
        exact ⟨fun j hj => by rw [wr_obj (by omega)]; exact a j hj, by rw [wr_obj (by omega)]; exact b⟩
      · unfold wM2
        by_cases q : n = i
        · subst q; rw [wr_same]
        · rw [wr_row (by omega)]; exact W2 n (by omega)
  -- the whistles
  have lay : ∀ (c i : Nat) (σ : mm_Mem), i + c = 999 → RuM bi β cd' σ → (∀ n, n ≤ i → wM1 β cd t n σ) → (∀ j, j < 5000 * t → σ 176 j = τ 176 j) → (∀ j, j < 1000 * t → σ 177 j = τ 177 j) → (∀ o, (o < 174 ∨ 178 ≤ o) → σ o = τ o) → V0 E (d + 5) qX11_begins 90 [some (vR 140), some (vI (t : Int)), some (vI (1000 * (t : Int))), some (vI ((1000 * t + i : Nat) : Int))] [] σ Q := by
    intro c
    induction c with
    | zero =>
      intro i σ hi Sσ W1 e6 e7 O
      refine bX11_begins_90 (d := d + 4) ⟨⟨by omega, by omega⟩, ⟨by omega, by omega⟩, fun _ => ?_, fun q => by omega⟩
      have := nums 1000 0 σ (by omega) Sσ (fun n hn => W1 n (by omega)) (fun n hn => by omega) e6 (fun j hj => ⟨e7 j hj, by rw [O 178 (by omega)]⟩) (fun o ho => O o (by omega))
      rw [show ((1000 * t + 0 : Nat) : Int) = 1000 * (t : Int) by omega] at this
      exact this
    | succ c ih =>
      intro i σ hi Sσ W1 e6 e7 O
      have w := ws_ok (cd := cd) H T ht i
      obtain ⟨a, b⟩ := W1 i (Nat.le_refl _)
      refine bX11_begins_90 (d := d + 4) ⟨⟨by omega, by omega⟩, ⟨by omega, by omega⟩, fun q => by omega, fun _ => m_lays (d := d) (g := 1000 * t + i) hb H R hl w (by omega) rfl Sσ a b (fun σ1 n6 n7 f6 f7 F => ⟨rfl, ?_⟩)⟩
      rw [show ((1000 * t + i : Nat) : Int) + 1 = ((1000 * t + (i + 1) : Nat) : Int) by omega]
      refine ih (i + 1) σ1 (by omega) (Sσ.fr (fun o h1 h2 => F o (by omega))) (fun n hn => ?_) (fun j hj => by rw [f6 j (by omega)]; exact e6 j hj) (fun j hj => by rw [f7 j (by omega)]; exact e7 j hj) (fun o ho => by rw [F o ho]; exact O o ho)
      by_cases q : n = i + 1
      · subst q; exact ⟨n6, n7⟩
      · obtain ⟨a, b⟩ := W1 n (by omega)
        exact ⟨fun j hj => by rw [f6 _ (by omega)]; exact a j hj, by rw [f7 _ (by omega)]; exact b⟩
  -- the told notes
  have cop : ∀ (c i : Nat) (σ : mm_Mem), (i : Int) + c = β 0 4 → RuM bi β cd' σ → (∀ j : Nat, j < i → σ 176 (5 * (1000 * t) + j) = β 30 (5 * t + j)) → (∀ j, j < 5000 * t → σ 176 j = τ 176 j) → (∀ o, o ≠ 176 → σ o = τ o) → V0 E (d + 5) qX11_begins 23 [some (vR 140), some (vI (t : Int)), some (vI (1000 * (t : Int))), some (vI (i : Int))] [] σ Q := by
    intro c
    induction c with
    | zero =>
      intro i σ hi Sσ c6 e6 O
      obtain ⟨z12, -, -, -, z42, z43⟩ := id Sσ
      refine bX11_begins_23 (d := d + 4) ?_
      rw [z12, Int.toNat_natCast, z43, show (3 * (bi : Int) + (t : Int)).toNat = 3 * bi + t by omega, show (1000 * (t : Int)).toNat = 1000 * t by omega, O 147 (by omega), tt2]
      refine ⟨by omega, by omega, ⟨by omega, by omega⟩, fun _ => ⟨by omega, by omega, by omega, by omega, ?_⟩, fun q => by omega⟩
      have := lay 999 0 (wr σ 177 (1000 * t) (β 31 t)) (by omega) (Sσ.fr (fun o h1 h2 => wr_obj (by omega))) (fun n hn => ?_) (fun j hj => by rw [wr_obj (by omega)]; exact e6 j hj) (fun j hj => by rw [wr_row (by omega), O 177 (by omega)]) (fun o ho => by rw [wr_obj (by omega)]; exact O o (by omega))
      · rw [show ((1000 * t + 0 : Nat) : Int) = 1000 * (t : Int) by omega] at this
        exact this
      · have e0 : n = 0 := by omega
        subst e0
        exact ⟨fun j hj => by rw [wr_obj (by omega)]; exact c6 j (by omega), wr_same⟩
    | succ c ih =>
      intro i σ hi Sσ c6 e6 O
      obtain ⟨z12, -, -, -, z42, z43⟩ := id Sσ
      refine bX11_begins_23 (d := d + 4) ?_
      rw [z12, Int.toNat_natCast, z43, show (5 * (3 * (bi : Int) + (t : Int)) + (i : Int)).toNat = 15 * bi + (5 * t + i) by omega, show (5 * (1000 * (t : Int)) + (i : Int)).toNat = 5 * (1000 * t) + i by omega, O 146 (by omega), tt1 i (by omega), show (i : Int) + 1 = ((i + 1 : Nat) : Int) by omega]
      refine ⟨by omega, by omega, ⟨by omega, by omega⟩, fun q => by omega, fun _ => ⟨by omega, by omega, by omega, by omega, ih (i + 1) _ (by omega) (Sσ.fr (fun o h1 h2 => wr_obj (by omega))) (fun j hj => ?_) (fun j hj => by rw [wr_row (by omega)]; exact e6 j hj) (fun o ho => by rw [wr_obj ho]; exact O o ho)⟩⟩
      by_cases q : j = i
      · subst q; rw [wr_same]
      · rw [wr_row (by omega)]; exact c6 j (by omega)
  exact cop (β 0 4).toNat 0 τ (by omega) S (fun j hj => by omega) (fun _ _ => rfl) (fun _ _ => rfl)
theorem m_begins (hb : bi < 2) (H : siH β) (T : siT β) (R : siR β cd cd') (hl : cd'.length ≤ 1600) (S : RuM bi β cd' τ) (h44 : τ 144 bi = β 0 5) (hT : hTm bi β τ) (k1 : ∀ τ', (∀ t n : Nat, (t : Int) < β 0 5 → n < 1000 → wM1 β cd t n τ' ∧ wM2 β cd t n τ') → (∀ j, j < 4 → τ' 179 j = 0 ∧ τ' 180 j = 0 ∧ τ' 181 j = 0) → (∀ j, j < 12 → τ' 182 j = 0 ∧ τ' 183 j = -1 ∧ τ' 184 j = 0) → (∀ j, j < 4 → τ' 185 j = -1 ∧ τ' 186 j = 0 ∧ τ' 187 j = 0) → frG τ τ' → Q none τ') : M0 E (d + 5) qX11_begins [vR 140] τ Q := by
  have h := H.1
  have go : ∀ (c t : Nat) (σ : mm_Mem), (t : Int) + c = β 0 5 → RuM bi β cd' σ → σ 144 bi = β 0 5 → hTm bi β σ → (∀ s n, s < t → n < 1000 → wM1 β cd s n σ ∧ wM2 β cd s n σ) → (∀ o, (o < 174 ∨ 179 ≤ o) → σ o = τ o) → V0 E (d + 5) qX11_begins 2 [some (vR 140), some (vI (t : Int)), none, none] [] σ Q := by
    intro c
    induction c with
    | zero =>
      intro t σ ht Sσ e4 hTσ W O
      refine bX11_begins_2 (d := d + 4) ?_
      rw [Sσ.1, Int.toNat_natCast, e4]
      refine ⟨by omega, by omega, ⟨by omega, by omega⟩, fun _ => m_beg148 (d := d + 4) 4 0 σ (by omega) (fun j hj => by omega) (fun τ' N1 N2 N3 O' => k1 τ' (fun s n hs hn => ?_) N1 N2 N3 (fun o ho => by rw [O' o (by omega)]; exact O o (by omega))), fun q => by omega⟩
      obtain ⟨⟨a, b⟩, c⟩ := W s n (by omega) hn
      refine ⟨⟨fun i hi => by rw [O' 176 (by omega)]; exact a i hi, by rw [O' 177 (by omega)]; exact b⟩, ?_⟩
      unfold wM2; rw [O' 178 (by omega)]; exact c
    | succ c ih =>
      intro t σ ht Sσ e4 hTσ W O
      refine bX11_begins_2 (d := d + 4) ?_
      rw [Sσ.1, Int.toNat_natCast, e4]
      refine ⟨by omega, by omega, ⟨by omega, by omega⟩, fun q => by omega, fun _ => m_begT (d := d) hb H T R hl (by omega) Sσ hTσ (fun σ1 W1 e6 e7 O1 => ?_)⟩
      rw [show (t : Int) + 1 = ((t + 1 : Nat) : Int) by omega]
      refine ih (t + 1) σ1 (by omega) (Sσ.fr (fun o h1 h2 => O1 o (by omega))) (by rw [O1 144 (by omega)]; exact e4) (fun s hs => by rw [O1 146 (by omega), O1 147 (by omega)]; exact hTσ s hs) (fun s n hs hn => ?_) (fun o ho => (O1 o ho).trans (O o ho))
      by_cases q : s = t
      · subst q; exact W1 n hn
      · obtain ⟨⟨a, b⟩, c⟩ := W s n (by omega) hn
        refine ⟨⟨fun i hi => by rw [e6 _ (by omega)]; exact a i hi, by rw [(e7 _ (by omega)).1]; exact b⟩, ?_⟩
        unfold wM2; rw [(e7 _ (by omega)).2]; exact c
  exact mX11_begins (d := d + 4) (go (β 0 5).toNat 0 τ (by omega) S h44 hT (fun s n hs _ => by omega) (fun _ _ => rfl))
end MBeg
