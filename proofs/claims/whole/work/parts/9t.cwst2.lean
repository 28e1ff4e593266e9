/-! the class makes the whistles: rows, all -/
section CWst2
variable {E : mm_Env} {d : Nat} {τ : mm_Mem} {Q : mm_Q0} {hh : Nat} {β : mm_Mem} {cd cd' : List Int}
/-- one row's cells apart, and the rules' own, all stays -/
def frV (hh t : Nat) (τ τ' : mm_Mem) : Prop := (∀ x, x ≠ hh + 6 → x ≠ hh + 12 → x ≠ hh + 13 → x ≠ 79 + 1 + t → x ≠ 83 + 1 + t → x ≠ 87 + 1 + t → τ' x = τ x) ∧ ∀ i, i ≠ 8 → τ' (hh + 6) i = τ (hh + 6) i
theorem frV.rf {t : Nat} : frV hh t τ τ := ⟨fun _ _ _ _ _ _ _ => rfl, fun _ _ => rfl⟩
theorem frV.tr {t : Nat} {a b c : mm_Mem} (h : frV hh t a b) (h' : frV hh t b c) : frV hh t a c := ⟨fun x p q r s u v => (h'.1 x p q r s u v).trans (h.1 x p q r s u v), fun i p => (h'.2 i p).trans (h.2 i p)⟩
theorem frN.v {t : Nat} {a b : mm_Mem} (h : frN hh a b) : frV hh t a b := ⟨fun x p q r _ _ _ => h.1 x p q r, h.2⟩
theorem frV.w3 {t m : Nat} {x y z : Int} {a b : mm_Mem} (h4 : hh = 4 ∨ hh = 38) (h : frV hh t a b) : frV hh t a (wr (wr (wr b (79 + 1 + t) m x) (83 + 1 + t) m y) (87 + 1 + t) m z) := ⟨fun o p q r s u v => by rw [wr_obj v, wr_obj u, wr_obj s]; exact h.1 o p q r s u v, fun i p => by rw [wr_obj (by omega), wr_obj (by omega), wr_obj (by omega)]; exact h.2 i p⟩
theorem RuS.v {t : Nat} {τ' : mm_Mem} (h4 : hh = 4 ∨ hh = 38) (h : RuS hh β cd τ) (F : frV hh t τ τ') : RuS hh β cd τ' := by
  obtain ⟨h1, h2, h3, h5⟩ := h
  refine ⟨fun k hk => ?_, fun k j hk hj => ?_, ?_, fun i hi => ?_⟩
  · rw [F.1 _ (by omega) (by omega) (by omega) (by omega) (by omega) (by omega)]; exact h1 k hk
  · rw [F.1 (hh + 9) (by omega) (by omega) (by omega) (by omega) (by omega) (by omega), F.1 (hh + 10) (by omega) (by omega) (by omega) (by omega) (by omega) (by omega), F.1 (hh + 11) (by omega) (by omega) (by omega) (by omega) (by omega) (by omega)]; exact h2 k j hk hj
  · rw [F.2 1 (by omega)]; exact h3
  · rw [F.1 _ (by omega) (by omega) (by omega) (by omega) (by omega) (by omega)]; exact h5 i hi
theorem wRw.w3 {t m j : Nat} (W : wRw β cd t j τ) (hj : j ≠ m) {x y z : Int} : wRw β cd t j (wr (wr (wr τ (79 + 1 + t) m x) (83 + 1 + t) m y) (87 + 1 + t) m z) := by
  obtain ⟨a, b, c⟩ := W
  refine ⟨?_, ?_, ?_⟩
  · rw [wr_obj (by omega), wr_obj (by omega), wr_row hj]; exact a
  · rw [wr_obj (by omega), wr_row hj, wr_obj (by omega)]; exact b
  · rw [wr_row hj, wr_obj (by omega), wr_obj (by omega)]; exact c
theorem wRw.at_ {t m : Nat} {x y z : Int} (hx : x = (tp (pkW β (wsP β cd t m)) : Nat)) (hy : y = numA (β 0 3) (wsP β cd t m).1 (β 0 4).toNat) (hz : z = (wsP β cd t m).2) : wRw β cd t m (wr (wr (wr τ (79 + 1 + t) m x) (83 + 1 + t) m y) (87 + 1 + t) m z) := by
  refine ⟨?_, ?_, ?_⟩
  · rw [wr_obj (by omega), wr_obj (by omega), wr_same, hx]
  · rw [wr_obj (by omega), wr_same, hy]
  · rw [wr_same, hz]
theorem wRw.fr {t m : Nat} {τ' : mm_Mem} (W : wRw β cd t m τ) (e1 : τ' (79 + 1 + t) = τ (79 + 1 + t)) (e2 : τ' (83 + 1 + t) = τ (83 + 1 + t)) (e3 : τ' (87 + 1 + t) = τ (87 + 1 + t)) : wRw β cd t m τ' := by
  unfold wRw; rw [e1, e2, e3]; exact W
theorem al_row {t m n : Nat} (H : siH β) (a : alW β (wsP β cd t m) (wsP β cd t n)) : tp (pkW β (wsP β cd t m)) = tp (pkW β (wsP β cd t n)) ∧ numA (β 0 3) (wsP β cd t m).1 (β 0 4).toNat = numA (β 0 3) (wsP β cd t n).1 (β 0 4).toNat ∧ (wsP β cd t m).2 = (wsP β cd t n).2 := by
  have h := H.1
  refine ⟨tp_congr (fun i hi => ?_), num_congr _ (fun i hi => a.1 i (by omega)), a.2⟩
  unfold pkW
  by_cases q : (i : Int) < β 0 4
  · rw [if_pos q, if_pos q, a.1 i q]
  · rw [if_neg q, if_neg q]
theorem c_repeatL {t wa m : Nat} (h4 : hh = 4 ∨ hh = 38) (H : siH β) (ht : t < 3) (hw : wa < m) (hm : m < 1000) (al : alW β (wsP β cd t wa) (wsP β cd t m)) : ∀ (c j : Nat) (τ : mm_Mem), j + c = 1000 → m ≤ j → (∀ i, i < j → wRw β cd t i τ) → (∀ τ', (∀ i, i < 1000 → wRw β cd t i τ') → frV hh t τ τ' → Q none τ') → V0 E (d + 1) qX9_repeatRow 7 [some (vR 78), some (vI (t : Int)), none, some (vI ((m : Int) - (wa : Int))), some (vI (j : Int))] [] τ Q := by
  intro c
  induction c with
  | zero =>
    intro j τ hj hmj W k1
    refine bX9_repeatRow_7 ⟨⟨by omega, by omega⟩, fun _ => k1 τ (fun i hi => W i (by omega)) frV.rf, fun q => by omega⟩
  | succ c ih =>
    intro j τ hj hmj W k1
    have a2 := ws_al (cd := cd) H al (j - m)
    rw [show m + (j - m) = j by omega] at a2
    obtain ⟨r1, r2, r3⟩ := al_row H a2
    have Wb := W (wa + (j - m)) (by omega)
    have eb : ((j : Int) - ((m : Int) - (wa : Int))).toNat = wa + (j - m) := by omega
    have x1 : τ (79 + 1 + t) (wa + (j - m)) = (tp (pkW β (wsP β cd t j)) : Nat) := by rw [Wb.1, r1]
    have x2 : τ (83 + 1 + t) (wa + (j - m)) = numA (β 0 3) (wsP β cd t j).1 (β 0 4).toNat := by rw [Wb.2.1, r2]
    have x3 : τ (87 + 1 + t) (wa + (j - m)) = (wsP β cd t j).2 := by rw [Wb.2.2, r3]
    refine bX9_repeatRow_7 ⟨⟨by omega, by omega⟩, fun q => by omega, fun _ => ?_⟩
    rw [eb, Int.toNat_natCast, Int.toNat_natCast, wr_obj (show 83 + 1 + t ≠ 79 + 1 + t by omega), wr_obj (show 87 + 1 + t ≠ 83 + 1 + t by omega), wr_obj (show 87 + 1 + t ≠ 79 + 1 + t by omega), x1, x2, x3, show (j : Int) + 1 = ((j + 1 : Nat) : Int) by omega]
    refine ⟨by omega, by omega, by omega, by omega, by omega, by omega, by omega, by omega, by omega, by omega, by omega, by omega, by omega, by omega, by omega, by omega, by omega, by omega, by omega, by omega, by omega, by omega, by omega, by omega, ?_⟩
    refine ih (j + 1) _ (by omega) (by omega) (fun i hi => ?_) (fun τ' w' F' => k1 τ' w' ((frV.rf.w3 h4).tr F'))
    by_cases q : i = j
    · subst q; exact wRw.at_ rfl rfl rfl
    · exact (W i (by omega)).w3 q
theorem c_makeRowL {t : Nat} (h4 : hh = 4 ∨ hh = 38) (H : siH β) (T : siT β) (R : siR β cd cd') (hl : cd.length ≤ 1600) (ht : (t : Int) < β 0 5) : ∀ (c m wa : Nat) (τ : mm_Mem), m + 1 + c = 1000 → wa ≤ m → RuS hh β cd τ → τ 78 3 = β 0 3 → τ 78 4 = β 0 4 → (∀ i, i ≤ m → wRw β cd t i τ) → (∀ τ', (∀ i, i < 1000 → wRw β cd t i τ') → frV hh t τ τ' → Q none τ') → V0 E (d + 5) qX9_makeRow 5 [some (vR 78), some (vR (hh + 6)), some (vI (t : Int)), some (vI (wa : Int)), some (vI ((m + 1 : Nat) : Int))] [] τ Q := by
  have h := H.1
  intro c
  induction c with
  | zero =>
    intro m wa τ hm hw S h3 hL W k1
    refine bX9_makeRow_5 (d := d + 4) (kdR h4).2 ⟨⟨by omega, by omega⟩, fun _ => k1 τ (fun i hi => W i (by omega)) frV.rf, fun q => by omega⟩
  | succ c ih =>
    intro m wa τ hm hw S h3 hL W k1
    have okm := ws_ok (cd := cd) H T ht (m + 1)
    have okw := ws_ok (cd := cd) H T ht wa
    refine bX9_makeRow_5 (d := d + 4) (kdR h4).2 ⟨⟨by omega, by omega⟩, fun q => by omega, fun _ => c_makeNext (d := d) h4 H T R hl ht (by omega) rfl rfl S h3 hL (W m (Nat.le_refl _)) (fun τ1 F1 => ⟨rfl, ?_⟩)⟩
    generalize hτ2 : wr (wr (wr τ1 (79 + 1 + t) (m + 1) (tp (pkW β (wsP β cd t (m + 1))) : Nat)) (83 + 1 + t) (m + 1) (numA (β 0 3) (wsP β cd t (m + 1)).1 (β 0 4).toNat)) (87 + 1 + t) (m + 1) (wsP β cd t (m + 1)).2 = τ2
    have F2 : frV hh t τ τ2 := by rw [← hτ2]; exact frV.w3 h4 F1.v
    have W2 : ∀ i, i ≤ m + 1 → wRw β cd t i τ2 := fun i hi => by
      rw [← hτ2]
      by_cases q : i = m + 1
      · subst q; exact wRw.at_ rfl rfl rfl
      · exact ((W i (by omega)).fr (F1.1 _ (by omega) (by omega) (by omega)) (F1.1 _ (by omega) (by omega) (by omega)) (F1.1 _ (by omega) (by omega) (by omega))).w3 q
    clear hτ2
    have S2 := S.v h4 F2
    have h32 : τ2 78 3 = β 0 3 := by rw [F2.1 78 (by omega) (by omega) (by omega) (by omega) (by omega) (by omega)]; exact h3
    have hL2 : τ2 78 4 = β 0 4 := by rw [F2.1 78 (by omega) (by omega) (by omega) (by omega) (by omega) (by omega)]; exact hL
    -- on
    have on : ∀ wb : Nat, wb ≤ m + 1 → V0 E (d + 5) qX9_makeRow 5 [some (vR 78), some (vR (hh + 6)), some (vI (t : Int)), some (vI (wb : Int)), some (vI (((m + 1 : Nat) : Int) + 1))] [] τ2 Q := fun wb hwb => by
      rw [show ((m + 1 : Nat) : Int) + 1 = ((m + 1 + 1 : Nat) : Int) by omega]
      exact ih (m + 1) wb τ2 (by omega) hwb S2 h32 hL2 W2 (fun τ' w' F' => k1 τ' w' (F2.tr F'))
    have no : inR (2 * (wa : Int) + 1) ∧ ((((m + 1 : Nat) : Int) ≠ 2 * (wa : Int) + 1 → V0 E (d + 5) qX9_makeRow 5 [some (vR 78), some (vR (hh + 6)), some (vI (t : Int)), some (vI (wa : Int)), some (vI (((m + 1 : Nat) : Int) + 1))] [] τ2 Q) ∧ (((m + 1 : Nat) : Int) = 2 * (wa : Int) + 1 → V0 E (d + 5) qX9_makeRow 5 [some (vR 78), some (vR (hh + 6)), some (vI (t : Int)), some (vI ((m + 1 : Nat) : Int)), some (vI (((m + 1 : Nat) : Int) + 1))] [] τ2 Q)) := ⟨⟨by omega, by omega⟩, fun _ => on wa (by omega), fun _ => on (m + 1) (Nat.le_refl _)⟩
    refine mX9_isAlike ?_
    rw [Int.toNat_natCast, Int.toNat_natCast, Int.toNat_natCast, (W2 wa (by omega)).1, (W2 (m + 1) (Nat.le_refl _)).1, (W2 wa (by omega)).2.2, (W2 (m + 1) (Nat.le_refl _)).2.2]
    refine ⟨by omega, by omega, by omega, by omega, by omega, by omega, by omega, by omega, fun q => ⟨false, rfl, fun _ => no, fun y => tt_ff y⟩, fun q => ⟨by omega, by omega, by omega, by omega, by omega, by omega, by omega, by omega, fun q2 => ⟨false, rfl, fun _ => no, fun y => tt_ff y⟩, fun q2 => ⟨true, rfl, fun y => ff_tt y, fun _ => ?_⟩⟩⟩
    have al : alW β (wsP β cd t wa) (wsP β cd t (m + 1)) := by
      refine ⟨fun i hi => ?_, q2⟩
      have e := tp_inj (pk_ok H okw) (pk_ok H okm) (by omega) i (by omega)
      unfold pkW at e
      rw [if_pos hi, if_pos hi] at e
      have := okw.1 i hi
      have := okm.1 i hi
      omega
    refine mX9_repeatRow (d := d + 3) (c_max ⟨by omega, by omega⟩ ⟨by omega, by omega⟩ ⟨_, rfl, ?_⟩)
    rw [show max ((m + 1 : Nat) : Int) (((m + 1 : Nat) : Int) - (wa : Int)) = ((m + 1 : Nat) : Int) by omega]
    exact c_repeatL (d := d + 3) (wa := wa) (m := m + 1) h4 H (by omega) (by omega) (by omega) al (1000 - (m + 1)) (m + 1) τ2 (by omega) (Nat.le_refl _) (fun i hi => W2 i (by omega)) (fun τ' w' F' => ⟨rfl, k1 τ' w' (F2.tr F')⟩)
/-- all rows -/
def frW (hh : Nat) (τ τ' : mm_Mem) : Prop := (∀ x, x ≠ hh + 6 → x ≠ hh + 12 → x ≠ hh + 13 → ¬ (78 ≤ x ∧ x < 91) → τ' x = τ x) ∧ ∀ i, i ≠ 8 → τ' (hh + 6) i = τ (hh + 6) i
theorem c_makeL (h4 : hh = 4 ∨ hh = 38) (H : siH β) (T : siT β) (R : siR β cd cd') (hl : cd.length ≤ 1600) : ∀ (c t : Nat) (τ : mm_Mem), (t : Int) + c = β 0 5 → RuS hh β cd τ → τ 78 3 = β 0 3 → τ 78 4 = β 0 4 → τ hh 2 = β 0 5 → hT hh β τ → (∀ s i, s < t → i < 1000 → wRw β cd s i τ) → (∀ τ', (∀ s i : Nat, (s : Int) < β 0 5 → i < 1000 → wRw β cd s i τ') → (∀ i, τ' 78 i = τ 78 i) → frW hh τ τ' → Q none τ') → V0 E (d + 7) qX9_make 52 [some (vR 78), some (vR hh), some (vI (t : Int))] [] τ Q := by
  have h := H.1
  intro c
  induction c with
  | zero =>
    intro t τ ht S h3 hL h5 tT W k1
    refine bX9_make_52 (d := d + 6) (kdR h4).1 ?_
    rw [h5]
    exact ⟨⟨by omega, by omega⟩, fun _ => k1 τ (fun s i hs hi => W s i (by omega) hi) (fun _ => rfl) ⟨fun _ _ _ _ _ => rfl, fun _ _ => rfl⟩, fun q => by omega⟩
  | succ c ih =>
    intro t τ ht S h3 hL h5 tT W k1
    have t3 : t < 3 := by omega
    have tt : (t : Int) < β 0 5 := by omega
    have w0 := ws_ok (cd := cd) H T tt 0
    obtain ⟨a1, a2⟩ := tT t tt
    have e0 : tp (tlF β t) = tp (pkW β (wsP β cd t 0)) := tp_congr (fun i hi => rfl)
    refine bX9_make_52 (d := d + 6) (kdR h4).1 ?_
    rw [h5, Int.toNat_natCast]
    refine ⟨⟨by omega, by omega⟩, fun q => by omega, fun _ => ⟨fun q => by omega, fun _ => ⟨by omega, by omega, by omega, by omega, c_put (d := d + 5) (m := 0) (s := wsP β cd t 0) H w0 t3 (by omega) rfl rfl (by rw [a1, e0]) (by rw [a2]; rfl) h3 hL ⟨rfl, ?_⟩⟩⟩⟩
    generalize hτ1 : wr (wr (wr τ (79 + 1 + t) 0 (tp (pkW β (wsP β cd t 0)) : Nat)) (83 + 1 + t) 0 (numA (β 0 3) (wsP β cd t 0).1 (β 0 4).toNat)) (87 + 1 + t) 0 (wsP β cd t 0).2 = τ1
    have F1 : frV hh t τ τ1 := by rw [← hτ1]; exact frV.rf.w3 h4
    have W1 : wRw β cd t 0 τ1 := by rw [← hτ1]; exact wRw.at_ rfl rfl rfl
    clear hτ1
    refine mX9_makeRow (d := d + 5) (kdR h4).2 (c_makeRowL (d := d + 1) h4 H T R hl tt 999 0 0 τ1 (by omega) (by omega) (S.v h4 F1) (by rw [F1.1 78 (by omega) (by omega) (by omega) (by omega) (by omega) (by omega)]; exact h3) (by rw [F1.1 78 (by omega) (by omega) (by omega) (by omega) (by omega) (by omega)]; exact hL) (fun i hi => by rw [show i = 0 by omega]; exact W1) (fun τ2 W2 F2 => ⟨rfl, ?_⟩))
    have F12 := F1.tr F2
    have O : ∀ x, x ≠ hh + 6 → x ≠ hh + 12 → x ≠ hh + 13 → ¬ (79 ≤ x ∧ x < 91) → τ2 x = τ x := fun x p q r s => F12.1 x p q r (by omega) (by omega) (by omega)
    rw [show (t : Int) + 1 = ((t + 1 : Nat) : Int) by omega]
    refine ih (t + 1) τ2 (by omega) (S.v h4 F12) (by rw [O 78 (by omega) (by omega) (by omega) (by omega)]; exact h3) (by rw [O 78 (by omega) (by omega) (by omega) (by omega)]; exact hL) (by rw [O hh (by omega) (by omega) (by omega) (by omega)]; exact h5) (fun s hs => by rw [O (hh + 2) (by omega) (by omega) (by omega) (by omega), O (hh + 3) (by omega) (by omega) (by omega) (by omega)]; exact tT s hs) (fun s i hs hi => ?_) (fun τ3 W3 e3 F3 => k1 τ3 W3 (fun i => by rw [e3 i, O 78 (by omega) (by omega) (by omega) (by omega)]) ⟨fun x p q r s => by rw [F3.1 x p q r s, O x p q r (by omega)], fun i p => by rw [F3.2 i p, F12.2 i p]⟩)
    by_cases q : s = t
    · subst q; exact W2 i hi
    · exact (W s i (by omega) hi).fr (F12.1 _ (by omega) (by omega) (by omega) (by omega) (by omega) (by omega)) (F12.1 _ (by omega) (by omega) (by omega) (by omega) (by omega) (by omega)) (F12.1 _ (by omega) (by omega) (by omega) (by omega) (by omega) (by omega))
theorem c_make (h4 : hh = 4 ∨ hh = 38) (H : siH β) (T : siT β) (R : siR β cd cd') (hl : cd.length ≤ 1600) (S : RuS hh β cd τ) (B : HbC hh β τ) (k1 : ∀ τ', (∀ s i : Nat, (s : Int) < β 0 5 → i < 1000 → wRw β cd s i τ') → τ' 78 3 = β 0 3 → τ' 78 4 = β 0 4 → τ' 78 5 = β 0 3 ^ (β 0 4).toNat → frW hh τ τ' → Q none τ') : M0 E (d + 7) qX9_make [vR 78, vR hh] τ Q := by
  have h := H.1
  have e0 : τ hh 0 = β 0 3 := B.1.1 0 (by omega)
  have e1 : τ hh 1 = β 0 4 := B.1.1 1 (by omega)
  have e2 : τ hh 2 = β 0 5 := B.1.1 2 (by omega)
  have pw : ∀ i : Nat, i ≤ 5 → 1 ≤ β 0 3 ^ i ∧ β 0 3 ^ i ≤ 7776 := fun i hi => by
    have h1 : 1 ≤ (β 0 3).toNat ^ i := Nat.one_le_pow _ _ (by omega)
    have h2 : (β 0 3).toNat ^ i ≤ 6 ^ 5 := Nat.le_trans (Nat.pow_le_pow_left (show (β 0 3).toNat ≤ 6 by omega) i) (Nat.pow_le_pow_right (by omega) hi)
    have h3 : (((β 0 3).toNat ^ i : Nat) : Int) = β 0 3 ^ i := by rw [Int.natCast_pow, Int.toNat_of_nonneg (by omega)]
    have : (6 : Nat) ^ 5 = 7776 := by decide
    omega
  have go : ∀ (c i : Nat) (σ : mm_Mem), (i : Int) + c = β 0 4 → σ 78 3 = β 0 3 → σ 78 4 = β 0 4 → σ 78 5 = β 0 3 ^ i → (∀ x, x ≠ 78 → σ x = τ x) → V0 E (d + 7) qX9_make 23 [some (vR 78), some (vR hh), some (vI (i : Int))] [] σ Q := by
    intro c
    induction c with
    | zero =>
      intro i σ hi s3 s4 s5 O
      refine bX9_make_23 (d := d + 6) (kdR h4).1 ?_
      rw [s4]
      refine ⟨⟨by omega, by omega⟩, fun _ => ?_, fun q => by omega⟩
      refine c_makeL (d := d) h4 H T R hl (β 0 5).toNat 0 σ (by omega) ?_ s3 s4 (by rw [O hh (by omega)]; exact e2) (fun t ht => by rw [O (hh + 2) (by omega), O (hh + 3) (by omega)]; exact B.2.2.2.2.1 t ht) (fun s i hs _ => by omega) (fun τ' W e F => k1 τ' W (by rw [e 3]; exact s3) (by rw [e 4]; exact s4) (by rw [e 5, s5, show i = (β 0 4).toNat by omega]) ⟨fun x p q r s => by rw [F.1 x p q r s, O x (by omega)], fun i p => by rw [F.2 i p, O _ (by omega)]⟩)
      obtain ⟨y1, y2, y3, y4⟩ := S
      refine ⟨fun k hk => ?_, fun k j hk hj => ?_, ?_, fun i hi => ?_⟩
      · rw [O _ (by omega)]; exact y1 k hk
      · rw [O (hh + 9) (by omega), O (hh + 10) (by omega), O (hh + 11) (by omega)]; exact y2 k j hk hj
      · rw [O _ (by omega)]; exact y3
      · rw [O _ (by omega)]; exact y4 i hi
    | succ c ih =>
      intro i σ hi s3 s4 s5 O
      have p1 := pw (i + 1) (by omega)
      have ep : β 0 3 ^ i * β 0 3 = β 0 3 ^ (i + 1) := (Int.pow_succ _ _).symm
      refine bX9_make_23 (d := d + 6) (kdR h4).1 ?_
      rw [s4, s5, s3, ep, show (i : Int) + 1 = ((i + 1 : Nat) : Int) by omega]
      exact ⟨⟨by omega, by omega⟩, fun q => by omega, fun _ => ⟨⟨by omega, by omega⟩, ih (i + 1) _ (by omega) (by rw [wr_row (by omega)]; exact s3) (by rw [wr_row (by omega)]; exact s4) wr_same (fun x hx => by rw [wr_obj hx]; exact O x hx)⟩⟩
  refine mX9_make (d := d + 6) (kdR h4).1 ?_
  rw [wr_obj (show hh ≠ 78 by omega), e0, e1]
  exact go (β 0 4).toNat 0 _ (by omega) (by rw [wr_row (by omega), wr_row (by omega), wr_same]) (by rw [wr_row (by omega), wr_same]) (by rw [wr_same, Int.pow_zero]) (fun x hx => by rw [wr_obj hx, wr_obj hx, wr_obj hx])
end CWst2
