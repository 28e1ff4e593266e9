/-! the class makes the whistles -/
def RuS (hh : Nat) (β : mm_Mem) (cd : List Int) (τ : mm_Mem) : Prop := (∀ k, k < 3 → τ (hh + 8) k = β 0 (8 + k)) ∧ hR hh β τ ∧ τ (hh + 6) 1 = (cd.length : Int) ∧ ∀ i, i < cd.length → τ (hh + 7) i = cd.getD i 0
def frN (hh : Nat) (τ τ' : mm_Mem) : Prop := (∀ x, x ≠ hh + 6 → x ≠ hh + 12 → x ≠ hh + 13 → τ' x = τ x) ∧ ∀ i, i ≠ 8 → τ' (hh + 6) i = τ (hh + 6) i
theorem frN.rf {hh : Nat} {τ : mm_Mem} : frN hh τ τ := ⟨fun _ _ _ _ => rfl, fun _ _ => rfl⟩
theorem frN.tr {hh : Nat} {a b c : mm_Mem} (h : frN hh a b) (h' : frN hh b c) : frN hh a c := ⟨fun x p q r => (h'.1 x p q r).trans (h.1 x p q r), fun i p => (h'.2 i p).trans (h.2 i p)⟩
theorem frU.n {hh : Nat} {a b : mm_Mem} (h : frU (hh + 6) a b) : frN hh a b := ⟨fun x p _ q => h.1 x p (by omega), h.2⟩
theorem frN.w {hh i : Nat} {v : Int} {a b : mm_Mem} (h : frN hh a b) : frN hh a (wr b (hh + 6 + 6) i v) := ⟨fun x p q r => (wr_obj (by omega)).trans (h.1 x p q r), fun j p => by rw [wr_obj (by omega)]; exact h.2 j p⟩
theorem RuS.n {hh : Nat} {β : mm_Mem} {cd : List Int} {τ τ' : mm_Mem} (h : RuS hh β cd τ) (F : frN hh τ τ') : RuS hh β cd τ' := by
  obtain ⟨h1, h2, h3, h4⟩ := h
  refine ⟨fun k hk => ?_, fun k j hk hj => ?_, ?_, fun i hi => ?_⟩
  · rw [F.1 _ (by omega) (by omega) (by omega)]; exact h1 k hk
  · rw [F.1 (hh + 9) (by omega) (by omega) (by omega), F.1 (hh + 10) (by omega) (by omega) (by omega), F.1 (hh + 11) (by omega) (by omega) (by omega)]; exact h2 k j hk hj
  · rw [F.2 1 (by omega)]; exact h3
  · rw [F.1 _ (by omega) (by omega) (by omega)]; exact h4 i hi
theorem steps_of {o : Nat} {cd u c w : List Int} {τ : mm_Mem} (h : ∀ i, i < cd.length → τ o i = cd.getD i 0) (e : cd = u ++ c ++ w) : stepsAt o u.length c τ := fun j hj => by
  subst e
  rw [h _ (by rw [List.length_append, List.length_append]; omega), List.getD_eq_getElem?_getD, List.getD_eq_getElem?_getD, List.append_assoc, List.getElem?_append_right (by omega), List.getElem?_append_left (by omega)]
  congr 2; omega
section CWst
variable {E : mm_Env} {d : Nat} {τ : mm_Mem} {Q : mm_Q0} {hh : Nat} {β : mm_Mem} {cd cd' : List Int} {F : Nat → Int}
theorem c_chooseL {kd : Nat} {y : Int} (h4 : hh = 4 ∨ hh = 38) (hk : kd < 3) (H : siH β) (R : siR β cd cd') (hl : cd.length ≤ 1600) (hF : ∀ i, i < 6 → bd6 (F i)) : ∀ (c j : Nat) (τ : mm_Mem), ((j + c : Nat) : Int) = β 0 (8 + kd) → RuS hh β cd τ → (∀ i, i < 6 → τ (hh + 6 + 6) i = F i) → (∀ τ', frU (hh + 6) τ τ' → Q (some (vI ((chG β cd F kd c j).getD y))) τ') → V0 E (d + 3) qX5_choose 2 [some (vR (hh + 6)), some (vI (kd : Int)), some (vI y), some (vI (j : Int)), none] [] τ Q := by
  have m6 : β 0 (8 + kd) ≤ 6 := by
    obtain ⟨-, ⟨-, b1, -, b2, -, b3⟩, -⟩ := H
    have : kd = 0 ∨ kd = 1 ∨ kd = 2 := by omega
    rcases this with h | h | h <;> subst h
    · exact b1
    · exact b2
    · show β 0 10 ≤ 6; omega
  intro c
  induction c with
  | zero =>
    intro j τ hj S hf k1
    refine bX5_choose_2 (d := d + 2) (kdR h4).2 ?_
    rw [Int.toNat_natCast, show τ (hh + 6 + 2) kd = β 0 (8 + kd) from S.1 kd hk]
    exact ⟨by omega, by omega, ⟨by omega, by omega⟩, fun _ => k1 τ frU.rf, fun q => by omega⟩
  | succ c ih =>
    intro j τ hj S hf k1
    obtain ⟨u, x, t, w, u', c', t', w', ⟨e, e', ⟨a1, a2, a3⟩, -, ⟨o1, v1, o2, v2⟩, -, bS, bT⟩⟩ := ru_v hF (R kd j hk (by omega))
    obtain ⟨s1, s2, s3, s4⟩ := id S
    obtain ⟨r1, r2, r3⟩ := s2 kd j hk (by omega)
    have ix : ((kd : Int) * 6 + (j : Int)).toNat = 6 * kd + j := by omega
    have L : cd.length = u.length + x.length + t.length + w.length := by rw [e]; simp only [List.length_append]
    refine bX5_choose_2 (d := d + 2) (kdR h4).2 ?_
    rw [Int.toNat_natCast, show τ (hh + 6 + 2) kd = β 0 (8 + kd) from s1 kd hk, ix, show τ (hh + 6 + 4) (6 * kd + j) = β 41 (6 * kd + j) from r2, show τ (hh + 6 + 5) (6 * kd + j) = β 42 (6 * kd + j) from r3]
    refine ⟨by omega, by omega, ⟨by omega, by omega⟩, fun q => by omega, fun _ => ⟨fun q => by omega, fun _ => ⟨by omega, by omega, by omega, by omega, ?_⟩⟩⟩
    refine c_run (F := F) (c := t) (p := (u ++ x).length) (v := vTs β cd F (6 * kd + j)) (d := d) (kdR h4).2 hF (steps_of (u := u ++ x) (c := t) (w := w) s4 (by rw [e])) a2 (by rw [a3, List.length_append]) (by rw [a3, s3, L]; simp; omega) (by rw [s3]; omega) hf o2 v2 (fun τ1 F1 => ⟨_, rfl, bd6_R (b01_6 bT), fun q => ?_, fun q => ⟨by omega, by omega, by omega, by omega, ?_⟩⟩)
    · rw [chG, if_neg (by omega)] at k1
      rw [show (j : Int) + 1 = ((j + 1 : Nat) : Int) by omega]
      exact ih (j + 1) τ1 (by rw [show j + 1 + c = j + (c + 1) by omega]; exact hj) (S.n F1.n) (fun i hi => by rw [F1.1 _ (by omega) (by omega)]; exact hf i hi) (fun τ2 F2 => k1 τ2 (F1.tr F2))
    · rw [chG, if_pos q] at k1
      have S1 := S.n F1.n
      obtain ⟨t1, t2, t3, t4⟩ := id S1
      obtain ⟨q1, q2, q3⟩ := t2 kd j hk (by omega)
      rw [show τ1 (hh + 6 + 3) (6 * kd + j) = β 40 (6 * kd + j) from q1, show τ1 (hh + 6 + 4) (6 * kd + j) = β 41 (6 * kd + j) from q2]
      refine c_run (F := F) (c := x) (p := u.length) (v := vSm β cd F (6 * kd + j)) (d := d) (kdR h4).2 hF (steps_of (u := u) (c := x) (w := t ++ w) t4 (by rw [e]; simp)) a1 (by rw [a2, List.length_append]) (by rw [a2, t3, L]; simp; omega) (by rw [t3]; omega) (fun i hi => by rw [F1.1 _ (by omega) (by omega)]; exact hf i hi) o1 v1 (fun τ2 F2 => ⟨_, rfl, k1 τ2 (F1.tr F2)⟩)
theorem c_choose {kd : Nat} {x y : Int} (h4 : hh = 4 ∨ hh = 38) (hk : kd < 3) (hx : x = (kd : Int)) (H : siH β) (R : siR β cd cd') (hl : cd.length ≤ 1600) (hF : ∀ i, i < 6 → bd6 (F i)) (S : RuS hh β cd τ) (hf : ∀ i, i < 6 → τ (hh + 6 + 6) i = F i) (k1 : ∀ τ', frU (hh + 6) τ τ' → Q (some (vI ((chP β cd F kd).getD y))) τ') : M0 E (d + 3) qX5_choose [vR (hh + 6), vI x, vI y] τ Q := by
  subst hx
  have b0 : 0 ≤ β 0 (8 + kd) := by
    obtain ⟨-, ⟨b1, -, b2, -, b3, -⟩, -⟩ := H
    have : kd = 0 ∨ kd = 1 ∨ kd = 2 := by omega
    rcases this with h | h | h <;> subst h
    · exact b1
    · exact b2
    · exact b3
  exact mX5_choose (d := d + 2) (kdR h4).2 (c_chooseL h4 hk H R hl hF _ 0 τ (by omega) S hf k1)
/-- a whistle, packed -/
def pkW (β : mm_Mem) (s : (Nat → Int) × Int) : Nat → Nat := fun i => if (i : Int) < β 0 4 then (s.1 i).toNat else 0
theorem pk_ok {s : (Nat → Int) × Int} (H : siH β) (w : okW β s) : tp_ok (pkW β s) := fun i _ => by
  unfold pkW
  split
  · rename_i h
    have := w.1 i h
    have := H.1
    omega
  · omega
def wRw (β : mm_Mem) (cd : List Int) (t m : Nat) (τ : mm_Mem) : Prop := τ (79 + 1 + t) m = (tp (pkW β (wsP β cd t m)) : Nat) ∧ τ (83 + 1 + t) m = numA (β 0 3) (wsP β cd t m).1 (β 0 4).toNat ∧ τ (87 + 1 + t) m = (wsP β cd t m).2
theorem pk_num {s : (Nat → Int) × Int} (H : siH β) (w : okW β s) : ∀ k : Nat, (k : Int) ≤ β 0 4 → numA (β 0 3) (fun i => (pkW β s i : Int)) k = numA (β 0 3) s.1 k := fun k hk => by
  refine num_congr k (fun i hi => ?_)
  have := w.1 i (by omega)
  show ((if (i : Int) < β 0 4 then (s.1 i).toNat else 0 : Nat) : Int) = s.1 i
  rw [if_pos (by omega)]; omega
theorem ws_num {s : (Nat → Int) × Int} (H : siH β) (w : okW β s) : ∀ k : Nat, (k : Int) ≤ β 0 4 → 0 ≤ numA (β 0 3) s.1 k ∧ numA (β 0 3) s.1 k ≤ 7775 := fun k hk => by
  have h := H.1
  have r := num_range (nt := β 0 3) (by omega) (f := s.1) k (fun i hi => w.1 i (by omega))
  have p : β 0 3 ^ k ≤ 6 ^ 5 := by
    have h1 : (β 0 3).toNat ^ k ≤ 6 ^ 5 := Nat.le_trans (Nat.pow_le_pow_left (show (β 0 3).toNat ≤ 6 by omega) k) (Nat.pow_le_pow_right (by omega) (by omega))
    have h2 : (((β 0 3).toNat ^ k : Nat) : Int) = β 0 3 ^ k := by rw [Int.natCast_pow, Int.toNat_of_nonneg (by omega)]
    omega
  have : (6 : Int) ^ 5 = 7776 := by decide
  omega
theorem c_putL {t m : Nat} {s : (Nat → Int) × Int} {x : Int} (H : siH β) (w : okW β s) (ht : t < 3) (hm : m < 1000) (hx : x = (tp (pkW β s) : Nat)) (h3 : τ 78 3 = β 0 3) (h4 : τ 78 4 = β 0 4) (k1 : Q none (wr (wr (wr τ (79 + 1 + t) m (tp (pkW β s) : Nat)) (83 + 1 + t) m (numA (β 0 3) s.1 (β 0 4).toNat)) (87 + 1 + t) m s.2)) : ∀ (c i : Nat), (i : Int) + c = β 0 4 → V0 E (d + 1) qX9_put 6 [some (vR 78), some (vI (t : Int)), some (vI (m : Int)), some (vI x), some (vI s.2), some (vI (numA (β 0 3) s.1 i)), some (vI (i : Int))] [] τ Q := by
  subst hx
  have h := H.1
  have tl := tp_lt (pk_ok H w)
  intro c
  induction c with
  | zero =>
    intro i hi
    have ei : i = (β 0 4).toNat := by omega
    have nb := ws_num H w i (by omega)
    have := w.2
    refine bX9_put_6 ?_
    rw [h4, Int.toNat_natCast, Int.toNat_natCast]
    refine ⟨⟨by omega, by omega⟩, fun _ => ⟨by omega, by omega, by omega, by omega, ⟨by omega, by omega⟩, by omega, by omega, by omega, by omega, ⟨by omega, by omega⟩, by omega, by omega, by omega, by omega, ⟨by omega, by omega⟩, ?_⟩, fun q => by omega⟩
    rw [ei]; exact k1
  | succ c ih =>
    intro i hi
    refine bX9_put_6 ?_
    rw [h4, h3]
    refine ⟨⟨by omega, by omega⟩, fun q => by omega, fun _ => c_noteIn (pk_ok H w) (by omega) (by omega) ⟨_, rfl, ?_⟩⟩
    have wi := w.1 i (by omega)
    have e : numA (β 0 3) s.1 i * β 0 3 + ((pkW β s ((i : Int).toNat) : Nat) : Int) = numA (β 0 3) s.1 (i + 1) := by
      rw [numA, Int.toNat_natCast]
      have : ((pkW β s i : Nat) : Int) = s.1 i := by unfold pkW; rw [if_pos (by omega)]; omega
      rw [this]
    rw [e, show (i : Int) + 1 = ((i + 1 : Nat) : Int) by omega]
    exact ih (i + 1) (by omega)
theorem c_put {t m : Nat} {s : (Nat → Int) × Int} {x y z u : Int} (H : siH β) (w : okW β s) (ht : t < 3) (hm : m < 1000) (hy : y = (t : Int)) (hz : z = (m : Int)) (hx : x = (tp (pkW β s) : Nat)) (hu : u = s.2) (h3 : τ 78 3 = β 0 3) (h4 : τ 78 4 = β 0 4) (k1 : Q none (wr (wr (wr τ (79 + 1 + t) m (tp (pkW β s) : Nat)) (83 + 1 + t) m (numA (β 0 3) s.1 (β 0 4).toNat)) (87 + 1 + t) m s.2)) : M0 E (d + 1) qX9_put [vR 78, vI y, vI z, vI x, vI u] τ Q := by
  subst hy; subst hz; subst hu
  have h := H.1
  exact mX9_put (c_putL H w ht hm hx h3 h4 k1 (β 0 4).toNat 0 (by omega))
theorem sm_pk {s : (Nat → Int) × Int} (w : okW β s) : ∀ k : Nat, (k : Int) ≤ β 0 4 → ((smN (pkW β s) k : Nat) : Int) = smP s.1 k
  | 0, _ => rfl
  | k + 1, hk => by
    have := w.1 k (by omega)
    have e : ((pkW β s k : Nat) : Int) = s.1 k := by unfold pkW; rw [if_pos (by omega)]; omega
    have ih := sm_pk w k (by omega)
    show ((smN (pkW β s) k + pkW β s k : Nat) : Int) = smP s.1 k + s.1 k
    omega
theorem pk_up {s : (Nat → Int) × Int} (H : siH β) : ∀ i, i < 5 → tp_up (pkW β s) (plP β cd s.1 s.2).toNat (ntP β cd s.1 s.2).toNat i = pkW β (nxP β cd s) i := fun i hi => by
  have p := pl_r (cd := cd) (s := s) H
  have q := nt_r (cd := cd) (s := s) H
  unfold tp_up pkW nxP
  by_cases e : i = (plP β cd s.1 s.2).toNat
  · rw [if_pos e, if_pos (by omega)]
    show _ = (if (i : Int) = plP β cd s.1 s.2 then ntP β cd s.1 s.2 else s.1 i).toNat
    rw [if_pos (by omega)]
  · rw [if_neg e]
    by_cases e2 : (i : Int) < β 0 4
    · rw [if_pos e2, if_pos e2]
      show _ = (if (i : Int) = plP β cd s.1 s.2 then ntP β cd s.1 s.2 else s.1 i).toNat
      rw [if_neg (by omega)]
    · rw [if_neg e2, if_neg e2]
theorem c_makeNext {t m : Nat} {x y : Int} (h4 : hh = 4 ∨ hh = 38) (H : siH β) (T : siT β) (R : siR β cd cd') (hl : cd.length ≤ 1600) (ht : (t : Int) < β 0 5) (hm : m + 1 < 1000) (hx : x = (t : Int)) (hy : y = ((m + 1 : Nat) : Int)) (S : RuS hh β cd τ) (h3 : τ 78 3 = β 0 3) (hL : τ 78 4 = β 0 4) (W : wRw β cd t m τ) (k1 : ∀ τ1, frN hh τ τ1 → Q none (wr (wr (wr τ1 (79 + 1 + t) (m + 1) (tp (pkW β (wsP β cd t (m + 1))) : Nat)) (83 + 1 + t) (m + 1) (numA (β 0 3) (wsP β cd t (m + 1)).1 (β 0 4).toNat)) (87 + 1 + t) (m + 1) (wsP β cd t (m + 1)).2)) : M0 E (d + 4) qX9_makeNext [vR 78, vR (hh + 6), vI x, vI y] τ Q := by
  subst hx; subst hy
  have h := H.1
  have w := ws_ok (cd := cd) H T ht m
  have w' := ws_ok (cd := cd) H T ht (m + 1)
  have ew : wsP β cd t (m + 1) = nxP β cd (wsP β cd t m) := rfl
  obtain ⟨W1, W2, W3⟩ := W
  generalize hs : wsP β cd t m = s at w W1 W2 W3 ew
  have g := pk_ok H w
  have e1 : ((m + 1 : Nat) : Int) - 1 = (m : Int) := by omega
  have pr := pl_r (cd := cd) (s := s) H
  have nr := nt_r (cd := cd) (s := s) H
  have kr := kp_r (cd := cd) w
  have w2 := w.2
  have pk : ∀ i : Nat, (i : Int) < β 0 4 → ((pkW β s i : Nat) : Int) = s.1 i := fun i hi => by have := w.1 i hi; unfold pkW; rw [if_pos hi]; omega
  refine mX9_makeNext (d := d + 3) (kdR h4).2 ?_
  rw [e1, Int.toNat_natCast, Int.toNat_natCast, W1, W3, hL, show β 0 4 = ((β 0 4).toNat : Int) by omega]
  refine ⟨by omega, by omega, by omega, by omega, by omega, by omega, by omega, by omega, c_sumOf (d := d + 2) g (by omega) ⟨_, rfl, c_noteIn g (by omega) (by omega) ⟨_, rfl, ?_⟩⟩⟩
  rw [hL]
  refine c_noteIn g (by omega) (by omega) ⟨_, rfl, ?_⟩
  rw [sm_pk w _ (by omega), pk _ (by show ((Int.toNat 0 : Nat) : Int) < _; simp; omega), pk _ (by omega)]
  have f0 := fc_b (old := 0) (here := 0) H w (by omega) (by omega)
  have b0 := f0 0 (by omega)
  have b1 := f0 1 (by omega)
  have b2 := f0 2 (by omega)
  have z0 : (Int.toNat 0) = 0 := rfl
  have z2 : (β 0 4 - 1).toNat = (β 0 4).toNat - 1 := by omega
  rw [z0, z2]
  refine mX5_tell (kdR h4).2 ⟨bd6_R b0, bd6_R b1, bd6_R b2, ⟨by omega, by omega⟩, rfl, mX5_point (kdR h4).2 ⟨by decide, by decide, rfl, ?_⟩⟩
  generalize hτ1 : wr (wr (wr (wr (wr (wr τ (hh + 6 + 6) 0 (smP s.1 (β 0 4).toNat)) (hh + 6 + 6) 1 (s.1 0)) (hh + 6 + 6) 2 (s.1 ((β 0 4).toNat - 1))) (hh + 6 + 6) 5 s.2) (hh + 6 + 6) 3 0) (hh + 6 + 6) 4 0 = τ1
  have F1 : frN hh τ τ1 := by rw [← hτ1]; exact (((((frN.rf.w).w).w).w).w).w
  have fc1 : ∀ i, i < 6 → τ1 (hh + 6 + 6) i = fcP (β 0 4).toNat s.1 s.2 0 0 i := fun i hi => by
    rw [← hτ1]
    have : i = 0 ∨ i = 1 ∨ i = 2 ∨ i = 3 ∨ i = 4 ∨ i = 5 := by omega
    rcases this with h | h | h | h | h | h <;> subst h <;> simp [wr, fcP]
  clear hτ1
  refine c_choose (d := d) (kd := 0) h4 (by omega) rfl H R hl f0 (S.n F1) fc1 (fun τ2 F2 => ⟨_, rfl, ?_⟩)
  have F12 := F1.tr F2.n
  rw [F12.1 78 (by omega) (by omega) (by omega), hL]
  have cR : ∀ {o : Option Int} {y : Int}, (∀ v, o = some v → bd6 v) → inR y → inR (o.getD y) := fun {o y} hb hy => by
    match o, hb with
    | none, _ => exact hy
    | some v, hb => exact bd6_R (hb v rfl)
  have chb : ∀ (kd : Nat) (F : Nat → Int), kd < 3 → (∀ i, i < 6 → bd6 (F i)) → ∀ v, chP β cd F kd = some v → bd6 v := fun kd F hk hF v e => by
    refine ch_b hF R hk (β 0 (8 + kd)).toNat 0 ?_ e
    obtain ⟨-, ⟨c1, -, c2, -, c3, -⟩, -⟩ := H
    have : kd = 0 ∨ kd = 1 ∨ kd = 2 := by omega
    rcases this with h | h | h <;> subst h
    · show ((0 + (β 0 8).toNat : Nat) : Int) ≤ β 0 8; omega
    · show ((0 + (β 0 9).toNat : Nat) : Int) ≤ β 0 9; omega
    · show ((0 + (β 0 10).toNat : Nat) : Int) ≤ β 0 10; omega
  refine c_modulo (d := d + 2) (cR (chb 0 _ (by omega) f0) (by decide)) ⟨by omega, by omega⟩ (by omega) ⟨_, rfl, ?_⟩
  have epl : (chP β cd (fcP (β 0 4).toNat s.1 s.2 0 0) 0).getD 0 % β 0 4 = plP β cd s.1 s.2 := by
    unfold plP
    cases chP β cd (fcP (β 0 4).toNat s.1 s.2 0 0) 0 with
    | none => exact Int.zero_emod _
    | some v => rfl
  rw [epl]
  refine c_noteIn g pr.1 (by omega) ⟨_, rfl, ?_⟩
  rw [pk _ (by omega)]
  have wo := w.1 (plP β cd s.1 s.2).toNat (by omega)
  have f1 := fc_b (old := s.1 (plP β cd s.1 s.2).toNat) (here := plP β cd s.1 s.2) H w (by omega) (by omega)
  refine mX5_point (kdR h4).2 ⟨⟨by omega, by omega⟩, ⟨by omega, by omega⟩, rfl, ?_⟩
  generalize hτ3 : wr (wr τ2 (hh + 6 + 6) 3 (s.1 (plP β cd s.1 s.2).toNat)) (hh + 6 + 6) 4 (plP β cd s.1 s.2) = τ3
  have F3 : frN hh τ τ3 := by rw [← hτ3]; exact (F12.w).w
  have fc3 : ∀ i, i < 6 → τ3 (hh + 6 + 6) i = fcP (β 0 4).toNat s.1 s.2 (s.1 (plP β cd s.1 s.2).toNat) (plP β cd s.1 s.2) i := fun i hi => by
    rw [← hτ3]
    have q : ∀ i, i < 6 → τ2 (hh + 6 + 6) i = fcP (β 0 4).toNat s.1 s.2 0 0 i := fun i hi => by rw [F2.1 _ (by omega) (by omega)]; exact fc1 i hi
    have : i = 0 ∨ i = 1 ∨ i = 2 ∨ i = 3 ∨ i = 4 ∨ i = 5 := by omega
    rcases this with h | h | h | h | h | h <;> subst h
    · rw [wr_row (by omega), wr_row (by omega), q 0 (by omega)]; rfl
    · rw [wr_row (by omega), wr_row (by omega), q 1 (by omega)]; rfl
    · rw [wr_row (by omega), wr_row (by omega), q 2 (by omega)]; rfl
    · rw [wr_row (by omega), wr_same]; rfl
    · rw [wr_same]; rfl
    · rw [wr_row (by omega), wr_row (by omega), q 5 (by omega)]; rfl
  clear hτ3
  refine c_choose (d := d) (kd := 1) h4 (by omega) rfl H R hl f1 (S.n F3) fc3 (fun τ4 F4 => ⟨_, rfl, ?_⟩)
  have F34 := F3.tr F4.n
  rw [F34.1 78 (by omega) (by omega) (by omega), h3]
  refine c_modulo (d := d + 2) (cR (chb 1 _ (by omega) f1) ⟨by omega, by omega⟩) ⟨by omega, by omega⟩ (by omega) ⟨_, rfl, ?_⟩
  have ent : (chP β cd (fcP (β 0 4).toNat s.1 s.2 (s.1 (plP β cd s.1 s.2).toNat) (plP β cd s.1 s.2)) 1).getD (s.1 (plP β cd s.1 s.2).toNat + 1) % β 0 3 = ntP β cd s.1 s.2 := by
    unfold ntP
    cases chP β cd (fcP (β 0 4).toNat s.1 s.2 (s.1 (plP β cd s.1 s.2).toNat) (plP β cd s.1 s.2)) 1 with
    | none => rfl
    | some v => rfl
  rw [ent]
  refine mX5_point (kdR h4).2 ⟨by decide, by decide, rfl, ?_⟩
  generalize hτ5 : wr (wr τ4 (hh + 6 + 6) 3 0) (hh + 6 + 6) 4 0 = τ5
  have F5 : frN hh τ τ5 := by rw [← hτ5]; exact (F34.w).w
  have fc5 : ∀ i, i < 6 → τ5 (hh + 6 + 6) i = fcP (β 0 4).toNat s.1 s.2 0 0 i := fun i hi => by
    rw [← hτ5]
    have q : ∀ i, i < 6 → τ4 (hh + 6 + 6) i = fcP (β 0 4).toNat s.1 s.2 (s.1 (plP β cd s.1 s.2).toNat) (plP β cd s.1 s.2) i := fun i hi => by rw [F4.1 _ (by omega) (by omega)]; exact fc3 i hi
    have : i = 0 ∨ i = 1 ∨ i = 2 ∨ i = 3 ∨ i = 4 ∨ i = 5 := by omega
    rcases this with h | h | h | h | h | h <;> subst h
    · rw [wr_row (by omega), wr_row (by omega), q 0 (by omega)]; rfl
    · rw [wr_row (by omega), wr_row (by omega), q 1 (by omega)]; rfl
    · rw [wr_row (by omega), wr_row (by omega), q 2 (by omega)]; rfl
    · rw [wr_row (by omega), wr_same]; rfl
    · rw [wr_same]; rfl
    · rw [wr_row (by omega), wr_row (by omega), q 5 (by omega)]; rfl
  clear hτ5
  refine c_withNote g pr.1 (by omega) nr.1 (by omega) ⟨_, rfl, ?_⟩
  refine c_choose (d := d) (kd := 2) h4 (by omega) rfl H R hl f0 (S.n F5) fc5 (fun τ6 F6 => ⟨_, rfl, ?_⟩)
  have F56 := F5.tr F6.n
  refine c_modulo (d := d + 2) (cR (chb 2 _ (by omega) f0) ⟨by omega, by omega⟩) (by decide) (by omega) ⟨_, rfl, ?_⟩
  have ekp : (chP β cd (fcP (β 0 4).toNat s.1 s.2 0 0) 2).getD s.2 % 100 = kpP β cd s.1 s.2 := by
    unfold kpP
    cases chP β cd (fcP (β 0 4).toNat s.1 s.2 0 0) 2 with
    | none => exact Int.emod_eq_of_lt w2.1 (show s.2 < 100 by omega)
    | some v => rfl
  rw [ekp]
  have etp : tp (tp_up (pkW β s) (plP β cd s.1 s.2).toNat (ntP β cd s.1 s.2).toNat) = tp (pkW β (nxP β cd s)) := tp_congr (pk_up H)
  rw [etp, ← ew]
  refine c_put (d := d + 2) (s := wsP β cd t (m + 1)) H w' (by omega) hm rfl rfl rfl (by rw [ew]; rfl) (by rw [F56.1 78 (by omega) (by omega) (by omega)]; exact h3) (by rw [F56.1 78 (by omega) (by omega) (by omega)]; exact hL) ⟨rfl, k1 τ6 F56⟩
end CWst
