/-! the class reads statements: door, person -/
theorem kdDo {hh d : Nat} (h : hh = 4 ∨ hh = 38) (hd : d < 4) : KD (hh + 14 + 4 * d) = some (.inr 0) ∧ KD (hh + 14 + 4 * d + 1) = some (.inl (.int, 3)) ∧ KD (hh + 14 + 4 * d + 2) = some (.inl (.int, 3)) ∧ KD (hh + 14 + 4 * d + 3) = some (.inl (.int, 3)) := by
  have : d = 0 ∨ d = 1 ∨ d = 2 ∨ d = 3 := by omega
  rcases h with h | h <;> subst h <;> rcases this with h | h | h | h <;> subst h <;> exact ⟨rfl, rfl, rfl, rfl⟩
theorem kdPe {hh p : Nat} (h : hh = 4 ∨ hh = 38) (hp : p < 4) : KD (hh + 30 + p) = some (.inr 3) := by
  have : p = 0 ∨ p = 1 ∨ p = 2 ∨ p = 3 := by omega
  rcases h with h | h <;> subst h <;> rcases this with h | h | h | h <;> subst h <;> rfl
section CSt3
variable {E : mm_Env} {d : Nat} {τ : mm_Mem} {Q : mm_Q0} {r : Nat → Int} {n hh : Nat} {a : Nat} {β : mm_Mem} {cd cd' : List Int}
theorem c_fillW {o m : Nat} {v : Int} (kd : KD o = some (.inl (.int, m))) (ho : 2 ≤ o) (hm : m ≤ 100000) (hv : inR v) (k1 : ∀ τ', (∀ x, x ≠ o → τ' x = τ x) → (∀ j, j < m → τ' o j = v) → Q none τ') : M0 E d qJ7_fill_53178 [vR o, vI v] τ Q :=
  mJ7_fill_53178 kd ho (by omega) (c_fillWL kd ho hm hv m 0 τ (by omega) (fun j hj => by omega) k1)
/-- a new door -/
def DoS (D : Nat) (nm kd one two : Int) (τ : mm_Mem) : Prop := (τ D 0 = nm ∧ τ D 1 = kd ∧ τ D 2 = one ∧ τ D 3 = two) ∧ (τ D 4 = 0 ∧ τ D 5 = -1 ∧ τ D 6 = 0 ∧ τ D 7 = 0) ∧ ∀ t, t < 3 → τ (D + 1) t = 0 ∧ τ (D + 2) t = -1 ∧ τ (D + 3) t = 0
theorem DoS.fr {D : Nat} {nm kd one two : Int} {τ' : mm_Mem} (h : DoS D nm kd one two τ) (e : ∀ o, D ≤ o → o < D + 4 → τ' o = τ o) : DoS D nm kd one two τ' := by
  unfold DoS; rw [e D (by omega) (by omega), e (D + 1) (by omega) (by omega), e (D + 2) (by omega) (by omega), e (D + 3) (by omega) (by omega)]; exact h
theorem c_doorBegin {D : Nat} {x : Int} (k0 : KD D = some (.inr 0)) (k1 : KD (D + 1) = some (.inl (.int, 3))) (k2 : KD (D + 2) = some (.inl (.int, 3))) (k3 : KD (D + 3) = some (.inl (.int, 3))) (hD : 2 ≤ D) (hx : inR x) (kk : ∀ τ', DoS D x 0 0 0 τ' → (∀ o, ¬ (D ≤ o ∧ o < D + 4) → τ' o = τ o) → Q none τ') : M0 E (d + 1) qX0_begin [vR D, vI x] τ Q := by
  refine mX0_begin k0 ⟨hx, c_fillW k1 (by omega) (by omega) (by decide) (fun τ1 F1 N1 => ⟨rfl, c_fillW k2 (by omega) (by omega) (by decide) (fun τ2 F2 N2 => ⟨rfl, c_fillW k3 (by omega) (by omega) (by decide) (fun τ3 F3 N3 => ⟨rfl, kk τ3 ⟨⟨?_, ?_, ?_, ?_⟩, ⟨?_, ?_, ?_, ?_⟩, fun t ht => ⟨?_, ?_, N3 t ht⟩⟩ (fun o ho => ?_)⟩)⟩)⟩)⟩
  · rw [F3 _ (by omega), F2 _ (by omega), F1 _ (by omega)]; simp [wr]
  · rw [F3 _ (by omega), F2 _ (by omega), F1 _ (by omega)]; simp [wr]
  · rw [F3 _ (by omega), F2 _ (by omega), F1 _ (by omega)]; simp [wr]
  · rw [F3 _ (by omega), F2 _ (by omega), F1 _ (by omega)]; simp [wr]
  · rw [F3 _ (by omega), F2 _ (by omega), F1 _ (by omega)]; simp [wr]
  · rw [F3 _ (by omega), F2 _ (by omega), F1 _ (by omega)]; simp [wr]
  · rw [F3 _ (by omega), F2 _ (by omega), F1 _ (by omega)]; simp [wr]
  · rw [F3 _ (by omega), F2 _ (by omega), F1 _ (by omega)]; simp [wr]
  · rw [F3 _ (by omega), F2 _ (by omega)]; exact N1 t ht
  · rw [F3 _ (by omega)]; exact N2 t ht
  · have oD : o ≠ D := by omega
    rw [F3 _ (by omega), F2 _ (by omega), F1 _ (by omega), wr_obj oD, wr_obj oD, wr_obj oD, wr_obj oD, wr_obj oD, wr_obj oD, wr_obj oD, wr_obj oD]
theorem RdC.cgo {op : Nat} {code : List Int} {τ' : mm_Mem} (h7 : hh + 7 < 72) (H : RdC r n hh a op code τ) (e : ∀ o, o = 77 ∨ o = 72 ∨ o = 73 ∨ o = 74 ∨ o = 75 ∨ o = hh + 6 ∨ o = hh + 7 → τ' o = τ o) : RdC r n hh a op code τ' := H.cg (fun i _ => by rw [e 77 (by omega)]) (fun o ho => e o (by omega)) (by rw [e (hh + 6) (by omega)])
theorem RdC.kdi (ha : a ≤ n) (hr : ∀ i, 0 ≤ r i ∧ r i ≤ 255) {op : Nat} {code : List Int} (H : RdC r n hh a op code τ) : (τ 77 3 = 4 ∧ 8 ≤ τ 77 4 ∧ τ 77 4 ≤ 12 → kdI r n a = τ 77 4 - 8) ∧ (¬ (τ 77 3 = 4 ∧ 8 ≤ τ 77 4 ∧ τ 77 4 ≤ 12) → kdI r n a = -1) := by
  have w : ∀ i : Nat, i < 29 → ((τ 77 3 = 4 ∧ τ 77 4 = (i : Int)) ↔ tWb r n a i = true) := fun i hi => H.wd ha hr hi
  have w8 := w 8 (by omega)
  have w9 := w 9 (by omega)
  have w10 := w 10 (by omega)
  have w11 := w 11 (by omega)
  have w12 := w 12 (by omega)
  unfold kdI
  refine ⟨fun q => ?_, fun q => ?_⟩
  · by_cases q8 : tWb r n a 8 = true
    · rw [if_pos q8]; have := w8.mpr q8; omega
    rw [if_neg q8]
    by_cases q9 : tWb r n a 9 = true
    · rw [if_pos q9]; have := w9.mpr q9; omega
    rw [if_neg q9]
    by_cases q10 : tWb r n a 10 = true
    · rw [if_pos q10]; have := w10.mpr q10; omega
    rw [if_neg q10]
    by_cases q11 : tWb r n a 11 = true
    · rw [if_pos q11]; have := w11.mpr q11; omega
    rw [if_neg q11]
    by_cases q12 : tWb r n a 12 = true
    · rw [if_pos q12]; have := w12.mpr q12; omega
    exfalso
    have : τ 77 4 = 8 ∨ τ 77 4 = 9 ∨ τ 77 4 = 10 ∨ τ 77 4 = 11 ∨ τ 77 4 = 12 := by omega
    rcases this with h | h | h | h | h
    · exact q8 (w8.mp ⟨q.1, h⟩)
    · exact q9 (w9.mp ⟨q.1, h⟩)
    · exact q10 (w10.mp ⟨q.1, h⟩)
    · exact q11 (w11.mp ⟨q.1, h⟩)
    · exact q12 (w12.mp ⟨q.1, h⟩)
  · rw [if_neg (fun z => q (by have := w8.mpr z; omega)), if_neg (fun z => q (by have := w9.mpr z; omega)), if_neg (fun z => q (by have := w10.mpr z; omega)), if_neg (fun z => q (by have := w11.mpr z; omega)), if_neg (fun z => q (by have := w12.mpr z; omega))]
theorem c_readDoor (h4 : hh = 4 ∨ hh = 38) (hr : ∀ i, 0 ≤ r i ∧ r i ≤ 255) (S : SIn n a β cd cd') (hw : tWb r n a 7 = true) (B : HbC hh β τ) (H : RdC r n hh a 0 cd τ) (kT : ∀ a1 β1 c1 c1', doP r n a β cd cd' = .inr (a1, β1, c1, c1') → ∀ τ', RdC r n hh a1 0 c1 τ' → HbC hh β1 τ' → frS hh τ τ' → Q (some (vB true)) τ') (kF : ∀ k p, doP r n a β cd cd' = .inl (k, p) → ∀ τ', RdF hh k p τ' → frS hh τ τ' → Q (some (vB false)) τ') : M0 E (d + 3) qX4_readDoor [vR 77] τ Q := by
  obtain ⟨ha, hc, hc', sh, sn, -⟩ := id S
  have s := sh.1
  have h7 : hh + 7 < 72 := by omega
  have t0 := tW_n ha hr hw
  obtain ⟨dd, ed⟩ : ∃ t : Nat, β 0 6 = (t : Int) := ⟨(β 0 6).toNat, by omega⟩
  have e3 : τ hh 3 = (dd : Int) := (B.1.1 3 (by omega)).trans ed
  unfold doP at kT kF
  rw [ed] at kT kF
  refine mX4_readDoor (d := d + 2) ⟨hh, H.1, (kdR h4).1, ?_⟩
  rw [e3]
  refine ⟨fun q => ?_, fun q => c_fail (k := 5) h7 (by omega) H (fun τ' u1 u2 => ⟨_, rfl, kF 5 _ (by rw [if_pos (by omega)]) τ' u1 u2.s⟩)⟩
  rw [if_neg (by omega)] at kT kF
  refine c_advance h7 (by rw [(tW_k hw).1]; omega) H (fun τ1 H1 F1 _ => ⟨rfl, ?_⟩)
  refine c_readNewName h4 t0.2 hr (B.r h4 (by omega) (by omega) F1) sn sh H1 (fun ev w1 t1 t2 τ2 H2 g2 F2 => ⟨true, rfl, fun _ => ?_, fun q => ff_tt q⟩) (fun k p ev τ2 R2 F2 => ⟨false, rfl, fun q => tt_ff q, fun _ => kF k p (ev _) τ2 R2 (F1.tr F2).s⟩)
  rw [ev] at kT kF
  have F12 := F1.tr F2
  have e32 : τ2 hh 3 = (dd : Int) := by rw [F12.1 hh (by omega) (by omega) (by omega)]; exact e3
  refine ⟨hh, H2.1, (kdR h4).1, hh, H2.1, (kdR h4).1, ?_⟩
  rw [e32, g2, Int.toNat_natCast]
  obtain ⟨K0, K1, K2, K3⟩ := kdDo (hh := hh) (d := dd) h4 (by omega)
  refine ⟨by omega, by omega, c_doorBegin K0 K1 K2 K3 (by omega) (nm5_R w1) (fun τ3 D3 F3 => ⟨rfl, hh, by rw [F3 77 (by omega)]; exact H2.1, (kdR h4).1, ?_⟩)⟩
  have e33 : τ3 hh 3 = (dd : Int) := by rw [F3 hh (by omega)]; exact e32
  rw [e33, wr_obj (show 77 ≠ hh by omega)]
  -- the reader stands at the kind
  have H3 : RdC r n hh (tN r n (tN r n a)) 0 cd τ3 := H2.cgo h7 (fun o ho => F3 o (by omega))
  have H4 : RdC r n hh (tN r n (tN r n a)) 0 cd (wr τ3 hh 3 ((dd : Int) + 1)) := H3.ow h4 (by omega) (by omega)
  have F4 : frS hh τ (wr τ3 hh 3 ((dd : Int) + 1)) := (F12.s.tr ⟨fun o h1 h2 => F3 o (by omega), fun i hi => by rw [F3 77 (by omega)]⟩).w h4 (by omega)
  obtain ⟨ky, kn⟩ := H3.kdi t2 hr
  have no : kdI r n (tN r n (tN r n a)) = -1 → M0 E (d + 2) qX4_fail [vR 77, vI 1] (wr τ3 hh 3 ((dd : Int) + 1)) (fun v τ26 => ∃ b27 : Bool, v = some (vB b27) ∧ Q (some (vB b27)) τ26) := fun z => by
    rw [if_pos z] at kF
    exact c_fail (k := 1) h7 (by omega) H4 (fun τ' u1 u2 => ⟨_, rfl, kF 1 _ rfl τ' u1 (F4.tr u2.s)⟩)
  refine ⟨⟨by omega, by omega⟩, fun q1 => no (kn (fun y => q1 y.1)), fun q1 => ⟨fun q2 => no (kn (fun y => by omega)), fun q2 => ⟨fun q3 => ?_, fun q3 => no (kn (fun y => by omega))⟩⟩⟩
  have kd := ky ⟨q1, by omega, q3⟩
  have kn1 : kdI r n (tN r n (tN r n a)) ≠ -1 := by omega
  have t3 := kd_n t2 hr kn1
  have k2 : 2 ≤ (tk r n (tN r n (tN r n a))).1 := by
    by_cases z : 2 ≤ (tk r n (tN r n (tN r n a))).1
    · exact z
    · exfalso
      have h3 := H3.2.2.1
      rw [q1] at h3
      unfold ckd at h3
      rw [if_neg (by omega)] at h3
      omega
  rw [if_neg kn1] at kT kF
  rw [← kd]
  generalize hkk : kdI r n (tN r n (tN r n a)) = kk at *
  refine ⟨⟨by omega, by omega⟩, c_advance h7 k2 (H4.ow h4 (by omega) (by omega)) (fun τ5 H5 F5 _ => ⟨rfl, ?_⟩)⟩
  -- the door as it stands now
  have D5 : DoS (hh + 14 + 4 * dd) (nm5 (tV r n (tN r n a))) kk 0 0 τ5 := by
    obtain ⟨⟨y1, y2, y3, y4⟩, ⟨y5, y6, y7, y8⟩, y9⟩ := D3
    refine DoS.fr (τ := wr (wr τ3 hh 3 ((dd : Int) + 1)) (hh + 14 + 4 * dd) 1 kk) ⟨⟨?_, wr_same, ?_, ?_⟩, ⟨?_, ?_, ?_, ?_⟩, fun t ht => ?_⟩ (fun o h1 h2 => F5.1 o (by omega) (by omega) (by omega))
    · rw [wr_row (by omega), wr_obj (by omega)]; exact y1
    · rw [wr_row (by omega), wr_obj (by omega)]; exact y3
    · rw [wr_row (by omega), wr_obj (by omega)]; exact y4
    · rw [wr_row (by omega), wr_obj (by omega)]; exact y5
    · rw [wr_row (by omega), wr_obj (by omega)]; exact y6
    · rw [wr_row (by omega), wr_obj (by omega)]; exact y7
    · rw [wr_row (by omega), wr_obj (by omega)]; exact y8
    · rw [wr_obj (by omega), wr_obj (by omega), wr_obj (by omega), wr_obj (by omega), wr_obj (by omega), wr_obj (by omega)]; exact y9 t ht
  have O5 : ∀ o, hh < o → o < hh + 34 → o ≠ hh + 6 → o ≠ hh + 7 → ¬ (hh + 14 + 4 * dd ≤ o ∧ o < hh + 14 + 4 * dd + 4) → τ5 o = τ o := fun o a1 a2 a3 a4 a5 => by
    rw [F5.1 o (by omega) a3 a4, wr_obj (by omega), wr_obj (by omega), F3 o a5, F12.1 o (by omega) a3 a4]
  have Z5 : ∀ i, i ≠ 3 → τ5 hh i = τ hh i := fun i hi => by
    rw [F5.1 hh (by omega) (by omega) (by omega), wr_obj (by omega), wr_row hi, F3 hh (by omega), F12.1 hh (by omega) (by omega) (by omega)]
  have T5 : τ5 hh 3 = (dd : Int) + 1 := by rw [F5.1 hh (by omega) (by omega) (by omega), wr_obj (by omega), wr_same]
  have F5s : frS hh τ τ5 := (F4.w h4 (by omega)).tr F5.s
  -- the end, from a memory that differs at the door alone
  have fin : ∀ (τ6 : mm_Mem) (a6 : Nat) (one two : Int), DoS (hh + 14 + 4 * dd) (nm5 (tV r n (tN r n a))) kk one two τ6 → (∀ o, hh ≤ o → o < hh + 34 → o ≠ hh + 6 → o ≠ hh + 7 → ¬ (hh + 14 + 4 * dd ≤ o ∧ o < hh + 14 + 4 * dd + 4) → τ6 o = τ5 o) → HbC hh (doE β (tV r n (tN r n a)) kk one two) τ6 := fun τ6 a6 one two D6 O6 => by
    obtain ⟨⟨y1, y2, y3, y4⟩, y5, y9⟩ := D6
    exact do_fin B S ed (by omega) (fun o a1 a2 a3 a4 a5 => (O6 o (by omega) a2 a3 a4 a5).trans (O5 o a1 a2 a3 a4 a5)) (fun i hi => by rw [O6 hh (by omega) (by omega) (by omega) (by omega) (by omega)]; exact Z5 i hi) (by rw [O6 hh (by omega) (by omega) (by omega) (by omega) (by omega)]; exact T5) y1 y2 y3 y4 y5 y9
  have ek : τ5 (hh + 14 + 4 * dd) 1 = kk := D5.1.2.1
  rw [ek]
  refine ⟨fun q5 => ?_, fun q5 => ?_⟩
  · rw [if_pos q5] at kT
    have := fin τ5 0 0 0 D5 (fun _ _ _ _ _ _ => rfl)
    rw [q5] at this
    exact kT _ _ _ _ rfl τ5 H5 this F5s
  · rw [if_neg q5] at kT kF
    -- the numbers of a kind
    have num : ∀ y0 : Int, y0 = (if kk = 2 then 1 else 0) → V0 E (d + 1 + 1) qX4_readKindNumbers 14 [some (vR 77), some (vR (hh + 14 + 4 * dd)), none] [vI y0, vR 77] τ5 (fun v τ36 => ∃ b37 : Bool, v = some (vB b37) ∧ ((b37 = false → Q (some (vB false)) τ36) ∧ (b37 = true → Q (some (vB true)) τ36))) := fun y0 ey => by
      subst ey
      refine bX4_readKindNumbers_14 K0 (c_readNumber h7 t3.2 hr (by split <;> decide) (by decide) H5 (fun ev6 _ l1 l2 t4 t5 τ6 H6 g6 F6 => ⟨true, rfl, fun _ => ?_, fun q => ff_tt q⟩) (fun k p ev6 τ6 R6 F6 => ⟨false, rfl, fun q => tt_ff q, fun _ => ⟨false, rfl, fun _ => kF k p (ev6 _) τ6 R6 (F5s.tr F6.s), fun q => tt_ff q⟩⟩))
      rw [ev6] at kT kF
      rw [g6]
      have D6 : DoS (hh + 14 + 4 * dd) (nm5 (tV r n (tN r n a))) kk 0 0 τ6 := D5.fr (fun o h1 h2 => F6.1 o (by omega) (by omega) (by omega))
      rw [D6.1.2.1]
      generalize tV r n (tN r n (tN r n (tN r n a))) = one at *
      have D7 : DoS (hh + 14 + 4 * dd) (nm5 (tV r n (tN r n a))) kk one 0 (wr τ6 (hh + 14 + 4 * dd) 2 one) := by
        obtain ⟨⟨y1, y2, y3, y4⟩, ⟨y5, y6, y7, y8⟩, y9⟩ := D6
        refine ⟨⟨?_, ?_, wr_same, ?_⟩, ⟨?_, ?_, ?_, ?_⟩, fun t ht => ?_⟩
        · rw [wr_row (by omega)]; exact y1
        · rw [wr_row (by omega)]; exact y2
        · rw [wr_row (by omega)]; exact y4
        · rw [wr_row (by omega)]; exact y5
        · rw [wr_row (by omega)]; exact y6
        · rw [wr_row (by omega)]; exact y7
        · rw [wr_row (by omega)]; exact y8
        · rw [wr_obj (by omega), wr_obj (by omega), wr_obj (by omega)]; exact y9 t ht
      have H7 : RdC r n hh (tN r n (tN r n (tN r n (tN r n a)))) 0 cd (wr τ6 (hh + 14 + 4 * dd) 2 one) := H6.ow h4 (by omega) (by omega)
      have F7 : frS hh τ (wr τ6 (hh + 14 + 4 * dd) 2 one) := (F5s.tr F6.s).w h4 (by omega)
      -- a second number
      have two : ∀ lo hi : Int, kk ≠ 2 → lo = (if kk = 4 then 1 else 0) → hi = (if kk = 3 then 4 else 9) → M0 E (d + 1) qX4_readNumber [vR 77, vI lo, vI hi] (wr τ6 (hh + 14 + 4 * dd) 2 one) (fun v τ5 => ∃ b6 : Bool, v = some (vB b6) ∧ ∃ b37 : Bool, some (vB b6) = some (vB b37) ∧ ((b37 = false → Q (some (vB false)) (wr τ5 (hh + 14 + 4 * dd) 3 (τ5 77 6))) ∧ (b37 = true → Q (some (vB true)) (wr τ5 (hh + 14 + 4 * dd) 3 (τ5 77 6))))) := fun lo hi k2 el eh => by
        rw [if_neg k2] at kT kF
        subst el; subst eh
        refine c_readNumber h7 t5 hr (by split <;> decide) (by split <;> decide) H7 (fun ev8 _ m1 m2 t6 t7 τ8 H8 g8 F8 => ⟨true, rfl, true, rfl, fun q => ff_tt q, fun _ => ?_⟩) (fun k p ev8 τ8 R8 F8 => ⟨false, rfl, false, rfl, fun _ => kF k p (ev8 _) _ ?_ ((F7.tr F8.s).w h4 (by omega)), fun q => tt_ff q⟩)
        · rw [ev8] at kT
          rw [g8]
          refine kT _ _ _ _ rfl _ (H8.ow h4 (by omega) (by omega)) (fin _ 0 _ _ ?_ (fun o a1 a2 a3 a4 a5 => by rw [wr_obj (by omega), F8.1 o (by omega) a3 a4, wr_obj (by omega), F6.1 o (by omega) a3 a4])) ((F7.tr F8.s).w h4 (by omega))
          obtain ⟨⟨y1, y2, y3, y4⟩, ⟨y5, y6, y7, y8⟩, y9⟩ := D7.fr (τ' := τ8) (fun o h1 h2 => F8.1 o (by omega) (by omega) (by omega))
          refine ⟨⟨?_, ?_, ?_, wr_same⟩, ⟨?_, ?_, ?_, ?_⟩, fun t ht => ?_⟩
          · rw [wr_row (by omega)]; exact y1
          · rw [wr_row (by omega)]; exact y2
          · rw [wr_row (by omega)]; exact y3
          · rw [wr_row (by omega)]; exact y5
          · rw [wr_row (by omega)]; exact y6
          · rw [wr_row (by omega)]; exact y7
          · rw [wr_row (by omega)]; exact y8
          · rw [wr_obj (by omega), wr_obj (by omega), wr_obj (by omega)]; exact y9 t ht
        · obtain ⟨r1, r2, r3, r4⟩ := R8
          exact ⟨by rw [wr_obj (by omega)]; exact r1, by rw [wr_obj (by omega)]; exact r2, by rw [wr_obj (by omega)]; exact r3, by rw [wr_obj (by omega)]; exact r4⟩
      refine ⟨fun q6 => by omega, fun q6 => ?_, fun q6 => ?_, fun q6 => ?_, fun q6 => ?_⟩
      · exact two 0 9 (by omega) (by rw [if_neg (by omega)]) (by rw [if_neg (by omega)])
      · rw [if_pos q6] at kT
        refine ⟨true, rfl, fun q => ff_tt q, fun _ => ?_⟩
        have := fin _ 0 _ _ D7 (fun o a1 a2 a3 a4 a5 => by rw [wr_obj (by omega), F6.1 o (by omega) a3 a4])
        rw [q6] at this
        exact kT _ _ _ _ rfl _ H7 this F7
      · exact two 0 4 (by omega) (by rw [if_neg (by omega)]) (by rw [if_pos q6])
      · exact two 1 9 (by omega) (by rw [if_pos q6]) (by rw [if_neg (by omega)])
    refine mX4_readKindNumbers (d := d + 1) K0 ?_
    rw [ek]
    exact ⟨fun q6 => num 0 (by rw [if_neg q6]), fun q6 => num 1 (by rw [if_pos q6])⟩
end CSt3
