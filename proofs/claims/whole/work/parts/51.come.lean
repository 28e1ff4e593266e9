/-! floorMod, draws; come, slip, waste, listen -/
theorem xor_sign {a b : Int} (ha : inR a) (hb : inR b) : (0 ≤ mm_xor a b) ↔ (0 ≤ a ↔ 0 ≤ b) := by
  have sg : ∀ x : Int, inR x → ((Int32.ofInt x).toBitVec.msb = decide (x < 0)) := by
    intro x hx
    have e : (Int32.ofInt x).toInt = x := Int32.toInt_ofInt_of_le (by have := hx.1; omega) (by have := hx.2; omega)
    rw [BitVec.msb_eq_toInt]
    rw [show (Int32.ofInt x).toBitVec.toInt = (Int32.ofInt x).toInt from rfl, e]
  have e : (0 ≤ mm_xor a b) ↔ (Int32.ofInt a ^^^ Int32.ofInt b).toBitVec.msb = false := by
    rw [BitVec.msb_eq_toInt, decide_eq_false_iff_not]
    unfold mm_xor
    rw [show (Int32.ofInt a ^^^ Int32.ofInt b).toBitVec.toInt = (Int32.ofInt a ^^^ Int32.ofInt b).toInt from rfl]
    omega
  rw [e, show (Int32.ofInt a ^^^ Int32.ofInt b).toBitVec = (Int32.ofInt a).toBitVec ^^^ (Int32.ofInt b).toBitVec from rfl, BitVec.msb_xor, sg a ha, sg b hb]
  by_cases q1 : 0 ≤ a <;> by_cases q2 : 0 ≤ b <;> simp [q1, q2] <;> omega
theorem lxor_sign {a b : Int} (ha : inL a) (hb : inL b) : (0 ≤ mm_lxor a b) ↔ (0 ≤ a ↔ 0 ≤ b) := by
  have sg : ∀ x : Int, inL x → ((Int64.ofInt x).toBitVec.msb = decide (x < 0)) := by
    intro x hx
    have e : (Int64.ofInt x).toInt = x := Int64.toInt_ofInt_of_le (by have := hx.1; omega) (by have := hx.2; omega)
    rw [BitVec.msb_eq_toInt]
    rw [show (Int64.ofInt x).toBitVec.toInt = (Int64.ofInt x).toInt from rfl, e]
  have e : (0 ≤ mm_lxor a b) ↔ (Int64.ofInt a ^^^ Int64.ofInt b).toBitVec.msb = false := by
    rw [BitVec.msb_eq_toInt, decide_eq_false_iff_not]
    unfold mm_lxor
    rw [show (Int64.ofInt a ^^^ Int64.ofInt b).toBitVec.toInt = (Int64.ofInt a ^^^ Int64.ofInt b).toInt from rfl]
    omega
  rw [e, show (Int64.ofInt a ^^^ Int64.ofInt b).toBitVec = (Int64.ofInt a).toBitVec ^^^ (Int64.ofInt b).toBitVec from rfl, BitVec.msb_xor, sg a ha, sg b hb]
  by_cases q1 : 0 ≤ a <;> by_cases q2 : 0 ≤ b <;> simp [q1, q2] <;> omega
/-- the remainder that is never negative, by the one of the machine -/
theorem tm_pos {a b : Int} (h : 0 ≤ a) : Int.tmod a b = a % b := Int.tmod_eq_emod_of_nonneg h
theorem tm_neg {a b : Int} (h : a < 0) (hb : 0 < b) : a % b = if Int.tmod a b = 0 then 0 else Int.tmod a b + b := by
  have e : Int.tmod a b = -Int.tmod (-a) b := by rw [Int.neg_tmod, Int.neg_neg]
  have e2 : Int.tmod (-a) b = (-a) % b := tm_pos (by omega)
  have r := Int.emod_nonneg (-a) (by omega : b ≠ 0)
  have r2 := Int.emod_lt_of_pos (-a) hb
  rw [e, e2]
  by_cases q : (-a) % b = 0
  · rw [if_pos (by omega)]
    exact Int.emod_eq_zero_of_dvd (Int.dvd_neg.mp (Int.dvd_of_emod_eq_zero q))
  · rw [if_neg (by omega)]
    have h1 : a % b = (b - (-a) % b) % b := by
      have d1 := Int.mul_ediv_add_emod (-a) b
      have : a = (b - (-a) % b) + b * (-((-a) / b) - 1) := by
        have m : b * (-((-a) / b) - 1) = -(b * ((-a) / b)) - b := by rw [Int.mul_sub, Int.mul_neg, Int.mul_one]
        rw [m]; omega
      conv => lhs; rw [this]
      rw [Int.add_mul_emod_self_left]
    rw [h1, Int.emod_eq_of_lt (by omega) (by omega)]
    omega
section Come
variable {E : mm_Env} {d k h b : Nat} {α τ : mm_Mem} {Q : mm_Q0}
theorem c_floorMod {x y : Int} (hx : inR x) (hy : inR y) (h1 : 1 ≤ y) (k1 : Q (some (vI (x % y))) τ) : M0 E d qJ9_floorMod_7cf53 [vI x, vI y] τ Q := by
  have r : inR (Int.tmod x y) := by
    by_cases q : 0 ≤ x
    · rw [tm_pos q]; have := Int.emod_nonneg x (by omega : y ≠ 0); have := Int.emod_lt_of_pos x (by omega : 0 < y); exact ⟨by omega, by have := hy.2; omega⟩
    · have e : Int.tmod x y = -Int.tmod (-x) y := by rw [Int.neg_tmod, Int.neg_neg]
      rw [e, tm_pos (by omega)]; have := Int.emod_nonneg (-x) (by omega : y ≠ 0); have := Int.emod_lt_of_pos (-x) (by omega : 0 < y); have := hy.2; exact ⟨by omega, by omega⟩
  refine mJ9_floorMod_7cf53 ⟨hx, hy, by omega, zm_inR _, fun q => ?_, fun q => ⟨r, fun q2 => ?_, fun q2 => ?_⟩⟩
  · rw [xor_sign hx hy] at q
    rw [tm_pos (q.mpr (by omega))]; exact k1
  · rw [xor_sign hx hy] at q
    rw [tm_neg (by omega) (by omega), if_pos q2] at k1
    rw [q2]; exact k1
  · rw [xor_sign hx hy] at q
    rw [tm_neg (by omega) (by omega), if_neg q2] at k1; exact k1
theorem c_modulo {x y : Int} (hx : inR x) (hy : inR y) (h1 : 1 ≤ y) (k1 : Q (some (vI (x % y))) τ) : M0 E (d + 1) qX10_modulo [vI x, vI y] τ Q :=
  mX10_modulo ⟨hy, fun _ => c_floorMod hx hy h1 ⟨_, rfl, k1⟩, fun q => absurd h1 q⟩
end Come
theorem hrA_cg {α α' : mm_Mem} (h0 : α' 0 = α 0) (h1 : α' 21 = α 21) : hrA α' = hrA α := by
  funext f kind one two e0 e1 e2 c hf tr
  unfold hrA oneA
  rw [opA_cg h0 h1]
theorem afC_cg {α α' : mm_Mem} (h0 : α' 0 = α 0) (h1 : α' 21 = α 21) : afC α' = afC α := by
  funext f kind one two e0 e1 e2 c hf tr t
  unfold afC oneA
  rw [hrA_cg h0 h1, opA_cg h0 h1]
theorem afH_cg {α α' : mm_Mem} (h0 : α' 0 = α 0) (h1 : α' 21 = α 21) : afH α' = afH α := by
  funext f kind one two e0 e1 e2 c hf tr t
  unfold afH vnH
  rw [hrA_cg h0 h1, msH_cg h0 h1]
theorem afT_cg {α α' : mm_Mem} (h0 : α' 0 = α 0) (h1 : α' 21 = α 21) : afT α' = afT α := by
  funext f kind one two e0 e1 e2 c hf tr t
  unfold afT
  rw [hrA_cg h0 h1]
/-- hearing does not look at persons' counts -/
theorem hn_cg {α α' : mm_Mem} {dd : Nat} {f : Nat → Nat} (r : ∀ j, (j < 12 ∨ 14 < j) → α' j = α j) : heR α' dd f = heR α dd f ∧ ∀ j, 14 < j → hnA α' dd f j = hnA α dd f j := by
  have e : earA α' = earA α := earA_cg (by rw [r 0 (by omega)]) (r 8 (by omega)) (r 9 (by omega))
  have c1 : c15 α' dd = c15 α dd := by unfold c15; rw [r 15 (by omega)]
  have c2 : c16 α' dd = c16 α dd := by unfold c16; rw [r 16 (by omega)]
  have c3 : c17 α' dd = c17 α dd := by unfold c17; rw [r 17 (by omega)]
  have h1 : heR α' dd f = heR α dd f := by
    unfold heR hrD
    rw [hrA_cg (r 0 (by omega)) (r 21 (by omega)), e, c1, c2, c3, r 5 (by omega), r 6 (by omega), r 7 (by omega)]
  refine ⟨h1, fun j hj => ?_⟩
  have h2 : heA α' dd f j = heA α dd f j := by
    unfold heA afD
    rw [afC_cg (r 0 (by omega)) (r 21 (by omega)), afH_cg (r 0 (by omega)) (r 21 (by omega)), afT_cg (r 0 (by omega)) (r 21 (by omega)), e, c1, c2, c3, r 5 (by omega), r 6 (by omega), r 7 (by omega)]
    funext i
    unfold setE
    rw [r j (by omega)]
  unfold hnA
  rw [h1, r 18 (by omega), r 19 (by omega), r 20 (by omega)]
  funext i
  have e3 : ∀ (m m' : mm_Mem) (o : Nat) (v : Int), m j = m' j → wr m o dd v j = wr m' o dd v j := fun m m' o v q => by
    by_cases z : j = o
    · subst z
      funext i
      by_cases y : i = dd
      · subst y; rw [wr_same, wr_same]
      · rw [wr_row y, wr_row y, q]
    · rw [wr_obj z, wr_obj z, q]
  rw [e3 _ _ _ _ (e3 _ _ _ _ (e3 _ _ _ _ h2))]
/-- somebody comes and whistles f -/
def cmA (α : mm_Mem) (p : Nat) (f : Nat → Nat) : mm_Mem := wr (wr (wr (hnA α (α 8 p).toNat f) 12 p (α 12 p + 1)) 13 p (if heR α (α 8 p).toNat f = -1 then α 13 p else α 13 p + 1)) 14 p (if heR α (α 8 p).toNat f = -1 then α 14 p + 1 else α 14 p)
def cmR (α : mm_Mem) (p : Nat) (f : Nat → Nat) : Int := heR α (α 8 p).toNat f
theorem cmA_o {α : mm_Mem} {p j : Nat} {f : Nat → Nat} (h : j < 12 ∨ 14 < j) : cmA α p f j = hnA α (α 8 p).toNat f j := by
  unfold cmA
  rw [wr_obj (by omega), wr_obj (by omega), wr_obj (by omega)]
theorem cmA_12 {α : mm_Mem} {p : Nat} {f : Nat → Nat} : cmA α p f 12 p = α 12 p + 1 ∧ cmA α p f 13 p = (if cmR α p f = -1 then α 13 p else α 13 p + 1) ∧ cmA α p f 14 p = (if cmR α p f = -1 then α 14 p + 1 else α 14 p) := by
  unfold cmA cmR
  exact ⟨by rw [wr_obj (by omega), wr_obj (by omega), wr_same], by rw [wr_obj (by omega), wr_same], by rw [wr_same]⟩
theorem cmA_12n {α : mm_Mem} {p i j : Nat} {f : Nat → Nat} (hj : 12 ≤ j ∧ j ≤ 14) (h : i ≠ p) : cmA α p f j i = α j i := by
  unfold cmA
  have e : ∀ (m : mm_Mem) (o : Nat) (v : Int), wr m o p v j i = m j i := fun m o v => by
    by_cases q : j = o
    · subst q; rw [wr_row h]
    · rw [wr_obj q]
  rw [e, e, e, hnA_o (by omega)]
theorem cmA_oo {α : mm_Mem} {p j : Nat} {f : Nat → Nat} (h : j < 12 ∨ 20 < j) : cmA α p f j = α j := by rw [cmA_o (by omega), hnA_o (by omega)]
theorem WF.cm {k n p : Nat} {α : mm_Mem} {f : Nat → Nat} (w : WF k α) (wb : wfB α n) (hn : n + 1 ≤ 60 * k) (p1 : (p : Int) < α 0 7) (h12 : α 12 p < 1000) : WF k (cmA α p f) ∧ wfB (cmA α p f) (n + 1) := by
  have w0 := w
  have wp := w.2.2.2.1 p p1
  have wh := w.hn (f := f) (dd := (α 8 p).toNat) wb hn (by omega)
  obtain ⟨h1, h2, h3, h4, h5, h6, h7, h8, h9⟩ := w
  obtain ⟨-, -, -, -, g5, g6, -, -, -⟩ := wh
  have em : (n : Int) + 1 ≤ 60 * k := by omega
  refine ⟨⟨?_, ?_, ?_, fun q hq => ?_, ?_, ⟨fun q => ?_, fun x => ?_, fun i => ?_⟩, ?_, ?_, ?_⟩, ⟨fun q => ?_, fun x => ?_⟩⟩
  · rw [cmA_oo (by omega), cmA_oo (by omega)]; exact h1
  · unfold wfH; rw [cmA_oo (by omega)]; exact h2
  · unfold wfD; rw [cmA_oo (by omega), cmA_oo (by omega), cmA_oo (by omega), cmA_oo (by omega)]; exact h3
  · rw [cmA_oo (by omega)] at hq
    rw [cmA_oo (by omega), cmA_oo (by omega), cmA_oo (by omega), cmA_oo (by omega), cmA_oo (by omega)]
    have hh := h4 q hq
    by_cases e : q = p
    · subst e; rw [cmA_12.1]; omega
    · rw [cmA_12n (by omega) e]; exact hh
  · unfold wfE; rw [cmA_o (by omega), cmA_o (by omega), cmA_o (by omega)]; exact g5
  · have a := h6.1 q
    have bq := wb.1 q
    by_cases e : q = p
    · subst e; rw [cmA_12.2.1, cmA_12.2.2]; split <;> omega
    · rw [cmA_12n (by omega) e, cmA_12n (by omega) e]; exact a
  · rw [cmA_o (by omega), cmA_o (by omega), cmA_o (by omega)]; exact g6.2.1 x
  · rw [cmA_oo (by omega)]; exact h6.2.2 i
  · unfold wfW alA wnA; rw [cmA_oo (by omega), cmA_oo (by omega), cmA_oo (by omega), cmA_oo (by omega)]; exact h7
  · rw [cmA_oo (by omega)]; exact h8
  · rw [cmA_oo (by omega), cmA_oo (by omega)]; exact h9
  · have bq := wb.1 q
    by_cases e : q = p
    · subst e; rw [cmA_12.2.1, cmA_12.2.2]; split <;> omega
    · rw [cmA_12n (by omega) e, cmA_12n (by omega) e]; omega
  · have bq := wb.2 x
    rw [cmA_o (by omega), cmA_o (by omega)]
    by_cases e : x = (α 8 p).toNat
    · subst e
      obtain ⟨-, z2, z3⟩ := hnA_18 (α := α) (dd := (α 8 p).toNat) (f := f)
      rw [z2, z3]; split <;> omega
    · rw [hnA_18n (by omega) e, hnA_18n (by omega) e]; omega
section Come2
variable {E : mm_Env} {d k h b : Nat} {α τ : mm_Mem} {Q : mm_Q0}
theorem kdPers {h p : Nat} (hh : h = 4 ∨ h = 38) (hd : p < 4) : KD (h + 30 + p) = some (.inr 3) := by
  have ch : ∀ x, x < 4 → KD (4 + 30 + x) = some (.inr 3) ∧ KD (38 + 30 + x) = some (.inr 3) := by decide +kernel
  rcases hh with rfl | rfl
  · exact (ch p hd).1
  · exact (ch p hd).2
theorem c_whistleAtDoor {p : Nat} {f : Nat → Nat} (w : WF k α) (hk : k ≤ 600) (H : RepC k h α τ) (hof : tp_ok f) (p1 : (p : Int) < α 0 7) (k1 : ∀ τ', RepC k h (cmA α p f) τ' → FrC τ τ' → Q (some (vI (cmR α p f))) τ') : M0 E (d + 6) qX10_whistleAtDoor [vR 2, vR (h + 30 + p), vI (tp f : Nat)] τ Q := by
  have hw := w.le
  have hh := H.2.2.1.1
  have wp := w.2.2.2.1 p p1
  have kp := kdPers (h := h) (p := p) hh (by omega)
  obtain ⟨q1, q2, q3, q4, q5, q6, q7⟩ := H.pers (a := (p : Int)) (by omega) p1
  rw [Int.toNat_natCast] at q1 q2 q3 q4 q5 q6 q7
  have wc := w.2.2.2.2.2.1.1 p
  refine mX10_whistleAtDoor kp ?_
  rw [q1]
  refine c_doorAt w H ⟨by omega, by omega⟩ (fun a1 a2 a3 => ⟨_, rfl, fun _ => ⟨a3, ?_⟩, fun q => by omega⟩) (fun q => absurd q (by omega))
  refine c_hearD w hk H hof (by omega) (fun τ1 H1 F1 => ⟨_, rfl, ?_⟩)
  obtain ⟨u1, u2, u3, u4, u5, u6, u7⟩ := H1.pers (a := (p : Int)) (by omega) (by rw [hnA_o (by omega)]; exact p1)
  rw [Int.toNat_natCast] at u1 u2 u3 u4 u5 u6 u7
  rw [hnA_o (by omega)] at u5 u6 u7
  have rr := heR_r (α := α) (dd := (α 8 p).toNat) (f := f)
  have hD := H1.2.2.2.2.2.1
  have hP := H1.2.2.2.2.2.2.1
  have hY := H1.2.2.2.2.2.2.2.2.2.2.2.2
  have fin : ∀ τ', (∀ o, o ≠ h + 30 + p → τ' o = τ1 o) → (∀ i, i < 5 → τ' (h + 30 + p) i = τ1 (h + 30 + p) i) → τ' (h + 30 + p) 5 = α 12 p + 1 → τ' (h + 30 + p) 6 = (if cmR α p f = -1 then α 13 p else α 13 p + 1) → τ' (h + 30 + p) 7 = (if cmR α p f = -1 then α 14 p + 1 else α 14 p) → Q (some (vI (cmR α p f))) τ' := by
    intro τ' F' r0 r5 r6 r7
    refine k1 τ' ?_ (fun o ho => (F' o (by omega)).trans (F1 o ho))
    refine H1.cst (by rw [hnA_o (by omega)]; exact ⟨hw.1, hw.2.1, hw.2.2.1⟩) (Nat.le_refl _) (fun j hj => cmA_o (by omega)) (fun o j _ ho => by rw [F' o (by omega)]) (fun x hx => by rw [F' _ (by omega)]) (fun x hx => ?_) (fun x hx => ?_) (fun x hx i hi => ?_) (fun o o1 o2 => ?_)
    · by_cases e : x = p
      · subst e; exact r0 0 (by omega)
      · rw [F' _ (by omega)]
    · rw [cmA_o (by omega)] at hx
      have hx' : (x : Int) < α 0 6 := by rw [hnA_o (by omega)] at hx; exact hx
      have em : maskA (cmA α p f) = maskA (hnA α (α 8 p).toNat f) := maskA_cg (by rw [cmA_o (by omega)]) (cmA_o (by omega)) (cmA_o (by omega))
      rw [em, cmA_o (show 5 < 12 ∨ 14 < 5 by omega), cmA_o (show 6 < 12 ∨ 14 < 6 by omega), cmA_o (show 7 < 12 ∨ 14 < 7 by omega), cmA_o (show 15 < 12 ∨ 14 < 15 by omega), cmA_o (show 16 < 12 ∨ 14 < 16 by omega), cmA_o (show 17 < 12 ∨ 14 < 17 by omega), cmA_o (show 18 < 12 ∨ 14 < 18 by omega), cmA_o (show 19 < 12 ∨ 14 < 19 by omega), cmA_o (show 20 < 12 ∨ 14 < 20 by omega), F' (h + 14 + 4 * x) (by omega), F' (h + 14 + 4 * x + 1) (by omega), F' (h + 14 + 4 * x + 2) (by omega), F' (h + 14 + 4 * x + 3) (by omega)]
      exact hD x hx
    · rw [cmA_o (by omega)] at hx
      have hp := hP x hx i hi
      by_cases e : x = p
      · subst e
        match i, hi with
        | 0, _ => rw [r0 _ (by omega), cmA_o (by omega)]; exact hp
        | 1, _ => rw [r0 _ (by omega), cmA_o (by omega)]; exact hp
        | 2, _ => rw [r0 _ (by omega), cmA_o (by omega)]; exact hp
        | 3, _ => rw [r0 _ (by omega), cmA_o (by omega)]; exact hp
        | 4, _ => rw [cmA_12.1]; exact r5
        | 5, _ => rw [cmA_12.2.1]; exact r6
        | 6, _ => rw [cmA_12.2.2]; exact r7
      · rw [F' _ (by omega)]
        by_cases q : i < 4
        · rw [cmA_o (by omega)]; exact hp
        · rw [cmA_12n (by omega) e]
          rw [hnA_o (by omega)] at hp; exact hp
    · rw [F' o (by have := H.2.2.1.1; omega)]; exact hY o o1 o2
  refine bX10_whistleAtDoor_26 kp ⟨?_, ⟨by omega, by omega⟩, fun q => ⟨?_, ?_⟩, fun q => ⟨?_, ?_⟩⟩
  · rw [u5]; exact ⟨by omega, by omega⟩
  · rw [u6]; exact ⟨by omega, by omega⟩
  · refine fin _ (fun o ho => by rw [wr_obj ho, wr_obj ho]) (fun i hi => by rw [wr_row (by omega), wr_row (by omega)]) ?_ ?_ ?_
    · rw [wr_row (by omega), wr_same, u5]
    · rw [wr_same, u6]; unfold cmR; rw [if_neg q]
    · rw [wr_row (by omega), wr_row (by omega), u7]; unfold cmR; rw [if_neg q]
  · rw [u7]; exact ⟨by omega, by omega⟩
  · refine fin _ (fun o ho => by rw [wr_obj ho, wr_obj ho]) (fun i hi => by rw [wr_row (by omega), wr_row (by omega)]) ?_ ?_ ?_
    · rw [wr_row (by omega), wr_same, u5]
    · rw [wr_row (by omega), wr_row (by omega), u6]; unfold cmR; rw [if_pos q]
    · rw [wr_same, u7]; unfold cmR; rw [if_pos q]
/-- a person's count alone is new: the reference -/
theorem RepM.cnt1 {p : Nat} {v : Int} (H : RepM b α τ) : RepM b (wr α 12 p v) (wr τ 179 p v) := by
  obtain ⟨s1, s2, s3⟩ := H.2.2.2.2.2.2.2.1
  refine H.cst (fun j hj => wr_obj (by omega)) (fun o j _ ho => by rw [wr_obj (by omega)]) ⟨fun x hx => ?_, fun e he => ?_, fun x hx => ?_⟩
  · obtain ⟨a1, a2, a3⟩ := s1 x hx
    refine ⟨?_, by rw [wr_obj (by omega), wr_obj (by omega)]; exact a2, by rw [wr_obj (by omega), wr_obj (by omega)]; exact a3⟩
    by_cases e : x = p
    · subst e; rw [wr_same, wr_same]
    · rw [wr_row e, wr_row e]; exact a1
  · obtain ⟨a1, a2, a3⟩ := s2 e he
    exact ⟨by rw [wr_obj (by omega), wr_obj (by omega)]; exact a1, by rw [wr_obj (by omega), wr_obj (by omega)]; exact a2, by rw [wr_obj (by omega), wr_obj (by omega)]; exact a3⟩
  · obtain ⟨a1, a2, a3⟩ := s3 x hx
    exact ⟨by rw [wr_obj (by omega), wr_obj (by omega)]; exact a1, by rw [wr_obj (by omega), wr_obj (by omega)]; exact a2, by rw [wr_obj (by omega), wr_obj (by omega)]; exact a3⟩
theorem WF.cnt1 {p : Nat} {v : Int} (w : WF k α) (hv : 0 ≤ v ∧ v ≤ 1000) : WF k (wr α 12 p v) := by
  obtain ⟨h1, h2, h3, h4, h5, h6, h7, h8, h9⟩ := w
  refine ⟨?_, ?_, ?_, fun q hq => ?_, ?_, ?_, ?_, ?_, ?_⟩
  · rw [wr_obj (by omega), wr_obj (by omega)]; exact h1
  · unfold wfH; rw [wr_obj (by omega)]; exact h2
  · unfold wfD; rw [wr_obj (by omega), wr_obj (by omega), wr_obj (by omega), wr_obj (by omega)]; exact h3
  · rw [wr_obj (by omega)] at hq
    rw [wr_obj (by omega), wr_obj (by omega), wr_obj (by omega), wr_obj (by omega), wr_obj (by omega)]
    have hh := h4 q hq
    by_cases e : q = p
    · subst e; rw [wr_same]; omega
    · rw [wr_row e]; exact hh
  · unfold wfE; rw [wr_obj (by omega), wr_obj (by omega), wr_obj (by omega)]; exact h5
  · unfold wfC; rw [wr_obj (by omega), wr_obj (by omega), wr_obj (by omega), wr_obj (by omega), wr_obj (by omega), wr_obj (by omega)]; exact h6
  · unfold wfW alA wnA; rw [wr_obj (by omega), wr_obj (by omega), wr_obj (by omega), wr_obj (by omega)]; exact h7
  · rw [wr_obj (by omega)]; exact h8
  · rw [wr_obj (by omega), wr_obj (by omega)]; exact h9
theorem m_comes {p : Nat} {f : Nat → Nat} (w : WF k α) (hk : k ≤ 600) (H : RepM b α τ) (hf1 : fvA α f) (hm : mH α f τ) (p1 : (p : Int) < α 0 7) (h12 : α 12 p < 1000) (k1 : ∀ τ', RepM b (cmA α p f) τ' → (∀ o, (o < 179 ∨ 188 ≤ o) → τ' o = τ o) → Q (some (vI (cmR α p f))) τ') : M0 E (d + 6) qX11_comes [vR 140, vI (p : Int)] τ Q := by
  have hw := w.le
  have wp := w.2.2.2.1 p p1
  have wc := w.2.2.2.2.2.1.1 p
  obtain ⟨c1, c2, c3⟩ := H.cnt (p := (p : Int)) (by omega) (by omega)
  rw [Int.toNat_natCast] at c1 c2 c3
  have w1 : WF k (wr α 12 p (α 12 p + 1)) := w.cnt1 (by omega)
  have H1 : RepM b (wr α 12 p (α 12 p + 1)) (wr τ 179 p (α 12 p + 1)) := H.cnt1
  have hb := H.bk
  obtain ⟨q1, q2, q3, q4⟩ := H1.pers (p := (p : Int)) (by omega) (by rw [wr_obj (by omega)]; exact p1)
  rw [Int.toNat_natCast, wr_obj (by omega)] at q1
  have cg := hn_cg (α := α) (α' := wr α 12 p (α 12 p + 1)) (dd := (α 8 p).toNat) (f := f) (fun j hj => wr_obj (by omega))
  refine mX11_comes ⟨by omega, by omega, by omega, by omega, ?_, ?_⟩
  · rw [Int.toNat_natCast, c1]; exact ⟨by omega, by omega⟩
  · rw [Int.toNat_natCast, c1]
    refine m_person4 H1 ⟨_, rfl, by omega, by omega, ?_⟩
    rw [wr_obj (by omega)] at q1
    rw [wr_obj (by omega), q1, show α 8 p = (((α 8 p).toNat : Nat) : Int) by omega]
    refine m_hearsNow w1 hk H1 (fvA_cg (wr_obj (by omega)) hf1) (mH_cg (wr_obj (by omega)) (wr_obj (by omega)) (by rw [wr_obj (by omega)]) hm) (by rw [wr_obj (by omega)]; omega) (fun τ2 H2 F2 => ⟨_, rfl, ?_, fun q => ⟨by omega, by omega, by omega, by omega, ?_, ?_⟩, fun q => ⟨by omega, by omega, by omega, by omega, ?_, ?_⟩⟩)
    · rw [cg.1]; have := heR_r (α := α) (dd := (α 8 p).toNat) (f := f); exact ⟨by omega, by omega⟩
    all_goals
      rw [cg.1] at q
      obtain ⟨s1, s2, s3⟩ := H2.2.2.2.2.2.2.2.1
      have o3 := s1 p (by omega)
      rw [hnA_o (by omega), hnA_o (by omega), hnA_o (by omega), wr_same, wr_obj (by omega), wr_obj (by omega)] at o3
    · rw [o3.2.1]; exact ⟨by omega, by omega⟩
    · rw [o3.2.1, cg.1]
      refine k1 _ ?_ (fun o ho => by rw [wr_obj (by omega), F2 o (by omega), wr_obj (by omega)])
      refine H2.cst (fun j hj => by rw [cmA_o (by omega), hnA_o (by omega), hnA_o (by omega), wr_obj (by omega)]) (fun o j _ ho => by rw [wr_obj (by omega)]) ⟨fun x hx => ?_, fun e he => ?_, fun x hx => ?_⟩
      · by_cases e : x = p
        · subst e
          rw [cmA_12.1, cmA_12.2.1, cmA_12.2.2]
          unfold cmR
          rw [if_neg q, if_neg q]
          exact ⟨by rw [wr_obj (by omega)]; exact o3.1, by rw [wr_same], by rw [wr_obj (by omega)]; exact o3.2.2⟩
        · have o4 := s1 x hx
          rw [hnA_o (by omega), hnA_o (by omega), hnA_o (by omega), wr_row e, wr_obj (by omega), wr_obj (by omega)] at o4
          rw [cmA_12n (by omega) e, cmA_12n (by omega) e, cmA_12n (by omega) e]
          exact ⟨by rw [wr_obj (by omega)]; exact o4.1, by rw [wr_row e]; exact o4.2.1, by rw [wr_obj (by omega)]; exact o4.2.2⟩
      · have o4 := s2 e he
        rw [cg.2 15 (by omega), cg.2 16 (by omega), cg.2 17 (by omega)] at o4
        rw [cmA_o (by omega), cmA_o (by omega), cmA_o (by omega)]
        exact ⟨by rw [wr_obj (by omega)]; exact o4.1, by rw [wr_obj (by omega)]; exact o4.2.1, by rw [wr_obj (by omega)]; exact o4.2.2⟩
      · have o4 := s3 x hx
        rw [cg.2 18 (by omega), cg.2 19 (by omega), cg.2 20 (by omega)] at o4
        rw [cmA_o (by omega), cmA_o (by omega), cmA_o (by omega)]
        exact ⟨by rw [wr_obj (by omega)]; exact o4.1, by rw [wr_obj (by omega)]; exact o4.2.1, by rw [wr_obj (by omega)]; exact o4.2.2⟩
    · rw [o3.2.2]; exact ⟨by omega, by omega⟩
    · rw [o3.2.2, cg.1]
      refine k1 _ ?_ (fun o ho => by rw [wr_obj (by omega), F2 o (by omega), wr_obj (by omega)])
      refine H2.cst (fun j hj => by rw [cmA_o (by omega), hnA_o (by omega), hnA_o (by omega), wr_obj (by omega)]) (fun o j _ ho => by rw [wr_obj (by omega)]) ⟨fun x hx => ?_, fun e he => ?_, fun x hx => ?_⟩
      · by_cases e : x = p
        · subst e
          rw [cmA_12.1, cmA_12.2.1, cmA_12.2.2]
          unfold cmR
          rw [if_pos q, if_pos q]
          exact ⟨by rw [wr_obj (by omega)]; exact o3.1, by rw [wr_obj (by omega)]; exact o3.2.1, by rw [wr_same]⟩
        · have o4 := s1 x hx
          rw [hnA_o (by omega), hnA_o (by omega), hnA_o (by omega), wr_row e, wr_obj (by omega), wr_obj (by omega)] at o4
          rw [cmA_12n (by omega) e, cmA_12n (by omega) e, cmA_12n (by omega) e]
          exact ⟨by rw [wr_obj (by omega)]; exact o4.1, by rw [wr_obj (by omega)]; exact o4.2.1, by rw [wr_row e]; exact o4.2.2⟩
      · have o4 := s2 e he
        rw [cg.2 15 (by omega), cg.2 16 (by omega), cg.2 17 (by omega)] at o4
        rw [cmA_o (by omega), cmA_o (by omega), cmA_o (by omega)]
        exact ⟨by rw [wr_obj (by omega)]; exact o4.1, by rw [wr_obj (by omega)]; exact o4.2.1, by rw [wr_obj (by omega)]; exact o4.2.2⟩
      · have o4 := s3 x hx
        rw [cg.2 18 (by omega), cg.2 19 (by omega), cg.2 20 (by omega)] at o4
        rw [cmA_o (by omega), cmA_o (by omega), cmA_o (by omega)]
        exact ⟨by rw [wr_obj (by omega)]; exact o4.1, by rw [wr_obj (by omega)]; exact o4.2.1, by rw [wr_obj (by omega)]; exact o4.2.2⟩
end Come2
