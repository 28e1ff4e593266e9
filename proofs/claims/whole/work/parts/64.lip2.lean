/-! countByLip -/
section Lip
variable {E : mm_Env} {d k h b : Nat} {α τ : mm_Mem} {Q : mm_Q0}
theorem c_fillL {o n lim : Nat} {v : Int} (kd : KD o = some (.inl (.int, n))) (ho : 2 ≤ o) (hn : n ≤ 100000) (hl : lim ≤ n) (hv : inR v) : ∀ (c i : Nat) (τ : mm_Mem), i + c = lim → (∀ j, j < i → τ o j = v) → (∀ τ', (∀ x, x ≠ o → τ' x = τ x) → (∀ j, j < lim → τ' o j = v) → (∀ j, lim ≤ j → τ' o j = τ o j) → Q none τ') → V0 E (d + 1) qJ7_fill_fda19 10 [some (vR o), none, some (vI (lim : Int)), some (vI v), some (vI (i : Int))] [] τ Q
  | 0, i, τ, hi, lo, k1 => bJ7_fill_fda19_10 kd ho (by omega) ⟨⟨by omega, by omega⟩, ⟨by omega, by omega⟩, fun _ => k1 τ (fun _ _ => rfl) (fun j hj => lo j (by omega)) (fun _ _ => rfl), fun q => by omega⟩
  | c + 1, i, τ, hi, lo, k1 => by
    have en : ((i : Int) + 1) = ((i + 1 : Nat) : Int) := by omega
    refine bJ7_fill_fda19_10 kd ho (by omega) ⟨⟨by omega, by omega⟩, ⟨by omega, by omega⟩, fun q => by omega, fun _ => ⟨by omega, by omega, hv, ?_⟩⟩
    rw [en, Int.toNat_natCast]
    refine c_fillL kd ho hn hl hv c (i + 1) _ (by omega) (fun j hj => ?_) (fun τ' F' N' O' => k1 τ' (fun x hx => by rw [F' x hx, wr_obj hx]) N' (fun j hj => by rw [O' j hj, wr_row (by omega)]))
    by_cases e : j = i
    · subst e; rw [wr_same]
    · rw [wr_row e]; exact lo j (by omega)
theorem c_fill3 {o n lim : Nat} {v : Int} (kd : KD o = some (.inl (.int, n))) (ho : 2 ≤ o) (hn : n ≤ 100000) (hl : lim ≤ n) (hv : inR v) (k1 : ∀ τ', (∀ x, x ≠ o → τ' x = τ x) → (∀ j, j < lim → τ' o j = v) → (∀ j, lim ≤ j → τ' o j = τ o j) → Q none τ') : M0 E (d + 2) qJ7_fill_fda19 [vR o, vI 0, vI (lim : Int), vI v] τ Q := by
  refine mJ7_fill_fda19 kd ho (by omega) (mJ7_rangeCheck_23922 ⟨⟨by decide, by decide⟩, ⟨by omega, by omega⟩, fun _ => bJ7_rangeCheck_23922_46 ⟨⟨by decide, by decide⟩, fun _ => ⟨⟨by omega, by omega⟩, ⟨by omega, by omega⟩, fun _ => ⟨rfl, ?_⟩, fun q => absurd (by omega) q⟩, fun q => absurd (by decide) q⟩, fun q => absurd (by omega) q⟩)
  exact c_fillL kd ho hn hl hv lim 0 τ (by omega) (fun j hj => absurd hj (Nat.not_lt_zero _)) k1
/-- the class's numbers of notes, of places, of tunes -/
theorem gW.nt (G : gW α τ) (hL : 2 ≤ α 0 3 ∧ α 0 3 ≤ 6 ∧ 2 ≤ α 0 4 ∧ α 0 4 ≤ 5) : τ 78 3 = (((α 0 3).toNat : Nat) : Int) ∧ τ 78 4 = (((α 0 4).toNat : Nat) : Int) ∧ τ 78 5 = ((allA α : Nat) : Int) := by
  obtain ⟨⟨h1, h2, h3⟩, -⟩ := G
  have ar := all_r hL
  exact ⟨by omega, by omega, by rw [ar.2.2]; exact h3 (by omega)⟩
theorem c_line9 {fr st nt : Nat} (h3 : τ 78 3 = (nt : Int)) (hnt : nt ≤ 6) (hs : st ≤ 7776) (hb : ∀ i, i < nt → fr + i * st < 7776) (hm : ∀ i, i < nt → inR (τ 134 (fr + i * st))) : ∀ (c i : Nat), i + c = nt → V0 E (d + 1) qX7_spreadLine 59 [some (vR 133), none, some (vI (st : Int)), some (vI (lnM (τ 134) fr st nt)), some (vI 0), some (vI (fr : Int))] [] τ Q → V0 E (d + 1) qX7_spreadLine 9 [some (vR 133), some (vI (fr : Int)), some (vI (st : Int)), some (vI (lnM (τ 134) fr st i)), some (vI (i : Int)), some (vI ((fr + i * st : Nat) : Int))] [] τ Q
  | 0, i, hi, k1 => by
    refine bX7_spreadLine_9 ⟨⟨by omega, by omega⟩, fun _ => ?_, fun q => by rw [h3] at q; omega⟩
    rw [show i = nt by omega]; exact k1
  | c + 1, i, hi, k1 => by
    have b := hb i (by omega)
    have en : ((i : Int) + 1) = ((i + 1 : Nat) : Int) := by omega
    have e2 : (((fr + i * st : Nat) : Int) + (st : Int)) = ((fr + (i + 1) * st : Nat) : Int) := by rw [Nat.succ_mul]; omega
    have lr : inR (lnM (τ 134) fr st i) := by
      have : ∀ j, j ≤ i → inR (lnM (τ 134) fr st j) := by
        intro j
        induction j with
        | zero => intro _; exact ⟨by rw [lnM]; omega, by rw [lnM]; omega⟩
        | succ j ih =>
          intro hj
          have i1 := ih (by omega)
          have i2 := hm j (by omega)
          have := i1.1; have := i1.2; have := i2.1; have := i2.2
          rw [lnM]; exact ⟨by omega, by omega⟩
      exact this i (Nat.le_refl _)
    refine bX7_spreadLine_9 ⟨⟨by omega, by omega⟩, fun q => by rw [h3] at q; omega, fun _ => ⟨⟨by omega, by omega⟩, fun q => by omega, fun _ => ⟨by omega, by omega, c_min lr ?_ ⟨_, rfl, ?_⟩⟩⟩⟩
    · rw [Int.toNat_natCast]; exact hm i (by omega)
    · rw [Int.toNat_natCast, en, e2]
      exact c_line9 h3 hnt hs hb hm c (i + 1) (by omega) k1
theorem c_line59 {fr st nt : Nat} {x : Int} {m0 : Nat → Int} (hnt : nt ≤ 6) (hs : 1 ≤ st ∧ st ≤ 7776) (hx : 0 ≤ x ∧ x ≤ 6) (hb : ∀ i, i < nt → fr + i * st < 7776) (hm : ∀ i, i < nt → inR (m0 (fr + i * st))) : ∀ (c i : Nat) (τ : mm_Mem), i + c = nt → τ 78 3 = (nt : Int) → (∀ j, j < i → τ 134 (fr + j * st) = min (m0 (fr + j * st)) (x + 1)) → (∀ v, (∀ j, j < i → v ≠ fr + j * st) → τ 134 v = m0 v) → (∀ τ', (∀ o, o ≠ 134 → τ' o = τ o) → (∀ j, j < nt → τ' 134 (fr + j * st) = min (m0 (fr + j * st)) (x + 1)) → (∀ v, (∀ j, j < nt → v ≠ fr + j * st) → τ' 134 v = m0 v) → Q none τ') → V0 E (d + 1) qX7_spreadLine 59 [some (vR 133), none, some (vI (st : Int)), some (vI x), some (vI (i : Int)), some (vI ((fr + i * st : Nat) : Int))] [] τ Q
  | 0, i, τ, hi, h3, lo, ot, k1 => by
    have e : i = nt := by omega
    subst e
    refine bX7_spreadLine_59 ⟨⟨by omega, by omega⟩, fun _ => k1 τ (fun _ _ => rfl) lo ot, fun q => by rw [h3] at q; omega⟩
  | c + 1, i, τ, hi, h3, lo, ot, k1 => by
    have b := hb i (by omega)
    have en : ((i : Int) + 1) = ((i + 1 : Nat) : Int) := by omega
    have e2 : (((fr + i * st : Nat) : Int) + (st : Int)) = ((fr + (i + 1) * st : Nat) : Int) := by rw [Nat.succ_mul]; omega
    have inj : ∀ j, j < i → fr + i * st ≠ fr + j * st := by
      intro j hj z
      have : j * st < i * st := Nat.mul_lt_mul_of_pos_right hj (by omega)
      omega
    have cur : τ 134 (fr + i * st) = m0 (fr + i * st) := ot _ inj
    have mi := hm i (by omega)
    refine bX7_spreadLine_59 ⟨⟨by omega, by omega⟩, fun q => by rw [h3] at q; omega, fun _ => ⟨⟨by omega, by omega⟩, fun q => by omega, fun _ => ⟨by omega, by omega, ?_⟩⟩⟩
    rw [Int.toNat_natCast, cur]
    have := mi.1
    have := mi.2
    refine c_min mi ⟨by omega, by omega⟩ ⟨_, rfl, by omega, by omega, ⟨by omega, by omega⟩, ?_⟩
    rw [en, e2]
    refine c_line59 hnt hs hx hb hm c (i + 1) _ (by omega) (by rw [wr_obj (by omega)]; exact h3) (fun j hj => ?_) (fun v hv => ?_) (fun τ' F' N' O' => k1 τ' (fun o ho => by rw [F' o ho, wr_obj ho]) N' O')
    · by_cases e : j = i
      · subst e; rw [wr_same]
      · rw [wr_row (fun z => inj j (by omega) z.symm)]; exact lo j (by omega)
    · rw [wr_row (hv i (by omega))]; exact ot v (fun j hj => hv j (by omega))
theorem c_spreadLine {fr st nt : Nat} (h3 : τ 78 3 = (nt : Int)) (hnt : nt ≤ 6) (hs : 1 ≤ st ∧ st ≤ 7776) (hb : ∀ i, i < nt → fr + i * st < 7776) (hm : ∀ i, i < nt → 0 ≤ τ 134 (fr + i * st) ∧ τ 134 (fr + i * st) ≤ 6) (hf : fr < 7776) (k1 : ∀ τ', (∀ o, o ≠ 134 → τ' o = τ o) → (∀ j, j < nt → τ' 134 (fr + j * st) = min (τ 134 (fr + j * st)) (lnM (τ 134) fr st nt + 1)) → (∀ v, (∀ j, j < nt → v ≠ fr + j * st) → τ' 134 v = τ 134 v) → Q none τ') : M0 E (d + 1) qX7_spreadLine [vR 133, vI (fr : Int), vI (st : Int)] τ Q := by
  have lr := lnM_r (m := τ 134) (fr := fr) (st := st) nt (fun i hi => (hm i hi).1)
  have hm' : ∀ i, i < nt → inR (τ 134 (fr + i * st)) := fun i hi => by have := hm i hi; exact ⟨by omega, by omega⟩
  have l := c_line9 (E := E) (d := d) (Q := Q) (τ := τ) (fr := fr) (st := st) h3 hnt hs.2 hb hm' nt 0 (by omega) ?_
  · rw [Nat.zero_mul, Nat.add_zero] at l
    exact mX7_spreadLine l
  · have l2 := c_line59 (E := E) (d := d) (Q := Q) (fr := fr) (st := st) (nt := nt) (x := lnM (τ 134) fr st nt) (m0 := τ 134) hnt hs lr hb hm' nt 0 τ (by omega) h3 (fun j hj => absurd hj (Nat.not_lt_zero _)) (fun _ _ => rfl) k1
    rw [Nat.zero_mul, Nat.add_zero] at l2
    exact l2
theorem bs_aux {y B m s q : Nat} (hm : m < s) (hle : s ≤ B) : y * B + m < q * B + s ↔ y * B + m < (q + 1) * B := by
  have e : (q + 1) * B = q * B + B := Nat.succ_mul q B
  rw [e]
  constructor
  · intro z; omega
  · intro z
    by_cases a : y ≤ q
    · have := Nat.mul_le_mul_right B a; omega
    · have t : (q + 1) * B ≤ y * B := Nat.mul_le_mul_right _ (by omega)
      rw [e] at t
      omega
/-- lines that begin below x have been spread -/
def SPI (nt st all x : Nat) (m0 m : Nat → Int) : Prop := ∀ v, v < all → m v = if bsL nt st v < x then nmL nt st m0 v else m0 v
theorem c_spr27 {nt j L q : Nat} {m0 : Nat → Int} (hn : 1 ≤ nt ∧ nt ≤ 6) (hj : j < L) (hall : nt ^ L ≤ 7776) (hm : ∀ v, v < nt ^ L → 0 ≤ m0 v ∧ m0 v ≤ 6) (hq : q * nt ^ (j + 1) < nt ^ L) : ∀ (c x : Nat) (τ : mm_Mem), x + c = q * nt ^ (j + 1) + nt ^ j → q * nt ^ (j + 1) ≤ x → τ 78 3 = (nt : Int) → SPI nt (nt ^ j) (nt ^ L) x m0 (τ 134) → (∀ τ', (∀ o, o ≠ 134 → τ' o = τ o) → (∀ v, nt ^ L ≤ v → τ' 134 v = τ 134 v) → SPI nt (nt ^ j) (nt ^ L) (q * nt ^ (j + 1) + nt ^ j) m0 (τ' 134) → V0 E (d + 2) qX7_spread 13 [some (vR 133), some (vI ((nt ^ j : Nat) : Int)), some (vI ((nt ^ L : Nat) : Int)), some (vI ((nt ^ (j + 1) : Nat) : Int)), some (vI ((q * nt ^ (j + 1) + nt ^ (j + 1) : Nat) : Int)), none] [] τ' Q) → V0 E (d + 2) qX7_spread 27 [some (vR 133), some (vI ((nt ^ j : Nat) : Int)), some (vI ((nt ^ L : Nat) : Int)), some (vI ((nt ^ (j + 1) : Nat) : Int)), some (vI ((q * nt ^ (j + 1) : Nat) : Int)), some (vI (x : Int))] [] τ Q := by
  have hs : 0 < nt ^ j := Nat.pow_pos hn.1
  have eb : nt ^ j * nt = nt ^ (j + 1) := (Nat.pow_succ ..).symm
  have hle : nt ^ j ≤ nt ^ (j + 1) := by rw [← eb]; exact Nat.le_mul_of_pos_right _ hn.1
  have hle2 : nt ^ (j + 1) ≤ nt ^ L := Nat.pow_le_pow_right hn.1 hj
  intro c
  induction c with
  | zero =>
    intro x τ hx hx2 h3 I k1
    refine bX7_spread_27 ⟨⟨by omega, by omega⟩, ⟨by omega, by omega⟩, fun _ => ?_, fun z => by omega⟩
    have := k1 τ (fun _ _ => rfl) (fun _ _ => rfl) (by rw [← hx, Nat.add_zero]; exact I)
    rw [show (((q * nt ^ (j + 1) : Nat) : Int) + ((nt ^ (j + 1) : Nat) : Int)) = ((q * nt ^ (j + 1) + nt ^ (j + 1) : Nat) : Int) by omega]
    exact this
  | succ c ih =>
    intro x τ hx hx2 h3 I k1
    have en : ((x : Int) + 1) = ((x + 1 : Nat) : Int) := by omega
    -- x begins a line
    have xo : x = q * nt ^ (j + 1) + (x - q * nt ^ (j + 1)) := by omega
    have o2 : x - q * nt ^ (j + 1) < nt ^ j := by omega
    have xd : x / nt ^ (j + 1) = q := by
      rw [xo, Nat.add_comm, Nat.add_mul_div_right _ _ (by omega), Nat.div_eq_of_lt (by omega), Nat.zero_add]
    have xm : x % nt ^ j = x - q * nt ^ (j + 1) := by
      conv => lhs; rw [xo]
      rw [← eb, ← Nat.mul_assoc, Nat.mul_comm q, Nat.mul_assoc, Nat.add_comm, Nat.add_mul_mod_self_left]
      exact Nat.mod_eq_of_lt (by rw [Nat.mul_comm q nt] at *; rw [← Nat.mul_assoc, eb] ; rw [Nat.mul_comm]; exact o2)
    have xb : bsL nt (nt ^ j) x = x := by
      unfold bsL; rw [eb, xd, xm]; omega
    have xl : x < nt ^ L := by
      refine pt_lt (v := q * nt ^ (j + 1)) hn.1 hj ?_ hq
      rw [xd, Nat.mul_div_cancel _ (by omega)]
    have ptl : ∀ i, i < nt → x + i * nt ^ j < nt ^ L := by
      intro i hi
      have p3 := (bsL_pt (v := x) hs hn.1 hi).2.2
      rw [xb, eb] at p3
      exact pt_lt hn.1 hj p3 xl
    have ptb : ∀ i, i < nt → bsL nt (nt ^ j) (x + i * nt ^ j) = x := by
      intro i hi
      obtain ⟨-, p2, p3⟩ := bsL_pt (v := x) hs hn.1 hi
      rw [xb] at p2 p3
      have e1 : bsL nt (nt ^ j) (x + i * nt ^ j) = x / (nt ^ j * nt) * (nt ^ j * nt) + x % nt ^ j := by unfold bsL; rw [p2, p3]
      have e2 : bsL nt (nt ^ j) x = x / (nt ^ j * nt) * (nt ^ j * nt) + x % nt ^ j := rfl
      rw [e1, ← e2, xb]
    have old : ∀ i, i < nt → τ 134 (x + i * nt ^ j) = m0 (x + i * nt ^ j) := by
      intro i hi
      rw [I _ (ptl i hi), if_neg (by rw [ptb i hi]; omega)]
    refine bX7_spread_27 ⟨⟨by omega, by omega⟩, ⟨by omega, by omega⟩, fun z => by omega, fun _ => ?_⟩
    refine c_spreadLine h3 hn.2 (by omega) (fun i hi => by have := ptl i hi; omega) (fun i hi => by rw [old i hi]; exact hm _ (ptl i hi)) (by omega) (fun τ1 F1 N1 O1 => ⟨rfl, ?_⟩)
    rw [en]
    refine ih (x + 1) τ1 (by omega) (by omega) (by rw [F1 78 (by omega)]; exact h3) (fun v hv => ?_) (fun τ' F' A' I' => k1 τ' (fun o ho => by rw [F' o ho, F1 o ho]) (fun v hv => ?_) I')
    · by_cases e : bsL nt (nt ^ j) v = x
      · have vb := bsL_of (nt := nt) (v := v) hs hn.1
        rw [e] at vb
        have hi := Nat.mod_lt (v / nt ^ j) hn.1
        rw [if_pos (by omega), nmL, e]
        conv => lhs; rw [vb]
        rw [N1 _ hi, old _ hi, ← vb, lnM_cg nt (fun i hi => old i hi)]
      · have nv : ∀ i, i < nt → v ≠ x + i * nt ^ j := fun i hi z => e (by rw [z]; exact ptb i hi)
        rw [O1 v nv, I v hv]
        by_cases z : bsL nt (nt ^ j) v < x
        · rw [if_pos z, if_pos (by omega)]
        · rw [if_neg z, if_neg (by omega)]
    · rw [A' v hv]
      exact O1 v (fun i hi z => by have := ptl i hi; omega)
theorem c_spr13 {nt j L : Nat} {m0 : Nat → Int} (hn : 1 ≤ nt ∧ nt ≤ 6) (hj : j < L) (hall : nt ^ L ≤ 7776) (hm : ∀ v, v < nt ^ L → 0 ≤ m0 v ∧ m0 v ≤ 6) : ∀ (c q : Nat) (τ : mm_Mem), q + c = nt ^ (L - (j + 1)) → τ 78 3 = (nt : Int) → SPI nt (nt ^ j) (nt ^ L) (q * nt ^ (j + 1)) m0 (τ 134) → (∀ τ', (∀ o, o ≠ 134 → τ' o = τ o) → (∀ v, nt ^ L ≤ v → τ' 134 v = τ 134 v) → (∀ v, v < nt ^ L → τ' 134 v = nmL nt (nt ^ j) m0 v) → Q none τ') → V0 E (d + 2) qX7_spread 13 [some (vR 133), some (vI ((nt ^ j : Nat) : Int)), some (vI ((nt ^ L : Nat) : Int)), some (vI ((nt ^ (j + 1) : Nat) : Int)), some (vI ((q * nt ^ (j + 1) : Nat) : Int)), none] [] τ Q := by
  have hs : 0 < nt ^ j := Nat.pow_pos hn.1
  have hp : 0 < nt ^ (j + 1) := Nat.pow_pos hn.1
  have eb : nt ^ j * nt = nt ^ (j + 1) := (Nat.pow_succ ..).symm
  have hle2 : nt ^ (j + 1) ≤ nt ^ L := Nat.pow_le_pow_right hn.1 hj
  have hle : nt ^ j ≤ nt ^ (j + 1) := by rw [← eb]; exact Nat.le_mul_of_pos_right _ hn.1
  have eL : nt ^ (L - (j + 1)) * nt ^ (j + 1) = nt ^ L := by rw [← Nat.pow_add, show L - (j + 1) + (j + 1) = L by omega]
  intro c
  induction c with
  | zero =>
    intro q τ hq h3 I k1
    have e : q * nt ^ (j + 1) = nt ^ L := by rw [show q = nt ^ (L - (j + 1)) by omega, eL]
    rw [e]
    refine bX7_spread_13 ⟨⟨by omega, by omega⟩, ⟨by omega, by omega⟩, fun _ => k1 τ (fun _ _ => rfl) (fun _ _ => rfl) (fun v hv => ?_), fun z => by omega⟩
    rw [I v hv, e, if_pos (Nat.lt_of_le_of_lt (bsL_le hs hn.1) hv)]
  | succ c ih =>
    intro q τ hq h3 I k1
    have hq1 : q * nt ^ (j + 1) < nt ^ L := by
      rw [← eL]; exact Nat.mul_lt_mul_of_pos_right (by omega) hp
    refine bX7_spread_13 ⟨⟨by omega, by omega⟩, ⟨by omega, by omega⟩, fun z => by omega, fun _ => ⟨⟨by omega, by omega⟩, fun z => by omega, fun _ => ?_⟩⟩
    refine c_spr27 hn hj hall hm hq1 (nt ^ j) (q * nt ^ (j + 1)) τ rfl (Nat.le_refl _) h3 I (fun τ1 F1 A1 I1 => ?_)
    rw [show q * nt ^ (j + 1) + nt ^ (j + 1) = (q + 1) * nt ^ (j + 1) by rw [Nat.succ_mul]]
    refine ih (q + 1) τ1 (by omega) (by rw [F1 78 (by omega)]; exact h3) (fun v hv => ?_) (fun τ' F' A' N' => k1 τ' (fun o ho => by rw [F' o ho, F1 o ho]) (fun v hv => by rw [A' v hv, A1 v hv]) N')
    rw [I1 v hv]
    have ml := Nat.mod_lt v hs
    have iff : bsL nt (nt ^ j) v < q * nt ^ (j + 1) + nt ^ j ↔ bsL nt (nt ^ j) v < (q + 1) * nt ^ (j + 1) := by
      unfold bsL
      rw [eb]
      exact bs_aux ml hle
    by_cases z : bsL nt (nt ^ j) v < q * nt ^ (j + 1) + nt ^ j
    · rw [if_pos z, if_pos (iff.mp z)]
    · rw [if_neg z, if_neg (fun y => z (iff.mpr y))]
theorem c_spread {nt j L : Nat} (hn : 1 ≤ nt ∧ nt ≤ 6) (hj : j < L) (hall : nt ^ L ≤ 7776) (h3 : τ 78 3 = (nt : Int)) (hm : ∀ v, v < nt ^ L → 0 ≤ τ 134 v ∧ τ 134 v ≤ 6) (k1 : ∀ τ', (∀ o, o ≠ 134 → τ' o = τ o) → (∀ v, nt ^ L ≤ v → τ' 134 v = τ 134 v) → (∀ v, v < nt ^ L → τ' 134 v = nmL nt (nt ^ j) (τ 134) v) → Q none τ') : M0 E (d + 2) qX7_spread [vR 133, vI ((nt ^ j : Nat) : Int), vI ((nt ^ L : Nat) : Int)] τ Q := by
  refine mX7_spread ?_
  have e : ((nt ^ j : Nat) : Int) * τ 78 3 = ((nt ^ (j + 1) : Nat) : Int) := by rw [h3, Nat.pow_succ, Int.natCast_mul]
  rw [e]
  have l := c_spr13 (E := E) (d := d) (Q := Q) (m0 := τ 134) hn hj hall hm (nt ^ (L - (j + 1))) 0 τ (by omega) h3 (fun v hv => by rw [Nat.zero_mul, if_neg (Nat.not_lt_zero _)]) k1
  rw [Nat.zero_mul] at l
  exact l
end Lip
