/-! a tune by its number; who opens, counted by the reference -/
def dgN (nt L v : Nat) : Nat → Nat := fun i => if i < L then v / nt ^ (L - 1 - i) % nt else 0
def dgV (α : mm_Mem) (v : Nat) : Nat → Nat := dgN (α 0 3).toNat (α 0 4).toNat v
theorem dgN_num {nt L v : Nat} (hv : v < nt ^ L) : ∀ j, j ≤ L → numA (nt : Int) (fun i => (dgN nt L v i : Int)) j = ((v / nt ^ (L - j) : Nat) : Int)
  | 0, _ => by rw [numA, Nat.sub_zero, Nat.div_eq_of_lt hv]; rfl
  | j + 1, hj => by
    rw [numA, dgN_num hv j (by omega)]
    have e1 : dgN nt L v j = v / nt ^ (L - (j + 1)) % nt := by
      unfold dgN; rw [if_pos (by omega), show L - 1 - j = L - (j + 1) by omega]
    have e2 : v / nt ^ (L - j) = v / nt ^ (L - (j + 1)) / nt := by
      rw [show L - j = L - (j + 1) + 1 by omega, Nat.pow_succ, Nat.div_div_eq_div_mul]
    rw [e1, e2]
    have := Nat.div_add_mod (v / nt ^ (L - (j + 1))) nt
    generalize v / nt ^ (L - (j + 1)) = q at *
    have m : q / nt * nt = nt * (q / nt) := Nat.mul_comm _ _
    have : ((q / nt * nt + q % nt : Nat) : Int) = (q : Int) := by rw [m]; omega
    rw [← this]
    simp
theorem dgN_all {nt L v : Nat} (hv : v < nt ^ L) : numA (nt : Int) (fun i => (dgN nt L v i : Int)) L = (v : Int) := by
  rw [dgN_num hv L (Nat.le_refl _), Nat.sub_self, Nat.pow_zero, Nat.div_one]
/-- counting -/
def cntP (P : Nat → Bool) : Nat → Nat
  | 0 => 0
  | n + 1 => cntP P n + (if P n = true then 1 else 0)
theorem cntP_le (P : Nat → Bool) : ∀ n, cntP P n ≤ n
  | 0 => Nat.le_refl _
  | n + 1 => by have := cntP_le P n; rw [cntP]; split <;> omega
theorem cntP_congr {P P' : Nat → Bool} : ∀ n, (∀ i, i < n → P i = P' i) → cntP P n = cntP P' n
  | 0, _ => rfl
  | n + 1, h => by rw [cntP, cntP, cntP_congr n (fun i hi => h i (by omega)), h n (by omega)]
theorem cntP_up {P P' : Nat → Bool} {x : Nat} : ∀ n, x < n → P x = false → P' x = true → (∀ i, i ≠ x → P' i = P i) → cntP P' n = cntP P n + 1
  | 0, h, _, _, _ => by omega
  | n + 1, h, h1, h2, h3 => by
    rw [cntP, cntP]
    by_cases e : x = n
    · subst e
      rw [cntP_congr x (fun i hi => h3 i (by omega)), h1, h2]; simp
    · rw [cntP_up n (by omega) h1 h2 h3, h3 n (by omega)]; omega
theorem cntP_zero {P : Nat → Bool} : ∀ n m, n ≤ m → (∀ i, n ≤ i → P i = false) → cntP P m = cntP P n
  | n, 0, h, _ => by rw [show n = 0 by omega]
  | n, m + 1, h, h2 => by
    by_cases e : n = m + 1
    · rw [e]
    · rw [cntP, cntP_zero n m (by omega) h2, h2 m (by omega)]; simp
def opT (α : mm_Mem) (dd : Nat) (v t : Nat) : Bool := earA α dd t && decide (opA α (dgV α v) (α 5 dd) (α 6 dd) (α 7 dd) (α 15 (3 * dd + t)) (α 16 (3 * dd + t)) (α 17 (3 * dd + t)) t ≠ -1)
def opP (α : mm_Mem) (dd : Nat) (v : Nat) : Bool := opT α dd v 0 || opT α dd v 1 || opT α dd v 2
def allA (α : mm_Mem) : Nat := (α 0 3).toNat ^ (α 0 4).toNat
def openN (α : mm_Mem) (dd : Nat) : Nat := cntP (opP α dd) (allA α)
def chA (all m : Int) : Nat → Int → Int
  | 0, l => l
  | n + 1, l => chA all m n (l * (all - m) / all)
def chcR (α : mm_Mem) (dd : Nat) (n : Nat) : Int := 1000000000 - chA (allA α : Nat) (openN α dd : Nat) n 1000000000
def strangeR (α : mm_Mem) (x n : Int) : Int := if (0 ≤ x ∧ x < α 0 6) ∧ -1 ≤ n ∧ n ≤ 500 then (if n = -1 then (openN α x.toNat : Int) else chcR α x.toNat n.toNat) else -1
theorem chA_r {all m l : Int} (hm : 0 ≤ m ∧ m ≤ all) (ha : 1 ≤ all ∧ all ≤ 7776) (hl : 0 ≤ l ∧ l ≤ 1000000000) : 0 ≤ l * (all - m) ∧ l * (all - m) ≤ 7776000000000 ∧ 0 ≤ l * (all - m) / all ∧ l * (all - m) / all ≤ 1000000000 := by
  have h0 : 0 ≤ l * (all - m) := Int.mul_nonneg hl.1 (by omega)
  have h1 : l * (all - m) ≤ l * all := Int.mul_le_mul_of_nonneg_left (by omega) hl.1
  have h2 : l * all ≤ 1000000000 * all := Int.mul_le_mul_of_nonneg_right hl.2 (by omega)
  have h3 : l * (all - m) / all ≤ l * all / all := Int.ediv_le_ediv (by omega) h1
  rw [Int.mul_ediv_cancel _ (by omega : all ≠ 0)] at h3
  refine ⟨h0, by omega, Int.ediv_nonneg h0 (by omega), by omega⟩
theorem chA_range {all m : Int} (hm : 0 ≤ m ∧ m ≤ all) (ha : 1 ≤ all ∧ all ≤ 7776) : ∀ (n : Nat) (l : Int), 0 ≤ l ∧ l ≤ 1000000000 → 0 ≤ chA all m n l ∧ chA all m n l ≤ 1000000000
  | 0, l, hl => hl
  | n + 1, l, hl => by
    have r := chA_r hm ha hl
    exact chA_range hm ha n _ ⟨r.2.2.1, r.2.2.2⟩
section Digits
variable {E : mm_Env} {d k h b : Nat} {α τ : mm_Mem} {Q : mm_Q0}
theorem all_r (hL : 2 ≤ α 0 3 ∧ α 0 3 ≤ 6 ∧ 2 ≤ α 0 4 ∧ α 0 4 ≤ 5) : 1 ≤ allA α ∧ allA α ≤ 7776 ∧ ((allA α : Nat) : Int) = α 0 3 ^ (α 0 4).toNat := by
  unfold allA
  have q1 : (α 0 3).toNat ^ (α 0 4).toNat ≤ 6 ^ (α 0 4).toNat := Nat.pow_le_pow_left (by omega) _
  have q2 : (6 : Nat) ^ (α 0 4).toNat ≤ 6 ^ 5 := Nat.pow_le_pow_right (by omega) (by omega)
  have q3 : 0 < (α 0 3).toNat ^ (α 0 4).toNat := Nat.pow_pos (by omega)
  have q5 : (6 : Nat) ^ 5 = 7776 := by decide
  refine ⟨q3, by omega, ?_⟩
  rw [Int.natCast_pow, show (((α 0 3).toNat : Nat) : Int) = α 0 3 by omega]
theorem WF.door_ {dd : Nat} (w : WF k α) (d1 : (dd : Int) < α 0 6) : 2 ≤ α 0 3 ∧ α 0 3 ≤ 6 ∧ 2 ≤ α 0 4 ∧ α 0 4 ≤ 5 := by
  obtain ⟨hh, -⟩ := w.2.1
  omega
theorem fv_dg {v : Nat} (hL : 2 ≤ α 0 3 ∧ α 0 3 ≤ 6 ∧ 2 ≤ α 0 4 ∧ α 0 4 ≤ 5) : fvA α (dgV α v) := by
  refine ⟨fun i hi => ?_, fun i hi => ?_⟩
  · unfold dgV dgN
    rw [if_pos (by omega)]
    have := Nat.mod_lt (v / (α 0 3).toNat ^ ((α 0 4).toNat - 1 - i)) (show 0 < (α 0 3).toNat by omega)
    omega
  · unfold dgV dgN
    rw [if_neg (by omega)]
theorem num_dg {v : Nat} (hL : 2 ≤ α 0 3 ∧ α 0 3 ≤ 6 ∧ 2 ≤ α 0 4 ∧ α 0 4 ≤ 5) (hv : v < allA α) : numA (α 0 3) (fun i => (dgV α v i : Int)) (α 0 4).toNat = (v : Int) := by
  have := dgN_all (nt := (α 0 3).toNat) (L := (α 0 4).toNat) hv
  rw [show (((α 0 3).toNat : Nat) : Int) = α 0 3 by omega] at this
  exact this
theorem m_tunesAllL (hL : 2 ≤ α 0 3 ∧ α 0 3 ≤ 6 ∧ 2 ≤ α 0 4 ∧ α 0 4 ≤ 5) (H : RepM b α τ) (k1 : Q (some (vI (allA α : Nat))) τ) : ∀ (m i : Nat), (i : Int) + m = α 0 4 → V0 E d qX11_tunesAll 4 [some (vR 140), some (vI (((α 0 3).toNat ^ i : Nat) : Int)), some (vI (i : Int))] [] τ Q
  | 0, i, hi => by
    obtain ⟨b1, b2, b3⟩ := H.bk
    have h4 := H.hs.2.1
    refine bX11_tunesAll_4 ⟨by omega, by omega, ⟨by omega, by omega⟩, fun _ => ?_, fun q => by rw [b3, h4] at q; omega⟩
    rw [show i = (α 0 4).toNat by omega]; exact k1
  | m + 1, i, hi => by
    obtain ⟨b1, b2, b3⟩ := H.bk
    have h4 := H.hs.2.1
    have h3 := H.hs.1
    have en : ((i : Int) + 1) = ((i + 1 : Nat) : Int) := by omega
    refine bX11_tunesAll_4 ⟨by omega, by omega, ⟨by omega, by omega⟩, fun q => by rw [b3, h4] at q; omega, fun _ => ⟨by omega, by omega, ?_⟩⟩
    have e : (((α 0 3).toNat ^ i : Nat) : Int) * τ 142 (τ 140 12).toNat = (((α 0 3).toNat ^ (i + 1) : Nat) : Int) := by
      rw [b3, h3, Nat.pow_succ, Int.natCast_mul, show (((α 0 3).toNat : Nat) : Int) = α 0 3 by omega]
    rw [e, en]
    exact m_tunesAllL hL H k1 m (i + 1) (by omega)
theorem m_tunesAll (hL : 2 ≤ α 0 3 ∧ α 0 3 ≤ 6 ∧ 2 ≤ α 0 4 ∧ α 0 4 ≤ 5) (H : RepM b α τ) (k1 : Q (some (vI (allA α : Nat))) τ) : M0 E d qX11_tunesAll [vR 140] τ Q := by
  have l := m_tunesAllL (E := E) (d := d) (Q := Q) hL H k1 (α 0 4).toNat 0 (by omega)
  exact mX11_tunesAll l
theorem m_isOpenTo {dd v : Nat} (w : WF k α) (H : RepM b α τ) (d1 : (dd : Int) < α 0 6) (hm : mH α (dgV α v) τ) (k1 : Q (some (vB (opP α dd v))) τ) : M0 E (d + 4) qX11_isOpenTo [vR 140, vI (dd : Int)] τ Q := by
  have hw := w.le
  have wd := w.2.2.1 dd d1
  obtain ⟨b1, b2, b3⟩ := H.bk
  have h5 := H.hs.2.2.1
  have fv := fv_dg (α := α) (v := v) (w.door_ d1)
  have off : ∀ t : Nat, α 0 5 ≤ (t : Int) → opT α dd v t = false := by
    intro t ht
    unfold opT
    have : earA α dd (t : Int) = false := by
      by_cases z : earA α dd (t : Int) = true
      · have := earA_lt w z; omega
      · exact Bool.eq_false_iff.mpr z
    rw [this, Bool.false_and]
  have step : ∀ t : Nat, t < 3 → (opT α dd v t = true → Q (some (vB true)) τ) → ((∀ i : Nat, t ≤ i → opT α dd v i = false) → Q (some (vB false)) τ) → (opT α dd v t = false → V0 E (d + 4) qX11_isOpenTo 2 [some (vR 140), some (vI (dd : Int)), some (vI ((t : Int) + 1))] [] τ Q) → V0 E (d + 4) qX11_isOpenTo 2 [some (vR 140), some (vI (dd : Int)), some (vI (t : Int))] [] τ Q := by
    intro t ht y1 y2 y3
    have we := w.2.2.2.2.1 (3 * dd + t)
    refine bX11_isOpenTo_2 ⟨by omega, by omega, ⟨by omega, by omega⟩, fun q => y2 (fun i hi => off i (by rw [b3, h5] at q; omega)), fun q => m_isEar w H ⟨by omega, by omega⟩ ⟨by omega, by omega⟩ ⟨_, rfl, fun z => y3 (by unfold opT; rw [z, Bool.false_and]), fun z => ?_⟩⟩
    rw [b3, h5] at q
    have r := opA_r (α := α) (f := dgV α v) (kind := α 5 dd) (one := α 6 dd) (two := α 7 dd) (c := α 15 (3 * dd + t)) (hf := α 16 (3 * dd + t)) (tr := α 17 (3 * dd + t)) (t := t) we.1 we.2.1
    refine m_opensTo w H hm fv d1 (by omega) ⟨_, rfl, ⟨by omega, by omega⟩, fun u => y3 ?_, fun u => y1 ?_⟩
    · unfold opT; rw [z, Bool.true_and]; exact decide_eq_false (by simp [u])
    · unfold opT; rw [z, Bool.true_and]; exact decide_eq_true u
  unfold opP at k1
  refine mX11_isOpenTo (step 0 (by omega) (fun z => ?_) (fun z => ?_) (fun z0 => ?_))
  · rw [z, Bool.true_or, Bool.true_or] at k1; exact k1
  · rw [z 0 (by omega), z 1 (by omega), z 2 (by omega)] at k1; exact k1
  refine step 1 (by omega) (fun z => ?_) (fun z => ?_) (fun z1 => ?_)
  · rw [z, Bool.or_true, Bool.true_or] at k1; exact k1
  · rw [z0, z 1 (by omega), z 2 (by omega)] at k1; exact k1
  refine step 2 (by omega) (fun z => ?_) (fun z => ?_) (fun z2 => ?_)
  · rw [z, Bool.or_true] at k1; exact k1
  · rw [z0, z1, z 2 (by omega)] at k1; exact k1
  refine bX11_isOpenTo_2 ⟨by omega, by omega, ⟨by decide, by decide⟩, fun _ => ?_, fun q => by rw [b3, h5] at q; omega⟩
  rw [z0, z1, z2] at k1; exact k1
theorem RepM.fr188 {v : Int} {j : Nat} (H : RepM b α τ) : RepM b α (wr τ 188 j v) := H.frame (fun o j hr => by
  by_cases e : o = 188
  · subst e; exact absurd hr (by simp [relM])
  · rw [wr_obj e])
theorem RepM.fr66 {v : Int} (H : RepM b α τ) : RepM b α (wr τ 140 66 v) := H.frame (fun o j hr => by
  by_cases e : o = 140
  · subst e
    rw [wr_row]
    intro e; subst e; exact absurd hr (by decide)
  · rw [wr_obj e])
theorem m_op28 {dd v : Nat} {x : Int} (w : WF k α) (d1 : (dd : Int) < α 0 6) (hv : v < allA α) : ∀ (i : Nat) (τ : mm_Mem), (i : Int) ≤ α 0 4 → RepM b α τ → (∀ j : Nat, i ≤ j → (j : Int) < α 0 4 → τ 188 j = (dgV α v j : Int)) → (∀ τ', RepM b α τ' → FrM τ τ' → V0 E (d + 5) qX11_openers 4 [some (vR 140), some (vI (dd : Int)), some (vI (x + bI (opP α dd v))), some (vI ((v : Int) + 1)), none, none] [] τ' Q) → V0 E (d + 5) qX11_openers 28 [some (vR 140), some (vI (dd : Int)), some (vI x), some (vI (v : Int)), some (vI ((v / (α 0 3).toNat ^ ((α 0 4).toNat - i) : Nat) : Int)), some (vI ((i : Int) - 1))] [] τ Q
  | 0, τ, hi, H, lo, k1 => by
    have hL := w.door_ d1
    have ar := all_r hL
    have H1 : RepM b α (wr τ 140 66 (v : Int)) := H.fr66
    have M1 : mH α (dgV α v) (wr τ 140 66 (v : Int)) := ⟨fun j hj => by rw [wr_obj (by omega)]; exact lo j (by omega) hj, by rw [wr_same, num_dg hL hv]⟩
    refine bX11_openers_28 ⟨⟨by omega, by omega⟩, fun _ => ⟨⟨by omega, by omega⟩, m_isOpenTo w H1 d1 M1 ⟨_, rfl, fun z => ?_, fun z => ?_⟩⟩, fun q => by omega⟩
    all_goals
      have := k1 _ H1 (FrM.rf.w1 (by omega))
      rw [z] at this
      exact this
  | i + 1, τ, hi, H, lo, k1 => by
    have hL := w.door_ d1
    have ar := all_r hL
    obtain ⟨b1, b2, b3⟩ := H.bk
    have h3 := H.hs.1
    have en : (((i + 1 : Nat) : Int) - 1) = (i : Int) := by omega
    have vb : v / (α 0 3).toNat ^ ((α 0 4).toNat - (i + 1)) ≤ v := Nat.div_le_self _ _
    have e1 : Int.tmod ((v / (α 0 3).toNat ^ ((α 0 4).toNat - (i + 1)) : Nat) : Int) (α 0 3) = (dgV α v i : Int) := by
      rw [tm_pos (Int.natCast_nonneg _)]
      unfold dgV dgN
      rw [if_pos (by omega), show (α 0 4).toNat - 1 - i = (α 0 4).toNat - (i + 1) by omega]
      have : ((v / (α 0 3).toNat ^ ((α 0 4).toNat - (i + 1)) % (α 0 3).toNat : Nat) : Int) = ((v / (α 0 3).toNat ^ ((α 0 4).toNat - (i + 1)) : Nat) : Int) % (((α 0 3).toNat : Nat) : Int) := Int.natCast_emod _ _
      rw [this, show (((α 0 3).toNat : Nat) : Int) = α 0 3 by omega]
    have e2 : Int.tdiv ((v / (α 0 3).toNat ^ ((α 0 4).toNat - (i + 1)) : Nat) : Int) (α 0 3) = ((v / (α 0 3).toNat ^ ((α 0 4).toNat - i) : Nat) : Int) := by
      rw [Int.tdiv_eq_ediv_of_nonneg (Int.natCast_nonneg _), show (α 0 4).toNat - i = (α 0 4).toNat - (i + 1) + 1 by omega, Nat.pow_succ, ← Nat.div_div_eq_div_mul]
      have : ((v / (α 0 3).toNat ^ ((α 0 4).toNat - (i + 1)) / (α 0 3).toNat : Nat) : Int) = ((v / (α 0 3).toNat ^ ((α 0 4).toNat - (i + 1)) : Nat) : Int) / (((α 0 3).toNat : Nat) : Int) := Int.natCast_ediv _ _
      rw [this, show (((α 0 3).toNat : Nat) : Int) = α 0 3 by omega]
    have fvb := (fv_dg (α := α) (v := v) hL).1 i (by omega)
    have vr : inR ((v / (α 0 3).toNat ^ ((α 0 4).toNat - (i + 1)) : Nat) : Int) := by
      generalize v / (α 0 3).toNat ^ ((α 0 4).toNat - (i + 1)) = q at vb
      exact ⟨by omega, by omega⟩
    rw [en]
    refine bX11_openers_28 ⟨⟨by omega, by omega⟩, fun q => by omega, fun _ => ⟨by omega, by omega, vr, ?_⟩⟩
    rw [b3, h3, e1, e2, Int.toNat_natCast, show (i : Int) + -1 = (i : Int) - 1 by omega]
    refine ⟨by omega, by omega, by omega, ⟨by omega, by omega⟩, by omega, by omega, by omega, ?_⟩
    refine m_op28 w d1 hv i _ (by omega) H.fr188 (fun j hj hj2 => ?_) (fun τ' H' F' => k1 τ' H' (fun o ho => by rw [F' o ho, wr_obj (by omega)]))
    by_cases e : j = i
    · subst e; rw [wr_same]
    · rw [wr_row e]; exact lo j (by omega) hj2
theorem m_op4 {dd : Nat} (w : WF k α) (d1 : (dd : Int) < α 0 6) : ∀ (m v : Nat) (τ : mm_Mem), v + m = allA α → RepM b α τ → (∀ τ', RepM b α τ' → FrM τ τ' → Q (some (vI (openN α dd : Nat))) τ') → V0 E (d + 5) qX11_openers 4 [some (vR 140), some (vI (dd : Int)), some (vI (cntP (opP α dd) v : Nat)), some (vI (v : Int)), none, none] [] τ Q
  | 0, v, τ, hv, H, k1 => by
    have hL := w.door_ d1
    have ar := all_r hL
    refine bX11_openers_4 (m_tunesAll hL H ⟨_, rfl, ⟨by omega, by omega⟩, ⟨by omega, by omega⟩, fun _ => ?_, fun q => by omega⟩)
    rw [show v = allA α by omega]; exact k1 τ H FrM.rf
  | m + 1, v, τ, hv, H, k1 => by
    have hL := w.door_ d1
    have ar := all_r hL
    obtain ⟨b1, b2, b3⟩ := H.bk
    have h4 := H.hs.2.1
    have en : ((v : Int) + 1) = ((v + 1 : Nat) : Int) := by omega
    refine bX11_openers_4 (m_tunesAll hL H ⟨_, rfl, ⟨by omega, by omega⟩, ⟨by omega, by omega⟩, fun q => by omega, fun _ => ⟨by omega, by omega, ?_⟩⟩)
    rw [b3, h4]
    have l := m_op28 (E := E) (d := d) (b := b) (Q := Q) (dd := dd) (v := v) (x := (cntP (opP α dd) v : Nat)) w d1 (by omega) (α 0 4).toNat τ (by omega) H (fun j h1 h2 => by omega) (fun τ' H' F' => ?_)
    · rw [Nat.sub_self, Nat.pow_zero, Nat.div_one, show (((α 0 4).toNat : Nat) : Int) = α 0 4 by omega] at l
      exact l
    · have e : ((cntP (opP α dd) v : Nat) : Int) + bI (opP α dd v) = ((cntP (opP α dd) (v + 1) : Nat) : Int) := by
        rw [cntP]
        cases opP α dd v <;> simp [bI]
      rw [e, en]
      exact m_op4 w d1 m (v + 1) τ' (by omega) H' (fun τ2 H2 F2 => k1 τ2 H2 (F'.tr F2))
theorem m_openers {dd : Nat} (w : WF k α) (H : RepM b α τ) (d1 : (dd : Int) < α 0 6) (k1 : ∀ τ', RepM b α τ' → FrM τ τ' → Q (some (vI (openN α dd : Nat))) τ') : M0 E (d + 5) qX11_openers [vR 140, vI (dd : Int)] τ Q :=
  mX11_openers (m_op4 w d1 (allA α) 0 τ (by omega) H k1)
theorem m_strL {n : Nat} {all m : Int} (hm : 0 ≤ m ∧ m ≤ all) (ha : 1 ≤ all ∧ all ≤ 7776) (hn : n ≤ 500) : ∀ (j i : Nat) (l : Int), i + j = n → 0 ≤ l ∧ l ≤ 1000000000 → Q (some (vL (1000000000 - chA all m j l))) τ → V0 E (d + 1) qX11_strangerOf 20 [none, none, some (vI (n : Int)), some (vI m), some (vI all), some (vL l), none, some (vI (i : Int))] [] τ Q
  | 0, i, l, hi, hl, k1 => bX11_strangerOf_20 ⟨⟨by omega, by omega⟩, ⟨by omega, by omega⟩, fun _ => k1, fun q => by omega⟩
  | j + 1, i, l, hi, hl, k1 => by
    have r := chA_r hm ha hl
    have en : ((i : Int) + 1) = ((i + 1 : Nat) : Int) := by omega
    refine bX11_strangerOf_20 ⟨⟨by omega, by omega⟩, ⟨by omega, by omega⟩, fun q => by omega, fun _ => ⟨⟨by omega, by omega⟩, ⟨by omega, by omega⟩, ⟨by omega, by omega⟩, by omega, ?_⟩⟩
    rw [en, Int.tdiv_eq_ediv_of_nonneg r.1]
    exact m_strL hm ha hn j (i + 1) _ (by omega) ⟨r.2.2.1, r.2.2.2⟩ k1
theorem m_strangerOf {dd n : Nat} (w : WF k α) (H : RepM b α τ) (d1 : (dd : Int) < α 0 6) (hn : n ≤ 500) (k1 : ∀ τ', RepM b α τ' → FrM τ τ' → Q (some (vL (chcR α dd n))) τ') : M0 E (d + 6) qX11_strangerOf [vR 140, vI (dd : Int), vI (n : Int)] τ Q := by
  have hL := w.door_ d1
  have ar := all_r hL
  have ol := cntP_le (opP α dd) (allA α)
  refine mX11_strangerOf (m_openers w H d1 (fun τ1 H1 F1 => ⟨_, rfl, m_tunesAll hL H1 ⟨_, rfl, ?_⟩⟩))
  exact m_strL (by unfold openN; omega) (by omega) hn n 0 1000000000 (by omega) (by omega) (k1 τ1 H1 F1)
theorem m_stranger {a n : Int} (w : WF k α) (H : RepM b α τ) (ha : inR a) (hn : inR n) (k1 : ∀ τ', RepM b α τ' → FrM τ τ' → Q (some (vL (strangeR α a n))) τ') : M0 E (d + 7) qX11_stranger [vR 140, vI a, vI n] τ Q := by
  unfold strangeR at k1
  have no : ¬ ((0 ≤ a ∧ a < α 0 6) ∧ -1 ≤ n ∧ n ≤ 500) → Q (some (vL (-1))) τ := fun z => by
    rw [if_neg z] at k1; exact k1 τ H FrM.rf
  refine mX11_stranger (m_isDoor w H ha ⟨_, rfl, fun q => no (fun z => of_decide_eq_false q z.1), fun q => ⟨hn, fun z => ⟨fun y => absurd z y, fun _ => ?_⟩, fun z => m_is hn ⟨by decide, by decide⟩ ⟨by decide, by decide⟩ ⟨_, rfl, fun q2 => ⟨fun _ => ?_, fun y => absurd y z⟩, fun q2 => no (fun y => of_decide_eq_false q2 (by omega))⟩⟩⟩)
  · have q := of_decide_eq_true q
    rw [if_pos ⟨q, by omega, by omega⟩, if_pos z] at k1
    have ar := all_r (w.door_ (dd := a.toNat) (by omega))
    have ol := cntP_le (opP α a.toNat) (allA α)
    have l := m_openers (E := E) (d := d + 1) (b := b) (dd := a.toNat) (Q := fun v τ6 => ∃ r7 : Int, v = some (vI r7) ∧ inR r7 ∧ Q (some (vL r7)) τ6) w H (by omega) (fun τ' H' F' => ⟨_, rfl, ⟨by omega, by unfold openN; omega⟩, k1 τ' H' F'⟩)
    rw [show ((a.toNat : Nat) : Int) = a by omega] at l
    exact l
  · have q := of_decide_eq_true q
    have q2 := of_decide_eq_true q2
    rw [if_pos ⟨q, by omega, by omega⟩, if_neg z] at k1
    have l := m_strangerOf (E := E) (d := d) (b := b) (dd := a.toNat) (n := n.toNat) (Q := fun v τ6 => ∃ r7 : Int, v = some (vL r7) ∧ Q (some (vL r7)) τ6) w H (by omega) (by omega) (fun τ' H' F' => ⟨_, rfl, k1 τ' H' F'⟩)
    rw [show ((a.toNat : Nat) : Int) = a by omega, show ((n.toNat : Nat) : Int) = n by omega] at l
    exact l
end Digits
