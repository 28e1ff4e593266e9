/-! mend, would, bears, bird -/
def mdR (α : mm_Mem) (dd t : Nat) (c : Int) : Nat → Int → mm_ES → Int
  | 0, _, _ => -1
  | m + 1, x, S => if (oS α dd t (c + x - 1) S).1 = true then x else mdR α dd t c m (x + 1) (oS α dd t (c + x - 1) S).2
def mendR (α : mm_Mem) (p : Int) : Int := if 0 ≤ p ∧ p < α 0 7 then mdR α (α 8 p.toNat).toNat (α 9 p.toNat).toNat (α 12 p.toNat) 50 1 (eS0 α (α 8 p.toNat).toNat) else -1
theorem mdR_end {α : mm_Mem} {dd t : Nat} {c : Int} : ∀ (m : Nat) (x : Int) (S : mm_ES), 1000 ≤ c + x - 1 → mdR α dd t c m x S = -1
  | 0, _, _, _ => rfl
  | m + 1, x, S, h => by
    have e : oS α dd t (c + x - 1) S = (false, S) := by unfold oS; rw [if_neg (by omega)]
    rw [mdR, e, if_neg Bool.false_ne_true]
    exact mdR_end m (x + 1) S (by omega)
section Tries
variable {E : mm_Env} {d k h b : Nat} {α τ : mm_Mem} {Q : mm_Q0}
theorem c_mendL {p : Nat} (w : WF k α) (hk : k ≤ 600) (p1 : (p : Int) < α 0 7) : ∀ (m n : Nat) (x : Int) (S : mm_ES) (τ : mm_Mem), x + m = 51 → 1 ≤ x → RepC k h α τ → tS α (α 8 p).toNat 91 S τ → bS S → gYn n τ → n + m ≤ 4000 * k → (∀ τ', RepC k h α τ' → FrC τ τ' → Q (some (vI (mdR α (α 8 p).toNat (α 9 p).toNat (α 12 p) m x S))) τ') → V0 E (d + 7) qX10_mend 25 [some (vR 2), none, some (vR (h + 30 + p)), some (vI x)] [] τ Q
  | 0, n, x, S, τ, hx, h1, H, T, hS, Y, hn, k1 => bX10_mend_25 ⟨⟨by omega, by omega⟩, fun _ => k1 τ H FrC.rf, fun q => by omega⟩
  | m + 1, n, x, S, τ, hx, h1, H, T, hS, Y, hn, k1 => by
    have hw := w.le
    have wp := w.2.2.2.1 p p1
    have kp := kdPers (h := h) (p := p) H.2.2.1.1 (by omega)
    obtain ⟨q1, q2, q3, q4, q5, q6, q7⟩ := H.pers (a := (p : Int)) (by omega) p1
    rw [Int.toNat_natCast] at q2 q5
    refine bX10_mend_25 ⟨⟨by omega, by omega⟩, fun q => by omega, fun _ => ⟨kp, ?_⟩⟩
    rw [q2, q5, show α 9 p = (((α 9 p).toNat : Nat) : Int) by omega]
    refine c_trialOpens w hk H T (by omega) (by omega) hS Y (by omega) ⟨by omega, by omega⟩ (fun τ' H' F' _ T' Y' => ⟨_, rfl, fun q => ?_, fun q => ?_⟩)
    · refine c_mendL w hk p1 m (n + 1) (x + 1) _ τ' (by omega) (by omega) H' T' (bS_o w (by omega) hS) Y' (by omega) (fun τ2 H2 F2 => ?_)
      have := k1 τ2 H2 (F'.tr F2)
      rw [mdR, if_neg (by rw [q]; decide)] at this; exact this
    · have := k1 τ' H' F'
      rw [mdR, if_pos q] at this; exact this
theorem c_mend {a : Int} (w : WF k α) (hk : k ≤ 599) (H : RepC k h α τ) (ha : inR a) (k1 : ∀ τ', RepC (k + 1) h α τ' → FrC τ τ' → Q (some (vI (mendR α a))) τ') : M0 E (d + 7) qX10_mend [vR 2, vI a] τ Q := by
  have hw := w.le
  have w1 := w.up (show k ≤ k + 1 by omega)
  have H1 := H.up (show k ≤ k + 1 by omega)
  unfold mendR at k1
  refine mX10_mend (c_personAt w1 H1 ha (fun a0 a1 kd => ⟨_, rfl, fun q => by omega, fun _ => ⟨kd, ?_⟩⟩) (fun q => ⟨_, rfl, fun _ => ?_, fun z => absurd rfl z⟩))
  · rw [if_pos ⟨a0, a1⟩] at k1
    obtain ⟨q1, q2, q3, q4, q5, q6, q7⟩ := H1.pers a0 a1
    have wp := w.2.2.2.1 a.toNat (by omega)
    rw [q1]
    refine c_tryAt (n := 4000 * k) w1 H1 ⟨by omega, by omega⟩ H.y.n (by omega) (fun b0 b1 τ' H' F' _ T' Y' => ⟨_, rfl, fun _ => ?_, fun z => absurd z (by decide)⟩) (fun q => absurd q (by omega))
    exact c_mendL w1 (by omega) (by omega) 50 (4000 * k) 1 _ τ' (by omega) (by omega) H' T' (bS_0 w) Y' (by omega) (fun τ2 H2 F2 => k1 τ2 H2 (F'.tr F2))
  · rw [if_neg q] at k1
    exact k1 τ H1 FrC.rf
theorem m_mendL {p : Nat} (w : WF k α) (p1 : (p : Int) < α 0 7) : ∀ (m : Nat) (x : Int) (S : mm_ES) (τ : mm_Mem), x + m = 51 → 1 ≤ x → RepM b (stE α p (α 12 p + x - 1) (α 8 p).toNat S) τ → bS S → kpA α τ → (∀ τ', RepM b α τ' → FrM τ τ' → Q (some (vI (mdR α (α 8 p).toNat (α 9 p).toNat (α 12 p) m x S))) τ') → V0 E (d + 7) qX11_mend 18 [some (vR 140), some (vI (p : Int)), some (vI (-1)), some (vI x)] [] τ Q := by
  intro m
  have hw := w.le
  have wp := w.2.2.2.1 p p1
  have rr : ∀ (c : Int) (S : mm_ES) (j : Nat), j ≠ 12 → j ≠ 15 → j ≠ 16 → j ≠ 17 → stE α p c (α 8 p).toNat S j = α j := fun c S j j1 j2 j3 j4 => stE_o j1 (by omega)
  induction m with
  | zero =>
    intro x S τ hx h1 H hS K k1
    refine bX11_mend_18 ⟨⟨by omega, by omega⟩, fun _ => m_back H (rr _ _) K (fun τ' F' H' _ => ⟨rfl, k1 τ' H' (fun o ho => F' o (by omega) (by omega) (by omega) (by omega))⟩), fun q => by omega⟩
  | succ m ih =>
    intro x S τ hx h1 H hS K k1
    refine bX11_mend_18 ⟨⟨by omega, by omega⟩, fun q => by omega, fun _ => ⟨⟨by decide, by decide⟩, fun q => absurd rfl q, fun _ => m_canCome H (by omega) (by omega) ⟨_, rfl, fun q => ?_, fun q => ?_⟩⟩⟩
    · rw [Int.toNat_natCast, stE_12] at q
      have q := of_decide_eq_false q
      rw [mdR_end _ _ _ (by omega)] at k1
      exact m_back H (rr _ _) K (fun τ' F' H' _ => ⟨rfl, k1 τ' H' (fun o ho => F' o (by omega) (by omega) (by omega) (by omega))⟩)
    · rw [Int.toNat_natCast, stE_12] at q
      have q := of_decide_eq_true q
      refine m_isLetIn w H p1 (by omega) hS (fun τ' H' F' => ⟨_, rfl, fun z => ?_, fun z => ?_⟩)
      · have K' : kpA α τ' := ⟨fun p hp => by rw [F' 189 (by omega) (by omega) (by omega) (by omega) (by omega) (by omega)]; exact K.1 p hp, fun e he => by rw [F' 190 (by omega) (by omega) (by omega) (by omega) (by omega) (by omega), F' 191 (by omega) (by omega) (by omega) (by omega) (by omega) (by omega), F' 192 (by omega) (by omega) (by omega) (by omega) (by omega) (by omega)]; exact K.2 e he⟩
        rw [if_pos q, show α 12 p + x - 1 + 1 = α 12 p + (x + 1) - 1 by omega] at H'
        refine ih (x + 1) _ τ' (by omega) (by omega) H' (bS_o w (by omega) hS) K' (fun τ2 H2 F2 => ?_)
        have := k1 τ2 H2 (fun o ho => by rw [F2 o ho, F' o (by omega) (by omega) (by omega) (by omega) (by omega) (by omega)])
        rw [mdR, if_neg (by rw [z]; decide)] at this; exact this
      · have K' : kpA α τ' := ⟨fun p hp => by rw [F' 189 (by omega) (by omega) (by omega) (by omega) (by omega) (by omega)]; exact K.1 p hp, fun e he => by rw [F' 190 (by omega) (by omega) (by omega) (by omega) (by omega) (by omega), F' 191 (by omega) (by omega) (by omega) (by omega) (by omega) (by omega), F' 192 (by omega) (by omega) (by omega) (by omega) (by omega) (by omega)]; exact K.2 e he⟩
        rw [mdR, if_pos z] at k1
        have fin : M0 E (d + 6) qX11_back [vR 140] τ' (fun v τ2 => v = none ∧ Q (some (vI x)) τ2) := m_back H' (rr _ _) K' (fun τ2 F2 H2 _ => ⟨rfl, k1 τ2 H2 (fun o ho => by rw [F2 o (by omega) (by omega) (by omega) (by omega), F' o (by omega) (by omega) (by omega) (by omega) (by omega) (by omega)])⟩)
        exact bX11_mend_18 ⟨⟨by omega, by omega⟩, fun _ => fin, fun _ => ⟨⟨by omega, by omega⟩, fun _ => fin, fun y => by omega⟩⟩
theorem m_mend {a : Int} (w : WF k α) (H : RepM b α τ) (ha : inR a) (k1 : ∀ τ', RepM b α τ' → FrM τ τ' → Q (some (vI (mendR α a))) τ') : M0 E (d + 7) qX11_mend [vR 140, vI a] τ Q := by
  unfold mendR at k1
  refine mX11_mend (m_isPerson w H ha ⟨_, rfl, fun q => ?_, fun q => ?_⟩)
  · have q := of_decide_eq_true q
    rw [if_pos q] at k1
    refine m_keeps H (fun τ1 F1 H1 K1 => ⟨rfl, ?_⟩)
    have l := m_mendL (E := E) (d := d) (b := b) (Q := Q) (p := a.toNat) w (by omega) 50 1 (eS0 α (α 8 a.toNat).toNat) τ1 (by omega) (by omega) (by rw [show α 12 a.toNat + 1 - 1 = α 12 a.toNat by omega, stE_0]; exact H1) (bS_0 w) K1 (fun τ2 H2 F2 => k1 τ2 H2 (fun o ho => by rw [F2 o ho, F1 o (by omega)]))
    rw [show ((a.toNat : Nat) : Int) = a by omega] at l
    exact l
  · rw [if_neg (of_decide_eq_false q)] at k1
    exact k1 τ H FrM.rf
/-- would: bits -/
def wdR (α : mm_Mem) (x : Int) : Nat → Nat → Int → Int
  | 0, _, v => v
  | m + 1, p, v => wdR α x m (p + 1) (if (p : Int) < α 0 7 ∧ α 8 p = x ∧ (oS α (α 8 p).toNat (α 9 p).toNat (α 12 p) (eS0 α (α 8 p).toNat)).1 = true then mm_or v (mm_shl 1 p) else v)
def wouldR (α : mm_Mem) (x : Int) : Int := if 0 ≤ x ∧ x < α 0 6 then wdR α x 4 0 0 else -1
theorem wdR_end {x : Int} : ∀ (m p : Nat) (v : Int), α 0 7 ≤ (p : Int) → wdR α x m p v = v
  | 0, _, _, _ => rfl
  | m + 1, p, v, hp => by
    rw [wdR, if_neg (by omega)]
    exact wdR_end m (p + 1) v (by omega)
theorem c_wouldL {x : Int} (w : WF k α) (hk : k ≤ 600) (x0 : 0 ≤ x ∧ x < α 0 6) : ∀ (m n p : Nat) (v : Int) (τ : mm_Mem), p + m = 4 → RepC k h α τ → gYn n τ → n + m ≤ 4000 * k → (∀ τ', RepC k h α τ' → FrC τ τ' → Q (some (vI (wdR α x m p v))) τ') → V0 E (d + 7) qX10_would 14 [some (vR 2), some (vI x), some (vI v), some (vI (p : Int)), none] [] τ Q
  | 0, n, p, v, τ, hp, H, Y, hn, k1 => bX10_would_14 ⟨⟨by omega, by omega⟩, fun _ => k1 τ H FrC.rf, fun q => by omega⟩
  | m + 1, n, p, v, τ, hp, H, Y, hn, k1 => by
    have hw := w.le
    have en : ((p : Int) + 1) = ((p + 1 : Nat) : Int) := by omega
    rw [wdR] at k1
    have no : ∀ (n' : Nat) (τ1 : mm_Mem), RepC k h α τ1 → FrC τ τ1 → gYn n' τ1 → n' + m ≤ 4000 * k → ¬ ((p : Int) < α 0 7 ∧ α 8 p = x ∧ (oS α (α 8 p).toNat (α 9 p).toNat (α 12 p) (eS0 α (α 8 p).toNat)).1 = true) → V0 E (d + 7) qX10_would 14 [some (vR 2), some (vI x), some (vI v), some (vI ((p : Int) + 1)), none] [] τ1 Q := by
      intro n' τ1 H1 F1 Y1 hn1 z
      rw [if_neg z] at k1
      rw [en]
      exact c_wouldL w hk x0 m n' (p + 1) v τ1 (by omega) H1 Y1 hn1 (fun τ2 H2 F2 => k1 τ2 H2 (F1.tr F2))
    refine bX10_would_14 ⟨⟨by omega, by omega⟩, fun q => by omega, fun _ => c_personAt w H ⟨by omega, by omega⟩ (fun a0 a1 kd => ⟨_, rfl, fun q => by omega, fun _ => ⟨kd, ⟨by omega, by omega⟩, ?_⟩⟩) (fun q => ⟨_, rfl, fun _ => no n τ H FrC.rf Y (by omega) (fun z => q ⟨by omega, z.1⟩), fun z => absurd rfl z⟩)⟩
    have wp := w.2.2.2.1 p a1
    obtain ⟨q1, q2, q3, q4, q5, q6, q7⟩ := H.pers a0 a1
    rw [Int.toNat_natCast] at q1 q2 q5
    rw [Int.toNat_natCast, q1]
    refine ⟨fun q => no n τ H FrC.rf Y (by omega) (fun z => q z.2.1), fun q => ?_⟩
    refine c_tryAt w H ⟨by omega, by omega⟩ Y (by omega) (fun b0 b1 τ1 H1 F1 G1 T1 Y1 => ⟨_, rfl, fun z => absurd z (by decide), fun _ => ?_⟩) (fun z => absurd z (by omega))
    have hh := H.2.2.1.1
    rw [G1 (h + 30 + p) (by omega), q2, q5, show α 9 p = (((α 9 p).toNat : Nat) : Int) by omega]
    rw [← q] at T1
    refine c_trialOpens w hk H1 T1 (by omega) (by omega) (bS_0 w) Y1 (by omega) ⟨by omega, by omega⟩ (fun τ2 H2 F2 G2 T2 Y2 => ⟨_, rfl, fun z => no (n + 1) τ2 H2 (F1.tr F2) Y2 (by omega) (fun y => by rw [z] at y; exact absurd y.2.2 (by decide)), fun z => ?_⟩)
    rw [if_pos ⟨by omega, q, z⟩] at k1
    rw [en]
    exact c_wouldL w hk x0 m (n + 1) (p + 1) _ τ2 (by omega) H2 Y2 (by omega) (fun τ3 H3 F3 => k1 τ3 H3 ((F1.tr F2).tr F3))
theorem c_would {a : Int} (w : WF k α) (hk : k ≤ 599) (H : RepC k h α τ) (ha : inR a) (k1 : ∀ τ', RepC (k + 1) h α τ' → FrC τ τ' → Q (some (vI (wouldR α a))) τ') : M0 E (d + 7) qX10_would [vR 2, vI a] τ Q := by
  have w1 := w.up (show k ≤ k + 1 by omega)
  have H1 := H.up (show k ≤ k + 1 by omega)
  unfold wouldR at k1
  refine mX10_would (c_doorAt w1 H1 ha (fun a0 a1 kd => ⟨_, rfl, fun _ => ?_, fun q => by omega⟩) (fun q => ⟨_, rfl, fun z => absurd rfl z, fun _ => ?_⟩))
  · rw [if_pos ⟨a0, a1⟩] at k1
    exact c_wouldL w1 (by omega) ⟨a0, a1⟩ 4 (4000 * k) 0 0 τ rfl H1 H.y.n (by omega) k1
  · rw [if_neg q] at k1
    exact k1 τ H1 FrC.rf
theorem or_zero {x : Int} (hx : inR x) : mm_or x 0 = x := by
  unfold mm_or
  rw [show Int32.ofInt 0 = (0 : Int32) from rfl, Int32.or_zero]
  exact Int32.toInt_ofInt_of_le (by have := hx.1; omega) (by have := hx.2; omega)
theorem or_R (a c : Int) : inR (mm_or a c) := zm_inR _
theorem m_wouldL {x : Int} (w : WF k α) (x0 : 0 ≤ x ∧ x < α 0 6) : ∀ (m p : Nat) (v : Int) (τ : mm_Mem), p + m = 4 → inR v → RepM b α τ → kpA α τ → (∀ τ', RepM b α τ' → FrM τ τ' → Q (some (vI (wdR α x m p v))) τ') → V0 E (d + 7) qX11_would 18 [some (vR 140), some (vI x), some (vI v), some (vI (p : Int))] [] τ Q
  | 0, p, v, τ, hp, hv, H, K, k1 => by
    have hw := w.le
    obtain ⟨b1, b2, b3⟩ := H.bk
    have s5 := H.hs.2.2.2.2.1
    exact bX11_would_18 ⟨by omega, by omega, ⟨by omega, by omega⟩, fun _ => k1 τ H FrM.rf, fun q => by rw [b3, s5] at q; omega⟩
  | m + 1, p, v, τ, hp, hv, H, K, k1 => by
    have hw := w.le
    obtain ⟨b1, b2, b3⟩ := H.bk
    have s5 := H.hs.2.2.2.2.1
    have en : ((p : Int) + 1) = ((p + 1 : Nat) : Int) := by omega
    refine bX11_would_18 ⟨by omega, by omega, ⟨by omega, by omega⟩, fun q => ?_, fun q => m_person4 H ⟨_, rfl, by omega, by omega, ⟨by omega, by omega⟩, ?_⟩⟩
    · rw [b3, s5] at q
      rw [wdR_end _ _ _ q] at k1
      exact k1 τ H FrM.rf
    · rw [b3, s5] at q
      have wp := w.2.2.2.1 p (by omega)
      obtain ⟨g1, g2, g3, g4⟩ := H.pers (p := (p : Int)) (by omega) (by omega)
      rw [Int.toNat_natCast] at g1
      rw [g1]
      rw [wdR] at k1
      refine ⟨fun z => ?_, fun z => ?_⟩
      · have H0 : RepM b (stE α p (α 12 p) (α 8 p).toNat (eS0 α (α 8 p).toNat)) τ := by rw [stE_0]; exact H
        refine m_isLetIn w H0 (by omega) (by omega) (bS_0 w) (fun τ1 H1 F1 => ⟨_, rfl, fun y => ?_, fun y => ?_⟩)
        all_goals
          have K1 : kpA α τ1 := ⟨fun p hp => by rw [F1 189 (by omega) (by omega) (by omega) (by omega) (by omega) (by omega)]; exact K.1 p hp, fun e he => by rw [F1 190 (by omega) (by omega) (by omega) (by omega) (by omega) (by omega), F1 191 (by omega) (by omega) (by omega) (by omega) (by omega) (by omega), F1 192 (by omega) (by omega) (by omega) (by omega) (by omega) (by omega)]; exact K.2 e he⟩
          refine m_back H1 (fun j j1 j2 j3 j4 => stE_o j1 (by omega)) K1 (fun τ2 F2 H2 K2 => ⟨rfl, ?_⟩)
          have FF : FrM τ τ2 := fun o ho => by rw [F2 o (by omega) (by omega) (by omega) (by omega), F1 o (by omega) (by omega) (by omega) (by omega) (by omega) (by omega)]
          rw [en]
        · rw [if_neg (fun u => by rw [y] at u; exact absurd u.2.2 (by decide))] at k1
          rw [or_zero hv]
          exact m_wouldL w x0 m (p + 1) v τ2 (by omega) hv H2 K2 (fun τ3 H3 F3 => k1 τ3 H3 (FF.tr F3))
        · rw [if_pos ⟨by omega, z, y⟩] at k1
          exact m_wouldL w x0 m (p + 1) _ τ2 (by omega) (or_R _ _) H2 K2 (fun τ3 H3 F3 => k1 τ3 H3 (FF.tr F3))
      · rw [if_neg (fun u => z u.2.1)] at k1
        rw [en]
        exact m_wouldL w x0 m (p + 1) v τ (by omega) hv H K k1
theorem m_would {a : Int} (w : WF k α) (H : RepM b α τ) (ha : inR a) (k1 : ∀ τ', RepM b α τ' → FrM τ τ' → Q (some (vI (wouldR α a))) τ') : M0 E (d + 7) qX11_would [vR 140, vI a] τ Q := by
  unfold wouldR at k1
  refine mX11_would (m_isDoor w H ha ⟨_, rfl, fun q => ?_, fun q => ?_⟩)
  · have q := of_decide_eq_true q
    rw [if_pos q] at k1
    exact m_keeps H (fun τ1 F1 H1 K1 => ⟨rfl, m_wouldL w q 4 0 0 τ1 rfl ⟨by decide, by decide⟩ H1 K1 (fun τ2 H2 F2 => k1 τ2 H2 (fun o ho => by rw [F2 o ho, F1 o (by omega)]))⟩)
  · rw [if_neg (of_decide_eq_false q)] at k1
    exact k1 τ H FrM.rf
/-- bears -/
def brR (α : mm_Mem) (dd t : Nat) (c : Int) : Nat → Int → Int → Int
  | 0, _, v => v
  | m + 1, x, v => if (oS α dd t (c + x) (eS0 α dd)).1 = true then brR α dd t c m (x + 1) x else v
def bearsR (α : mm_Mem) (p : Int) : Int := if 0 ≤ p ∧ p < α 0 7 then brR α (α 8 p.toNat).toNat (α 9 p.toNat).toNat (α 12 p.toNat) 61 0 (-1) else -1
theorem c_bearsL {p : Nat} (w : WF k α) (hk : k ≤ 600) (p1 : (p : Int) < α 0 7) : ∀ (m n : Nat) (x v : Int) (τ : mm_Mem), x + m = 61 → 0 ≤ x → RepC k h α τ → gYn n τ → n + m ≤ 4000 * k → (∀ τ', RepC k h α τ' → FrC τ τ' → Q (some (vI (brR α (α 8 p).toNat (α 9 p).toNat (α 12 p) m x v))) τ') → V0 E (d + 7) qX10_bears 17 [some (vR 2), none, some (vR (h + 30 + p)), some (vI v), some (vI x)] [] τ Q
  | 0, n, x, v, τ, hx, h1, H, Y, hn, k1 => bX10_bears_17 ⟨⟨by omega, by omega⟩, fun _ => k1 τ H FrC.rf, fun q => by omega⟩
  | m + 1, n, x, v, τ, hx, h1, H, Y, hn, k1 => by
    have hw := w.le
    have wp := w.2.2.2.1 p p1
    have hh := H.2.2.1.1
    have kp := kdPers (h := h) (p := p) hh (by omega)
    obtain ⟨q1, q2, q3, q4, q5, q6, q7⟩ := H.pers (a := (p : Int)) (by omega) p1
    rw [Int.toNat_natCast] at q1 q2 q5
    rw [brR] at k1
    refine bX10_bears_17 ⟨⟨by omega, by omega⟩, fun q => by omega, fun _ => ⟨kp, ?_⟩⟩
    rw [q1]
    refine c_tryAt w H ⟨by omega, by omega⟩ Y (by omega) (fun b0 b1 τ1 H1 F1 G1 T1 Y1 => ⟨_, rfl, fun z => absurd z (by decide), fun _ => ?_⟩) (fun z => absurd z (by omega))
    rw [G1 (h + 30 + p) (by omega), q2, q5, show α 9 p = (((α 9 p).toNat : Nat) : Int) by omega]
    refine c_trialOpens w hk H1 T1 (by omega) (by omega) (bS_0 w) Y1 (by omega) ⟨by omega, by omega⟩ (fun τ2 H2 F2 G2 T2 Y2 => ⟨_, rfl, fun z => ?_, fun z => ?_⟩)
    · rw [if_pos z] at k1
      exact c_bearsL w hk p1 m (n + 1) (x + 1) x τ2 (by omega) (by omega) H2 Y2 (by omega) (fun τ3 H3 F3 => k1 τ3 H3 ((F1.tr F2).tr F3))
    · rw [if_neg (by rw [z]; decide)] at k1
      exact k1 τ2 H2 (F1.tr F2)
theorem c_bears {a : Int} (w : WF k α) (hk : k ≤ 599) (H : RepC k h α τ) (ha : inR a) (k1 : ∀ τ', RepC (k + 1) h α τ' → FrC τ τ' → Q (some (vI (bearsR α a))) τ') : M0 E (d + 7) qX10_bears [vR 2, vI a] τ Q := by
  have w1 := w.up (show k ≤ k + 1 by omega)
  have H1 := H.up (show k ≤ k + 1 by omega)
  unfold bearsR at k1
  refine mX10_bears (c_personAt w1 H1 ha (fun a0 a1 kd => ⟨_, rfl, fun _ => ?_, fun q => by omega⟩) (fun q => ⟨_, rfl, fun z => absurd rfl z, fun _ => ?_⟩))
  · rw [if_pos ⟨a0, a1⟩] at k1
    exact c_bearsL w1 (by omega) (by omega) 61 (4000 * k) 0 (-1) τ (by omega) (by omega) H1 H.y.n (by omega) k1
  · rw [if_neg q] at k1
    exact k1 τ H1 FrC.rf
theorem m_bearsL {p : Nat} (w : WF k α) (p1 : (p : Int) < α 0 7) : ∀ (m : Nat) (x v : Int) (τ : mm_Mem), x + m = 61 → 0 ≤ x → RepM b α τ → kpA α τ → (∀ τ', RepM b α τ' → FrM τ τ' → Q (some (vI (brR α (α 8 p).toNat (α 9 p).toNat (α 12 p) m x v))) τ') → V0 E (d + 7) qX11_bears 18 [some (vR 140), some (vI (p : Int)), some (vI v), some (vI x), none] [] τ Q
  | 0, x, v, τ, hx, h1, H, K, k1 => bX11_bears_18 ⟨⟨by omega, by omega⟩, fun _ => k1 τ H FrM.rf, fun q => by omega⟩
  | m + 1, x, v, τ, hx, h1, H, K, k1 => by
    have hw := w.le
    have wp := w.2.2.2.1 p p1
    have cc := (H.cnt (p := (p : Int)) (by omega) (by omega)).1
    rw [Int.toNat_natCast] at cc
    rw [brR] at k1
    refine bX11_bears_18 ⟨⟨by omega, by omega⟩, fun q => by omega, fun _ => ⟨by omega, by omega, by omega, by omega, ?_⟩⟩
    rw [Int.toNat_natCast, cc]
    have H0 : RepM b (stE α p (α 12 p + x) (α 8 p).toNat (eS0 α (α 8 p).toNat)) (wr τ 179 p (α 12 p + x)) := by
      have := H.cnt1 (p := p) (v := α 12 p + x)
      have e : stE α p (α 12 p + x) (α 8 p).toNat (eS0 α (α 8 p).toNat) = wr α 12 p (α 12 p + x) := by
        unfold stE eS0
        have e2 : c15 α (α 8 p).toNat = c15 (wr α 12 p (α 12 p + x)) (α 8 p).toNat := by unfold c15; rw [wr_obj (by omega)]
        have e3 : c16 α (α 8 p).toNat = c16 (wr α 12 p (α 12 p + x)) (α 8 p).toNat := by unfold c16; rw [wr_obj (by omega)]
        have e4 : c17 α (α 8 p).toNat = c17 (wr α 12 p (α 12 p + x)) (α 8 p).toNat := by unfold c17; rw [wr_obj (by omega)]
        dsimp only
        rw [e2, e3, e4]
        exact setE_id
      rw [e]; exact this
    refine ⟨⟨by omega, by omega⟩, m_isLetIn w H0 p1 (by omega) (bS_0 w) (fun τ1 H1 F1 => ⟨_, rfl, ?_⟩)⟩
    have K1 : kpA α τ1 := ⟨fun p hp => by rw [F1 189 (by omega) (by omega) (by omega) (by omega) (by omega) (by omega), wr_obj (by omega)]; exact K.1 p hp, fun e he => by rw [F1 190 (by omega) (by omega) (by omega) (by omega) (by omega) (by omega), F1 191 (by omega) (by omega) (by omega) (by omega) (by omega) (by omega), F1 192 (by omega) (by omega) (by omega) (by omega) (by omega) (by omega), wr_obj (by omega), wr_obj (by omega), wr_obj (by omega)]; exact K.2 e he⟩
    refine m_back H1 (fun j j1 j2 j3 j4 => stE_o j1 (by omega)) K1 (fun τ2 F2 H2 K2 => ⟨rfl, fun z => ?_, fun z => ?_⟩)
    all_goals
      have FF : FrM τ τ2 := fun o ho => by rw [F2 o (by omega) (by omega) (by omega) (by omega), F1 o (by omega) (by omega) (by omega) (by omega) (by omega) (by omega), wr_obj (by omega)]
    · rw [if_pos z] at k1
      exact m_bearsL w p1 m (x + 1) x τ2 (by omega) (by omega) H2 K2 (fun τ3 H3 F3 => k1 τ3 H3 (FF.tr F3))
    · rw [if_neg (by rw [z]; decide)] at k1
      exact k1 τ2 H2 FF
theorem m_bears {a : Int} (w : WF k α) (H : RepM b α τ) (ha : inR a) (k1 : ∀ τ', RepM b α τ' → FrM τ τ' → Q (some (vI (bearsR α a))) τ') : M0 E (d + 7) qX11_bears [vR 140, vI a] τ Q := by
  unfold bearsR at k1
  refine mX11_bears (m_isPerson w H ha ⟨_, rfl, fun q => ?_, fun q => ?_⟩)
  · have q := of_decide_eq_true q
    rw [if_pos q] at k1
    refine m_keeps H (fun τ1 F1 H1 K1 => ⟨rfl, ?_⟩)
    have l := m_bearsL (E := E) (d := d) (b := b) (Q := Q) (p := a.toNat) w (by omega) 61 0 (-1) τ1 (by omega) (by omega) H1 K1 (fun τ2 H2 F2 => k1 τ2 H2 (fun o ho => by rw [F2 o ho, F1 o (by omega)]))
    rw [show ((a.toNat : Nat) : Int) = a by omega] at l
    exact l
  · rw [if_neg (of_decide_eq_false q)] at k1
    exact k1 τ H FrM.rf
/-- bird -/
def bdR (α : mm_Mem) (dd t : Nat) (c : Int) : Nat → mm_ES → Int → Int
  | 0, _, v => v
  | m + 1, S, v => bdR α dd t c m (oS α dd t c S).2 (if (oS α dd t c S).1 = true then v + 1 else v)
def birdR (α : mm_Mem) (x t n m : Int) : Int := if (0 ≤ x ∧ x < α 0 6) ∧ (0 ≤ t ∧ t < α 0 5) ∧ (0 ≤ n ∧ n < 1000) ∧ 1 ≤ m ∧ m ≤ 100 then bdR α x.toNat t.toNat n m.toNat (eS0 α x.toNat) 0 else -1
theorem c_birdL {dd t : Nat} {n a : Int} (w : WF k α) (hk : k ≤ 600) (d1 : (dd : Int) < α 0 6) (t1 : (t : Int) < α 0 5) (hn : inR n) (ha : a ≤ 100) : ∀ (m y i : Nat) (S : mm_ES) (v : Int) (τ : mm_Mem), (i : Int) + m = a → RepC k h α τ → tS α dd 91 S τ → bS S → gYn y τ → y + m ≤ 4000 * k → (∀ τ', RepC k h α τ' → FrC τ τ' → Q (some (vI (bdR α dd t n m S v))) τ') → V0 E (d + 7) qX10_bird 44 [some (vR 2), none, some (vI (t : Int)), some (vI n), some (vI a), some (vI v), some (vI (i : Int))] [] τ Q
  | 0, y, i, S, v, τ, hi, H, T, hS, Y, hy, k1 => bX10_bird_44 ⟨⟨by omega, by omega⟩, ⟨by omega, by omega⟩, fun _ => k1 τ H FrC.rf, fun q => by omega⟩
  | m + 1, y, i, S, v, τ, hi, H, T, hS, Y, hy, k1 => by
    have en : ((i : Int) + 1) = ((i + 1 : Nat) : Int) := by omega
    rw [bdR] at k1
    refine bX10_bird_44 ⟨⟨by omega, by omega⟩, ⟨by omega, by omega⟩, fun q => by omega, fun _ => c_trialOpens w hk H T d1 t1 hS Y (by omega) hn (fun τ1 H1 F1 G1 T1 Y1 => ⟨_, rfl, fun z => ?_, fun z => ?_⟩)⟩
    · rw [if_neg (by rw [z]; decide)] at k1
      rw [en]
      exact c_birdL w hk d1 t1 hn ha m (y + 1) (i + 1) _ v τ1 (by omega) H1 T1 (bS_o w d1 hS) Y1 (by omega) (fun τ2 H2 F2 => k1 τ2 H2 (F1.tr F2))
    · rw [if_pos z] at k1
      rw [en]
      exact c_birdL w hk d1 t1 hn ha m (y + 1) (i + 1) _ (v + 1) τ1 (by omega) H1 T1 (bS_o w d1 hS) Y1 (by omega) (fun τ2 H2 F2 => k1 τ2 H2 (F1.tr F2))
theorem c_bird {a0 a1 a2 a3 : Int} (w : WF k α) (hk : k ≤ 599) (H : RepC k h α τ) (h0 : inR a0) (h1 : inR a1) (h2 : inR a2) (h3 : inR a3) (k1 : ∀ τ', RepC (k + 1) h α τ' → FrC τ τ' → Q (some (vI (birdR α a0 a1 a2 a3))) τ') : M0 E (d + 7) qX10_bird [vR 2, vI a0, vI a1, vI a2, vI a3] τ Q := by
  have w1 := w.up (show k ≤ k + 1 by omega)
  have H1 := H.up (show k ≤ k + 1 by omega)
  unfold birdR at k1
  have no : ¬ ((0 ≤ a0 ∧ a0 < α 0 6) ∧ (0 ≤ a1 ∧ a1 < α 0 5) ∧ (0 ≤ a2 ∧ a2 < 1000) ∧ 1 ≤ a3 ∧ a3 ≤ 100) → Q (some (vI (-1))) τ := by
    intro z
    rw [if_neg z] at k1
    exact k1 τ H1 FrC.rf
  refine mX10_bird (c_isTune w1 H1 h1 ⟨_, rfl, fun q => no (fun z => of_decide_eq_false q z.2.1), fun q => c_isWhistle h2 ⟨_, rfl, fun q2 => no (fun z => of_decide_eq_false q2 z.2.2.1), fun q2 => ⟨h3, fun q3 => no (fun z => by have := z.2.2.2; omega), fun q3 => ⟨fun q4 => no (fun z => by have := z.2.2.2; omega), fun q4 => ?_⟩⟩⟩⟩)
  have q := of_decide_eq_true q
  have q2 := of_decide_eq_true q2
  refine c_tryAt w1 H1 h0 H.y.n (by omega) (fun b0 b1 τ1 H2 F1 G1 T1 Y1 => ⟨_, rfl, fun _ => ?_, fun z => absurd z (by decide)⟩) (fun z => ⟨_, rfl, fun y => absurd y (by decide), fun _ => no (fun y => z y.1)⟩)
  rw [if_pos ⟨⟨b0, b1⟩, q, q2, by omega, by omega⟩] at k1
  have l := c_birdL (E := E) (d := d) (h := h) (Q := Q) (dd := a0.toNat) (t := a1.toNat) (n := a2) (a := a3) w1 (by omega) (by omega) (by omega) h2 (by omega) a3.toNat (4000 * k) 0 (eS0 α a0.toNat) 0 τ1 (by omega) H2 T1 (bS_0 w) Y1 (by omega) (fun τ2 H3 F2 => k1 τ2 H3 (F1.tr F2))
  rw [show ((a1.toNat : Nat) : Int) = a1 by omega] at l
  exact l
theorem m_birdL {dd t : Nat} {n a : Int} (w : WF k α) (d1 : (dd : Int) < α 0 6) (t1 : (t : Int) < α 0 5) (hn : 0 ≤ n ∧ n < 1000) (ha : a ≤ 100) : ∀ (m i : Nat) (S : mm_ES) (v : Int) (τ : mm_Mem), (i : Int) + m = a → RepM b (setE α dd S.1 S.2.1 S.2.2) τ → bS S → kpA α τ → (∀ τ', RepM b α τ' → FrM τ τ' → Q (some (vI (bdR α dd t n m S v))) τ') → V0 E (d + 7) qX11_bird 46 [some (vR 140), some (vI (dd : Int)), some (vI (t : Int)), some (vI n), some (vI a), some (vI v), some (vI (i : Int))] [] τ Q
  | 0, i, S, v, τ, hi, H, hS, K, k1 => bX11_bird_46 ⟨⟨by omega, by omega⟩, ⟨by omega, by omega⟩, fun _ => m_back H (fun j j1 j2 j3 j4 => setE_o (by omega)) K (fun τ1 F1 H1 _ => ⟨rfl, k1 τ1 H1 (fun o ho => F1 o (by omega) (by omega) (by omega) (by omega))⟩), fun q => by omega⟩
  | m + 1, i, S, v, τ, hi, H, hS, K, k1 => by
    have en : ((i : Int) + 1) = ((i + 1 : Nat) : Int) := by omega
    have w1 : WF k (setE α dd S.1 S.2.1 S.2.2) := w.setE hS
    have fv := fv_wp w (t := t) (n := n.toNat) t1 (by omega)
    have ewp : wpA (setE α dd S.1 S.2.1 S.2.2) t n.toNat = wpA α t n.toNat := by
      funext i; unfold wpA wnA; rw [setE_o (by omega), setE_o (by omega)]
    have eo : oS α dd t n S = (decide (hrS α dd (wpA α t n.toNat) S ≠ -1), hsS α dd (wpA α t n.toNat) S) := by unfold oS; rw [if_pos hn]
    rw [bdR, eo] at k1
    refine bX11_bird_46 ⟨⟨by omega, by omega⟩, ⟨by omega, by omega⟩, fun q => by omega, fun _ => m_whistles w1 H (by omega) (by rw [setE_o (by omega)]; exact t1) hn.1 hn.2 (fun τ1 F1 G1 M1 H1 => ⟨rfl, ?_⟩)⟩
    rw [Int.toNat_natCast, ewp] at M1
    refine m_hears w fv d1 hS H1 (mH_c2 (by rw [setE_o (by omega)]) (by rw [setE_o (by omega)]) rfl rfl M1) (fun τ2 F2 H2 => ?_)
    have rr := hrS_r (α := α) (dd := dd) (f := wpA α t n.toNat) (S := S)
    have er : hrD α dd (wpA α t n.toNat) S.1 S.2.1 S.2.2 = hrS α dd (wpA α t n.toNat) S := rfl
    rw [er]
    have K2 : kpA α τ2 := ⟨fun p hp => by rw [F2 189 (by omega) (by omega) (by omega), F1 189 (by omega) (by omega)]; exact K.1 p hp, fun e he => by rw [F2 190 (by omega) (by omega) (by omega), F2 191 (by omega) (by omega) (by omega), F2 192 (by omega) (by omega) (by omega), F1 190 (by omega) (by omega), F1 191 (by omega) (by omega), F1 192 (by omega) (by omega)]; exact K.2 e he⟩
    have FF : FrM τ τ2 := fun o ho => by rw [F2 o (by omega) (by omega) (by omega), F1 o (by omega) (by omega)]
    refine ⟨_, rfl, ⟨by omega, by omega⟩, fun z => ?_, fun z => ?_⟩
    · rw [if_neg (by rw [decide_eq_false (by simp [z])]; exact Bool.false_ne_true)] at k1
      rw [en, Int.add_zero]
      exact m_birdL w d1 t1 hn ha m (i + 1) (hsS α dd (wpA α t n.toNat) S) v τ2 (by omega) H2 (bS_hs w d1 hS) K2 (fun τ3 H3 F3 => k1 τ3 H3 (FF.tr F3))
    · rw [if_pos (decide_eq_true z)] at k1
      rw [en]
      exact m_birdL w d1 t1 hn ha m (i + 1) (hsS α dd (wpA α t n.toNat) S) (v + 1) τ2 (by omega) H2 (bS_hs w d1 hS) K2 (fun τ3 H3 F3 => k1 τ3 H3 (FF.tr F3))
theorem m_bird {a0 a1 a2 a3 : Int} (w : WF k α) (H : RepM b α τ) (h0 : inR a0) (h1 : inR a1) (h2 : inR a2) (h3 : inR a3) (k1 : ∀ τ', RepM b α τ' → FrM τ τ' → Q (some (vI (birdR α a0 a1 a2 a3))) τ') : M0 E (d + 7) qX11_bird [vR 140, vI a0, vI a1, vI a2, vI a3] τ Q := by
  unfold birdR at k1
  have no : ¬ ((0 ≤ a0 ∧ a0 < α 0 6) ∧ (0 ≤ a1 ∧ a1 < α 0 5) ∧ (0 ≤ a2 ∧ a2 < 1000) ∧ 1 ≤ a3 ∧ a3 ≤ 100) → Q (some (vI (-1))) τ := by
    intro z
    rw [if_neg z] at k1
    exact k1 τ H FrM.rf
  refine mX11_bird (m_isDoor w H h0 ⟨_, rfl, fun q => no (fun z => of_decide_eq_false q z.1), fun q => m_isTune w H h1 ⟨_, rfl, fun q2 => no (fun z => of_decide_eq_false q2 z.2.1), fun q2 => m_isWhistle h2 ⟨_, rfl, fun q3 => no (fun z => of_decide_eq_false q3 z.2.2.1), fun q3 => m_is h3 ⟨by decide, by decide⟩ ⟨by decide, by decide⟩ ⟨_, rfl, fun q4 => ?_, fun q4 => no (fun z => of_decide_eq_false q4 z.2.2.2)⟩⟩⟩⟩)
  have q := of_decide_eq_true q
  have q2 := of_decide_eq_true q2
  have q3 := of_decide_eq_true q3
  have q4 := of_decide_eq_true q4
  rw [if_pos ⟨q, q2, q3, q4⟩] at k1
  refine m_keeps H (fun τ1 F1 H1 K1 => ⟨rfl, ?_⟩)
  have e0 : setE α a0.toNat (eS0 α a0.toNat).1 (eS0 α a0.toNat).2.1 (eS0 α a0.toNat).2.2 = α := setE_id
  have l := m_birdL (E := E) (d := d) (b := b) (Q := Q) (dd := a0.toNat) (t := a1.toNat) (n := a2) (a := a3) w (by omega) (by omega) q3 (by omega) a3.toNat 0 (eS0 α a0.toNat) 0 τ1 (by omega) (by rw [e0]; exact H1) (bS_0 w) K1 (fun τ2 H3 F2 => k1 τ2 H3 (fun o ho => by rw [F2 o ho, F1 o (by omega)]))
  rw [show ((a1.toNat : Nat) : Int) = a1 by omega, show ((a0.toNat : Nat) : Int) = a0 by omega] at l
  exact l
end Tries
