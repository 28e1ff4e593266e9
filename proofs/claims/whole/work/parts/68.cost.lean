/-! cost -/
def kA (α : mm_Mem) (dd : Nat) (one : Int) : mm_Mem := wr (wr (wr α 5 dd 1) 6 dd one) 7 dd 0
theorem kA_ok {α : mm_Mem} {dd : Nat} {one : Int} : okK α (kA α dd one) := fun j hj => by unfold kA; rw [wr_obj (by omega), wr_obj (by omega), wr_obj (by omega)]
theorem kA_at {α : mm_Mem} {dd : Nat} {one : Int} : kA α dd one 5 dd = 1 ∧ kA α dd one 6 dd = one ∧ kA α dd one 7 dd = 0 := by
  unfold kA
  exact ⟨by rw [wr_obj (by omega), wr_obj (by omega), wr_same], by rw [wr_obj (by omega), wr_same], by rw [wr_same]⟩
theorem kA_ne {α : mm_Mem} {dd x j : Nat} {one : Int} (h : x ≠ dd) : kA α dd one j x = α j x := by
  unfold kA
  have e : ∀ (m : mm_Mem) (o : Nat) (v : Int), wr m o dd v j x = m j x := fun m o v => by
    by_cases q : j = o
    · subst q; rw [wr_row h]
    · rw [wr_obj q]
  rw [e, e, e]
theorem WF.kA {k dd : Nat} {α : mm_Mem} {one : Int} (w : WF k α) (h1 : 0 ≤ one ∧ one ≤ 40) : WF k (kA α dd one) := by
  have r := kA_ok (α := α) (dd := dd) (one := one)
  obtain ⟨h1', h2, h3, h4, h5, h6, h7, h8, h9⟩ := w
  refine ⟨?_, ?_, fun x hx => ?_, ?_, ?_, ?_, ?_, ?_, ?_⟩
  · rw [r 0 (by omega), r 1 (by omega)]; exact h1'
  · unfold wfH; rw [r 0 (by omega)]; exact h2
  · rw [r 0 (by omega)] at hx
    have := h3 x hx
    by_cases e : x = dd
    · subst e
      rw [kA_at.1, kA_at.2.1, kA_at.2.2]; omega
    · rw [kA_ne e, kA_ne e, kA_ne e]; exact this
  · unfold wfP; rw [r 0 (by omega), r 8 (by omega), r 9 (by omega), r 10 (by omega), r 11 (by omega), r 12 (by omega)]; exact h4
  · unfold wfE; rw [r 15 (by omega), r 16 (by omega), r 17 (by omega)]; exact h5
  · unfold wfC; rw [r 13 (by omega), r 14 (by omega), r 18 (by omega), r 19 (by omega), r 20 (by omega), r 24 (by omega)]; exact h6
  · unfold wfW alA wnA; rw [r 0 (by omega), r 21 (by omega), r 22 (by omega), r 23 (by omega)]; exact h7
  · rw [r 0 (by omega)]; exact h8
  · rw [r 0 (by omega), r 25 (by omega)]; exact h9
theorem wkV_r {α : mm_Mem} {dd t : Nat} {L : Int} {miss : Bool} (hL : 0 ≤ L ∧ L ≤ 100) : ∀ (n : Nat) (c wt : Int) (o : Bool) (S : mm_ES), 0 ≤ wt → 0 ≤ wkV α dd t L miss n c wt o S ∧ wkV α dd t L miss n c wt o S ≤ wt
  | 0, c, wt, o, S, hw => by rw [wkV]; split <;> omega
  | n + 1, c, wt, o, S, hw => by
    have br : ∀ x : Int, 0 ≤ wkN α dd t L miss (wkV α dd t L miss n) c wt o S x ∧ (100 * wkN α dd t L miss (wkV α dd t L miss n) c wt o S x ≤ wt * prA L x ∨ wkN α dd t L miss (wkV α dd t L miss n) c wt o S x = 0) := by
      intro x
      unfold wkN
      by_cases z : wt * prA L x / 100 ≤ 0
      · rw [if_pos z]; omega
      · rw [if_neg z]
        have : 0 ≤ wkV α dd t L miss n (min (c + x + 1) 1000) (wt * prA L x / 100) (!(oS α dd t (c + x) S).1 || (miss && o)) (oS α dd t (c + x) S).2 ∧ wkV α dd t L miss n (min (c + x + 1) 1000) (wt * prA L x / 100) (!(oS α dd t (c + x) S).1 || (miss && o)) (oS α dd t (c + x) S).2 ≤ wt * prA L x / 100 := wkV_r hL n _ _ _ _ (by omega)
        omega
    have b0 := br 0
    have b1 := br 1
    have e0 : prA L 0 = 100 - L := rfl
    have e1 : prA L 1 = L := rfl
    rw [e0] at b0
    rw [e1] at b1
    have m0 : wt * (100 - L) = 100 * wt - wt * L := by rw [Int.mul_sub, Int.mul_comm wt 100]
    have p1 : 0 ≤ wt * L := Int.mul_nonneg hw hL.1
    have p2 : wt * L ≤ wt * 100 := Int.mul_le_mul_of_nonneg_left hL.2 hw
    rw [wkV]
    omega
def costV (α : mm_Mem) (p n : Nat) (one : Int) : Int := (α 0 11 * (1000000000 - wkV (kA α (α 8 p).toNat one) (α 8 p).toNat (α 9 p).toNat (α 10 p) false n (α 12 p) 1000000000 false (eS0 α (α 8 p).toNat)) + α 0 12 * chcR (kA α (α 8 p).toNat one) (α 8 p).toNat 1) / 1000000000
def cbR (α : mm_Mem) (p n : Nat) : Nat → Int → Int → Int → Int
  | 0, _, best, _ => best
  | m + 1, a, best, least => if costV α p n a < least then cbR α p n m (a + 1) a (costV α p n a) else cbR α p n m (a + 1) best least
def costR (α : mm_Mem) (p n x y : Int) : Int := if ((0 ≤ p ∧ p < α 0 7) ∧ 1 ≤ n ∧ n ≤ 6) ∧ ((y = 0 ∧ 0 ≤ x ∧ x ≤ 20) ∨ y = 1) then (if y = 0 then costV α p.toNat n.toNat x else cbR α p.toNat n.toNat 20 1 0 (costV α p.toNat n.toNat 0)) else -1
section Cost
variable {E : mm_Env} {d k h b : Nat} {α τ : mm_Mem} {Q : mm_Q0}
theorem chcR_r {dd n : Nat} (hL : 2 ≤ α 0 3 ∧ α 0 3 ≤ 6 ∧ 2 ≤ α 0 4 ∧ α 0 4 ≤ 5) : 0 ≤ chcR α dd n ∧ chcR α dd n ≤ 1000000000 := by
  have ar := all_r hL
  have ol := cntP_le (opP α dd) (allA α)
  have := chA_range (all := (allA α : Nat)) (m := (openN α dd : Nat)) (by unfold openN; omega) (by omega) n 1000000000 (by omega)
  unfold chcR; omega
theorem cost_b {A B x y : Int} (hA : 0 ≤ A ∧ A ≤ 9999) (hB : 0 ≤ B ∧ B ≤ 9999) (hx : 0 ≤ x ∧ x ≤ 1000000000) (hy : 0 ≤ y ∧ y ≤ 1000000000) : 0 ≤ A * x + B * y ∧ A * x + B * y ≤ 19998000000000 := by
  have a1 : 0 ≤ A * x := Int.mul_nonneg hA.1 hx.1
  have a2 : 0 ≤ B * y := Int.mul_nonneg hB.1 hy.1
  have a3 : A * x ≤ A * 1000000000 := Int.mul_le_mul_of_nonneg_left hx.2 hA.1
  have a4 : B * y ≤ B * 1000000000 := Int.mul_le_mul_of_nonneg_left hy.2 hB.1
  omega
theorem costV_r {p n : Nat} {one : Int} (w : WF k α) (p1 : (p : Int) < α 0 7) (h1 : 0 ≤ one ∧ one ≤ 40) : 0 ≤ costV α p n one ∧ costV α p n one ≤ 19998 := by
  have wp := w.2.2.2.1 p p1
  have w' := w.kA (dd := (α 8 p).toNat) h1
  have hh := w.2.1
  unfold wfH at hh
  have r := wkV_r (α := kA α (α 8 p).toNat one) (dd := (α 8 p).toNat) (t := (α 9 p).toNat) (miss := false) (L := α 10 p) (by omega) n (α 12 p) 1000000000 false (eS0 α (α 8 p).toNat) (by omega)
  have ch := chcR_r (α := kA α (α 8 p).toNat one) (dd := (α 8 p).toNat) (n := 1) (w'.door_ (dd := (α 8 p).toNat) (by rw [kA_ok 0 (by omega)]; omega))
  have cb := cost_b (A := α 0 11) (B := α 0 12) (by omega) (by omega) (x := 1000000000 - wkV (kA α (α 8 p).toNat one) (α 8 p).toNat (α 9 p).toNat (α 10 p) false n (α 12 p) 1000000000 false (eS0 α (α 8 p).toNat)) (by omega) ch
  unfold costV
  omega
theorem eS0_k {dd x : Nat} {one : Int} : eS0 (kA α dd one) x = eS0 α x := by
  unfold eS0 c15 c16 c17
  rw [kA_ok 15 (by omega), kA_ok 16 (by omega), kA_ok 17 (by omega)]
theorem c_tryAt2 {a : Int} {n : Nat} (w : WF k α) (H : RepC k h α τ) (ha : inR a) (Y : gYn n τ) (hn : n ≤ 4000 * k) (k1 : 0 ≤ a → a < α 0 6 → ∀ τ', RepC k h α τ' → (∀ x, (x < 91 ∨ 95 ≤ x) → τ' x = τ x) → tS α a.toNat 91 (eS0 α a.toNat) τ' → gYn n τ' → Q (some (vB true)) τ') (k2 : ¬ (0 ≤ a ∧ a < α 0 6) → Q (some (vB false)) τ) : M0 E (d + 1) qX10_tryAt [vR 2, vI a] τ Q := by
  have hw := w.le
  have hh := H.2.2.1.1
  refine mX10_tryAt (c_doorAt w H ha (fun a0 a1 kd => ⟨_, rfl, fun _ => ?_, fun q => by omega⟩) (fun q => ⟨_, rfl, fun z => absurd rfl z, fun _ => k2 q⟩))
  have T : tS α a.toNat (h + 14 + 4 * a.toNat) (eS0 α a.toNat) τ := H.ds w (by omega)
  exact c_tryCopy w H T rfl Y hn (by omega) (by omega) (fun τ' H' F' T' Y' => ⟨rfl, k1 a0 a1 τ' H' (fun x hx => F' x (by omega) (by omega) (by omega) (by omega)) T' Y'⟩)
theorem c_costOf {p n y : Nat} {one : Int} (w : WF k α) (hk : k ≤ 600) (H : RepC k h α τ) (p1 : (p : Int) < α 0 7) (hn : 1 ≤ n ∧ n ≤ 6) (h1 : 0 ≤ one ∧ one ≤ 20) (Y : gYn y τ) (hy : y + 126 ≤ 4000 * k) (hs : τ 133 2 + 1 ≤ 1000 + 50 * (k : Int)) (k1 : ∀ τ', RepC k h α τ' → FrC τ τ' → gYn (y + 126) τ' → τ' 133 2 ≤ τ 133 2 + 1 → Q (some (vL (costV α p n one))) τ') : M0 E (d + 14) qX10_costOf [vR 2, vR (h + 30 + p), vI (n : Int), vI one] τ Q := by
  have hw := w.le
  have hh := H.2.2.1.1
  have wp := w.2.2.2.1 p p1
  have kp := kdPers (h := h) (p := p) hh (by omega)
  have w' := w.kA (dd := (α 8 p).toNat) (one := one) (by omega)
  have r := kA_ok (α := α) (dd := (α 8 p).toNat) (one := one)
  have wh := w.2.1
  unfold wfH at wh
  obtain ⟨q1, q2, q3, q4, q5, q6, q7⟩ := H.pers (a := (p : Int)) (by omega) p1
  rw [Int.toNat_natCast] at q1
  refine mX10_costOf kp ?_
  rw [q1]
  refine c_tryAt2 w H ⟨by omega, by omega⟩ Y (by omega) (fun b0 b1 τ1 H1 F1 T1 Y1 => ⟨_, rfl, fun _ => ⟨⟨by omega, by omega⟩, ?_⟩, fun z => absurd z (by decide)⟩) (fun z => absurd z (by omega))
  have Fx : ∀ x, x ≠ 91 → wr (wr (wr τ1 91 1 1) 91 2 one) 91 3 0 x = τ1 x := fun x hx => by rw [wr_obj hx, wr_obj hx, wr_obj hx]
  have T2 : tS (kA α (α 8 p).toNat one) (α 8 p).toNat 91 (eS0 α (α 8 p).toNat) (wr (wr (wr τ1 91 1 1) 91 2 one) 91 3 0) := by
    obtain ⟨⟨kd, t1, t2, t3, t4⟩, t5⟩ := T1
    unfold tS
    rw [r.ear, kA_at.1, kA_at.2.1, kA_at.2.2]
    refine ⟨⟨kd, by rw [wr_row (by omega), wr_row (by omega), wr_same], by rw [wr_row (by omega), wr_same], by rw [wr_same], by rw [wr_row (by omega), wr_row (by omega), wr_row (by omega)]; exact t4⟩, fun t ht => ?_⟩
    rw [Fx (91 + 1) (by omega), Fx (91 + 2) (by omega), Fx (91 + 3) (by omega)]
    exact t5 t ht
  have Y2 : gYn y (wr (wr (wr τ1 91 1 1) 91 2 one) 91 3 0) := by
    intro o o1 o2
    by_cases e : o = 91
    · subst e; rw [wr_row (by omega), wr_row (by omega), wr_row (by omega), wr_row (by omega), wr_row (by omega), wr_row (by omega)]; exact Y1 91 o1 o2
    · rw [Fx o e]; exact Y1 o o1 o2
  have H2 : RepC k h α (wr (wr (wr τ1 91 1 1) 91 2 one) 91 3 0) := by
    refine H1.frame hw.2.1 hw.2.2.1 hw.1 (fun x j hr => ?_) (Nat.le_refl _) (Y2.k (by omega))
    rw [Fx x (by intro e; subst e; exact absurd hr (by simp [relC]))]
  have hc : hcN n ≤ 126 := by
    match n, hn with
    | 1, _ => decide
    | 2, _ => decide
    | 3, _ => decide
    | 4, _ => decide
    | 5, _ => decide
    | 6, _ => decide
  have l := c_weigh (E := E) (d := d + 6 - n) (h := h) (p := p) (a := 91) (n := n) (y := y) (miss := false) (α := α) (α' := kA α (α 8 p).toNat one) (Q := fun v τ5 => ∃ r6 : Int, v = some (vL r6) ∧ M0 E (d + 13) qX7_countOpening [vR 133, vR 91] τ5 (fun v τ7 => ∃ r8 : Int, v = some (vI r8) ∧ M0 E (d + 13) qX10_strangersChance [vR 2, vI r8, vI 1] τ7 (fun v τ9 => ∃ r10 : Int, v = some (vL r10) ∧ ∃ o11 : Nat, (τ9 2 2) = (o11 : Int) ∧ KD o11 = some (.inr 2) ∧ ∃ o15 : Nat, (τ9 2 2) = (o15 : Int) ∧ KD o15 = some (.inr 2) ∧ inL (((τ9 o11 5) * (1000000000 - r6)) + ((τ9 o15 6) * r10)) ∧ Q (some (vL (Int.tdiv (((τ9 o11 5) * (1000000000 - r6)) + ((τ9 o15 6) * r10)) 1000000000))) τ9))) w w' r hk p1 (by omega) H2 T2 (by omega) Y2 (by omega) (fun τ3 H3 F3 Y3 => ⟨_, rfl, ?_⟩)
  · rw [show d + 6 - n + 7 + n = d + 13 by omega] at l
    exact l
  · have T3 : tS (kA α (α 8 p).toNat one) (α 8 p).toNat 91 (eS0 (kA α (α 8 p).toNat one) (α 8 p).toNat) τ3 := by
      rw [eS0_k]
      exact tS_fr T2 (F3 _ (by omega)) (F3 _ (by omega)) (F3 _ (by omega)) (F3 _ (by omega))
    have d1 : (((α 8 p).toNat : Nat) : Int) < kA α (α 8 p).toNat one 0 6 := by rw [r 0 (by omega)]; omega
    have G3 : gW (kA α (α 8 p).toNat one) τ3 := r.gw w H3.gw
    obtain ⟨mk1, mk2⟩ := H3.mk (by omega)
    have s3 : τ3 133 2 = τ 133 2 := by rw [F3 133 (by omega), Fx 133 (by omega), F1 133 (by omega)]
    refine c_countOpening w' G3 T3 d1 mk1 (fun τ4 F4 e1 e2 M4 => ⟨_, rfl, ?_⟩)
    have H4 : RepC k h α τ4 := RepC.tset w H3 (Nat.le_refl _) (fun x x1 x2 _ => F4 x x1 x2) (by have := mk1.1; omega) (by omega) M4
    have Y4 : gYn (y + 126) τ4 := fun o o1 o2 => by
      have := kdD_133 o o2
      rw [F4 o (by omega) (by omega)]
      exact (Y3.up (by omega)) o o1 o2
    have hL := w'.door_ d1
    refine c_strangersChance (n := 1) hL (r.gw w H4.gw) (by omega) ⟨_, rfl, h, H4.live.1, H4.live.2, h, H4.live.1, H4.live.2, ?_⟩
    obtain ⟨-, -, -, -, -, s6, s7⟩ := H4.hs
    rw [s6, s7]
    have rw_ := wkV_r (α := kA α (α 8 p).toNat one) (dd := (α 8 p).toNat) (t := (α 9 p).toNat) (miss := false) (L := α 10 p) (by omega) n (α 12 p) 1000000000 false (eS0 α (α 8 p).toNat) (by omega)
    have ch := chcR_r (α := kA α (α 8 p).toNat one) (dd := (α 8 p).toNat) (n := 1) hL
    have cb := cost_b (A := α 0 11) (B := α 0 12) (by omega) (by omega) (x := 1000000000 - wkV (kA α (α 8 p).toNat one) (α 8 p).toNat (α 9 p).toNat (α 10 p) false n (α 12 p) 1000000000 false (eS0 α (α 8 p).toNat)) (by omega) ch
    refine ⟨⟨by omega, by omega⟩, ?_⟩
    rw [Int.tdiv_eq_ediv_of_nonneg cb.1]
    exact k1 τ4 H4 (fun o ho => by rw [F4 o (by omega) (by omega), F3 o (by omega), Fx o (by omega), F1 o (by omega)]) Y4 (by omega)
theorem c_cost81 {p n : Nat} (w : WF k α) (hk : k ≤ 600) (p1 : (p : Int) < α 0 7) (hn : 1 ≤ n ∧ n ≤ 6) : ∀ (m y : Nat) (a best least : Int) (τ : mm_Mem), a + m = 21 → 1 ≤ a → RepC k h α τ → gYn y τ → y + 126 * m ≤ 4000 * k → τ 133 2 + m ≤ 1000 + 50 * (k : Int) → 0 ≤ least ∧ least ≤ 19998 → (∀ τ', RepC k h α τ' → FrC τ τ' → Q (some (vI (cbR α p n m a best least))) τ') → V0 E (d + 15) qX10_cost 81 [some (vR 2), none, some (vI (n : Int)), none, none, some (vR (h + 30 + p)), some (vI best), some (vL least), none, some (vI a), none, none] [] τ Q
  | 0, y, a, best, least, τ, ha, h1, H, Y, hy, hs, hl, k1 => bX10_cost_81 ⟨⟨by omega, by omega⟩, fun _ => k1 τ H FrC.rf, fun q => by omega⟩
  | m + 1, y, a, best, least, τ, ha, h1, H, Y, hy, hs, hl, k1 => by
    have cr := costV_r (n := n) (one := a) w p1 (by omega)
    refine bX10_cost_81 ⟨⟨by omega, by omega⟩, fun q => by omega, fun _ => c_costOf w hk H p1 hn (by omega) Y (by omega) (by omega) (fun τ1 H1 F1 Y1 s1 => ⟨_, rfl, ⟨by omega, by omega⟩, ⟨by omega, by omega⟩, fun q => ?_, fun q => ?_⟩)⟩
    · rw [cbR, if_neg (by omega)] at k1
      exact c_cost81 w hk p1 hn m (y + 126) (a + 1) best least τ1 (by omega) (by omega) H1 Y1 (by omega) (by omega) hl (fun τ2 H2 F2 => k1 τ2 H2 (F1.tr F2))
    · rw [cbR, if_pos (by omega)] at k1
      exact c_cost81 w hk p1 hn m (y + 126) (a + 1) a _ τ1 (by omega) (by omega) H1 Y1 (by omega) (by omega) cr (fun τ2 H2 F2 => k1 τ2 H2 (F1.tr F2))
theorem c_cost {a0 a1 a2 a3 : Int} (w : WF k α) (hk : k ≤ 599) (H : RepC k h α τ) (h0 : inR a0) (h1 : inR a1) (h2 : inR a2) (h3 : inR a3) (k1 : ∀ τ', RepC (k + 1) h α τ' → FrC τ τ' → Q (some (vI (costR α a0 a1 a2 a3))) τ') : M0 E (d + 15) qX10_cost [vR 2, vI a0, vI a1, vI a2, vI a3] τ Q := by
  have hw := w.le
  have w1 := w.up (show k ≤ k + 1 by omega)
  have H1 := H.up (show k ≤ k + 1 by omega)
  have mk2 := (H.mk (by omega)).2
  unfold costR at k1
  have no : ¬ (((0 ≤ a0 ∧ a0 < α 0 7) ∧ 1 ≤ a1 ∧ a1 ≤ 6) ∧ ((a3 = 0 ∧ 0 ≤ a2 ∧ a2 ≤ 20) ∨ a3 = 1)) → Q (some (vI (-1))) τ := fun z => by
    rw [if_neg z] at k1; exact k1 τ H1 FrC.rf
  refine mX10_cost (c_personAt w1 H1 h0 (fun b0 b1 kd => ⟨_, rfl, fun q => by omega, fun _ => ⟨h1, fun q => no (fun z => by have := z.1.2; omega), fun q => ⟨fun q2 => no (fun z => by have := z.1.2; omega), fun q2 => ⟨h3, fun q3 => no (fun z => by have := z.2; omega), fun q3 => ⟨fun q4 => ⟨fun q5 => ?_, fun q5 => ⟨h2, fun q6 => no (fun z => by have := z.2; omega), fun q6 => ⟨fun q7 => ?_, fun q7 => no (fun z => by have := z.2; omega)⟩⟩⟩, fun q4 => no (fun z => by have := z.2; omega)⟩⟩⟩⟩⟩) (fun q => ⟨_, rfl, fun _ => no (fun z => q z.1.1), fun z => absurd rfl z⟩))
  · rw [if_pos ⟨⟨⟨b0, b1⟩, by omega, by omega⟩, Or.inr (by omega)⟩, if_neg q5] at k1
    have cr := costV_r (n := a1.toNat) (one := 0) w1 (p := a0.toNat) (by omega) (by omega)
    have l := c_costOf (E := E) (d := d) (h := h) (p := a0.toNat) (n := a1.toNat) (y := 4000 * k) (one := 0) (Q := fun v τ5 => ∃ r6 : Int, v = some (vL r6) ∧ V0 E (d + 15) qX10_cost 81 [some (vR 2), none, some (vI a1), none, none, some (vR (h + 30 + a0.toNat)), some (vI 0), some (vL r6), none, some (vI 1), none, none] [] τ5 Q) w1 (by omega) H1 (by omega) (by omega) (by omega) H.y.n (by omega) (by omega) (fun τ1 H2 F1 Y1 s1 => ⟨_, rfl, ?_⟩)
    · rw [show ((a1.toNat : Nat) : Int) = a1 by omega] at l
      exact l
    · have l2 := c_cost81 (E := E) (d := d) (h := h) (Q := Q) (p := a0.toNat) (n := a1.toNat) w1 (by omega) (by omega) (by omega) 20 (4000 * k + 126) 1 0 (costV α a0.toNat a1.toNat 0) τ1 (by omega) (by omega) H2 Y1 (by omega) (by omega) cr (fun τ2 H3 F2 => k1 τ2 H3 (F1.tr F2))
      rw [show ((a1.toNat : Nat) : Int) = a1 by omega] at l2
      exact l2
  · rw [if_pos ⟨⟨⟨b0, b1⟩, by omega, by omega⟩, Or.inl ⟨q5, by omega, by omega⟩⟩, if_pos q5] at k1
    have cr := costV_r (n := a1.toNat) (one := a2) w1 (p := a0.toNat) (by omega) (by omega)
    have l := c_costOf (E := E) (d := d) (h := h) (p := a0.toNat) (n := a1.toNat) (y := 4000 * k) (one := a2) (Q := fun v τ8 => ∃ r9 : Int, v = some (vL r9) ∧ inL r9 ∧ Q (some (vI r9)) τ8) w1 (by omega) H1 (by omega) (by omega) (by omega) H.y.n (by omega) (by omega) (fun τ1 H2 F1 Y1 s1 => ⟨_, rfl, ⟨by omega, by omega⟩, k1 τ1 H2 F1⟩)
    rw [show ((a1.toNat : Nat) : Int) = a1 by omega] at l
    exact l
/-- the kind of a door new: the reference -/
theorem RepM.knd {α' τ' : mm_Mem} (H : RepM b α τ) (r : okK α α') (e : ∀ o j, relM o j = true → ¬ (154 ≤ o ∧ o ≤ 156) → τ' o j = τ o j) (D : sD b α' τ') : RepM b α' τ' := by
  obtain ⟨h1, h2, h3, h4, h5, h6, h7, h8, h9, h10, h11, h12⟩ := H
  have e' : ∀ o, (∀ j, relM o j = true) → ¬ (154 ≤ o ∧ o ≤ 156) → τ' o = τ o := fun o hr ho => funext (fun j => e o j (hr j) ho)
  refine ⟨⟨h1.1, ?_⟩, ?_, ?_, ?_, ?_, D, ?_, ?_, ?_, ?_, ?_, ?_⟩
  · rw [e _ _ rfl (by omega)]; exact h1.2
  · rw [e _ _ rfl (by omega), e' 141 (fun _ => rfl) (by omega), r 0 (by omega), r 1 (by omega)]; exact h2
  · rw [e _ _ rfl (by omega), e _ _ rfl (by omega), r 0 (by omega)]; exact h3
  · unfold sH
    rw [e' 142 (fun _ => rfl) (by omega), e' 143 (fun _ => rfl) (by omega), e' 144 (fun _ => rfl) (by omega), e' 152 (fun _ => rfl) (by omega), e' 157 (fun _ => rfl) (by omega), e' 148 (fun _ => rfl) (by omega), e' 163 (fun _ => rfl) (by omega), e' 164 (fun _ => rfl) (by omega), r 0 (by omega)]
    exact h4
  · unfold sN
    rw [e' 145 (fun _ => rfl) (by omega), e' 153 (fun _ => rfl) (by omega), e' 158 (fun _ => rfl) (by omega), r 0 (by omega), r 2 (by omega), r 3 (by omega), r 4 (by omega)]
    exact h5
  · unfold sP
    rw [e' 159 (fun _ => rfl) (by omega), e' 160 (fun _ => rfl) (by omega), e' 161 (fun _ => rfl) (by omega), e' 162 (fun _ => rfl) (by omega), r 0 (by omega), r 8 (by omega), r 9 (by omega), r 10 (by omega), r 11 (by omega)]
    exact h7
  · unfold sC
    rw [e' 179 (fun _ => rfl) (by omega), e' 180 (fun _ => rfl) (by omega), e' 181 (fun _ => rfl) (by omega), e' 182 (fun _ => rfl) (by omega), e' 183 (fun _ => rfl) (by omega), e' 184 (fun _ => rfl) (by omega), e' 185 (fun _ => rfl) (by omega), e' 186 (fun _ => rfl) (by omega), e' 187 (fun _ => rfl) (by omega), r 12 (by omega), r 13 (by omega), r 14 (by omega), r 15 (by omega), r 16 (by omega), r 17 (by omega), r 18 (by omega), r 19 (by omega), r 20 (by omega)]
    exact h8
  · unfold sW wnA
    rw [e' 176 (fun _ => rfl) (by omega), e' 177 (fun _ => rfl) (by omega), e' 178 (fun _ => rfl) (by omega), r 0 (by omega), r 21 (by omega), r 22 (by omega), r 23 (by omega)]
    exact h9
  · rw [e _ _ rfl (by omega), r 0 (by omega)]; exact h10
  · rw [e _ _ rfl (by omega), e' 193 (fun _ => rfl) (by omega), r 0 (by omega), r 25 (by omega)]; exact h11
  · rw [e' 173 (fun _ => rfl) (by omega), r 24 (by omega)]; exact h12
theorem m_costOf {p n : Nat} {one : Int} (w : WF k α) (H : RepM b α τ) (p1 : (p : Int) < α 0 7) (hn : 1 ≤ n ∧ n ≤ 6) (h1 : 0 ≤ one ∧ one ≤ 20) (k1 : ∀ τ', RepM b α τ' → FrM τ τ' → Q (some (vI (costV α p n one))) τ') : M0 E (d + 8) qX11_costOf [vR 140, vI (p : Int), vI (n : Int), vI one] τ Q := by
  have hw := w.le
  have hb := H.bk
  have wp := w.2.2.2.1 p p1
  have wh := w.2.1
  unfold wfH at wh
  have w' := w.kA (dd := (α 8 p).toNat) (one := one) (by omega)
  have r := kA_ok (α := α) (dd := (α 8 p).toNat) (one := one)
  have q1 := (H.pers (p := (p : Int)) (by omega) p1).1
  rw [Int.toNat_natCast] at q1
  have ed : α 8 p = (((α 8 p).toNat : Nat) : Int) := by omega
  refine mX11_costOf (m_person4 H ⟨_, rfl, by omega, by omega, ?_⟩)
  rw [q1]
  have d1 : (((α 8 p).toNat : Nat) : Int) < α 0 6 := by omega
  obtain ⟨g1, g2, g3⟩ := H.door (a := α 8 p) (by omega) (by omega)
  refine m_door4 H ⟨_, rfl, by omega, by omega, by omega, by omega, by omega, by omega, by omega, by omega, by omega, by omega, ⟨by omega, by omega⟩, by omega, by omega, by omega, by omega, ?_⟩
  have ei : (4 * (b : Int) + α 8 p).toNat = 4 * b + (α 8 p).toNat := by omega
  rw [g1, g2, g3, hb.2.2, ei]
  obtain ⟨-, -, -, -, -, -, -, -, s9, s10⟩ := H.hs
  rw [s9]
  have H1 : RepM b (kA α (α 8 p).toNat one) (wr (wr (wr τ 154 (4 * b + (α 8 p).toNat) 1) 155 (4 * b + (α 8 p).toNat) one) 156 (4 * b + (α 8 p).toNat) 0) := by
    refine H.knd r (fun o j _ ho => by rw [wr_obj (by omega), wr_obj (by omega), wr_obj (by omega)]) (fun x hx => ?_)
    rw [r 0 (by omega)] at hx
    obtain ⟨u1, u2, u3⟩ := H.2.2.2.2.2.1 x hx
    by_cases e : x = (α 8 p).toNat
    · subst e
      rw [kA_at.1, kA_at.2.1, kA_at.2.2]
      exact ⟨by rw [wr_obj (by omega), wr_obj (by omega), wr_same], by rw [wr_obj (by omega), wr_same], by rw [wr_same]⟩
    · rw [kA_ne e, kA_ne e, kA_ne e]
      exact ⟨by rw [wr_obj (by omega), wr_obj (by omega), wr_row (by omega)]; exact u1, by rw [wr_obj (by omega), wr_row (by omega), wr_obj (by omega)]; exact u2, by rw [wr_row (by omega), wr_obj (by omega), wr_obj (by omega)]; exact u3⟩
  have p1' : (p : Int) < kA α (α 8 p).toNat one 0 7 := by rw [r 0 (by omega)]; exact p1
  have d1' : (((α 8 p).toNat : Nat) : Int) < kA α (α 8 p).toNat one 0 6 := by rw [r 0 (by omega)]; exact d1
  refine m_waysOf w' H1 p1' (by omega) (fun τ2 H2 F2 => ⟨_, rfl, ?_⟩)
  have hb2 := H2.bk
  obtain ⟨-, -, -, -, -, -, -, -, -, t10⟩ := H2.hs
  rw [r 0 (by omega)] at t10
  refine ⟨by omega, by omega, ?_⟩
  rw [hb2.2.2, t10]
  have hL := w'.door_ d1'
  have l := m_strangerOf (E := E) (d := d + 1) (b := b) (dd := (α 8 p).toNat) (n := 1) (α := kA α (α 8 p).toNat one) (τ := τ2) (Q := fun v τ34 => ∃ r35 : Int, v = some (vL r35) ∧ 0 ≤ (4 * (b : Int) + α 8 p) ∧ (4 * (b : Int) + α 8 p) < 8 ∧ 0 ≤ (4 * (b : Int) + α 8 p) ∧ (4 * (b : Int) + α 8 p) < 8 ∧ 0 ≤ (4 * (b : Int) + α 8 p) ∧ (4 * (b : Int) + α 8 p) < 8 ∧ inL ((α 0 11 * (1000000000 - wkV (kA α (α 8 p).toNat one) (kA α (α 8 p).toNat one 8 p).toNat (kA α (α 8 p).toNat one 9 p).toNat (kA α (α 8 p).toNat one 10 p) false n (kA α (α 8 p).toNat one 12 p) 1000000000 false (eS0 (kA α (α 8 p).toNat one) (kA α (α 8 p).toNat one 8 p).toNat))) + (α 0 12 * r35)) ∧ inL (Int.tdiv ((α 0 11 * (1000000000 - wkV (kA α (α 8 p).toNat one) (kA α (α 8 p).toNat one 8 p).toNat (kA α (α 8 p).toNat one 9 p).toNat (kA α (α 8 p).toNat one 10 p) false n (kA α (α 8 p).toNat one 12 p) 1000000000 false (eS0 (kA α (α 8 p).toNat one) (kA α (α 8 p).toNat one 8 p).toNat))) + (α 0 12 * r35)) 1000000000) ∧ Q (some (vI (Int.tdiv ((α 0 11 * (1000000000 - wkV (kA α (α 8 p).toNat one) (kA α (α 8 p).toNat one 8 p).toNat (kA α (α 8 p).toNat one 9 p).toNat (kA α (α 8 p).toNat one 10 p) false n (kA α (α 8 p).toNat one 12 p) 1000000000 false (eS0 (kA α (α 8 p).toNat one) (kA α (α 8 p).toNat one 8 p).toNat))) + (α 0 12 * r35)) 1000000000))) (wr (wr (wr τ34 154 (4 * b + (α 8 p).toNat) (α 5 (α 8 p).toNat)) 155 (4 * b + (α 8 p).toNat) (α 6 (α 8 p).toNat)) 156 (4 * b + (α 8 p).toNat) (α 7 (α 8 p).toNat))) w' H2 d1' (by omega) (fun τ3 H3 F3 => ⟨_, rfl, by omega, by omega, by omega, by omega, by omega, by omega, ?_⟩)
  · rw [← ed] at l
    exact l
  · rw [eS0_k, r 8 (by omega), r 9 (by omega), r 10 (by omega), r 12 (by omega)]
    have rw_ := wkV_r (α := kA α (α 8 p).toNat one) (dd := (α 8 p).toNat) (t := (α 9 p).toNat) (miss := false) (L := α 10 p) (by omega) n (α 12 p) 1000000000 false (eS0 α (α 8 p).toNat) (by omega)
    have ch := chcR_r (α := kA α (α 8 p).toNat one) (dd := (α 8 p).toNat) (n := 1) hL
    have cb := cost_b (A := α 0 11) (B := α 0 12) (by omega) (by omega) (x := 1000000000 - wkV (kA α (α 8 p).toNat one) (α 8 p).toNat (α 9 p).toNat (α 10 p) false n (α 12 p) 1000000000 false (eS0 α (α 8 p).toNat)) (by omega) ch
    rw [Int.tdiv_eq_ediv_of_nonneg cb.1]
    refine ⟨⟨by omega, by omega⟩, ⟨by omega, by omega⟩, k1 _ ?_ (fun o ho => by rw [wr_obj (by omega), wr_obj (by omega), wr_obj (by omega), F3 o ho, F2 o ho, wr_obj (by omega), wr_obj (by omega), wr_obj (by omega)])⟩
    refine H3.knd (fun j hj => (r j hj).symm) (fun o j _ ho => by rw [wr_obj (by omega), wr_obj (by omega), wr_obj (by omega)]) (fun x hx => ?_)
    obtain ⟨u1, u2, u3⟩ := H3.2.2.2.2.2.1 x (by rw [r 0 (by omega)]; exact hx)
    by_cases e : x = (α 8 p).toNat
    · subst e
      exact ⟨by rw [wr_obj (by omega), wr_obj (by omega), wr_same], by rw [wr_obj (by omega), wr_same], by rw [wr_same]⟩
    · rw [kA_ne e] at u1 u2 u3
      exact ⟨by rw [wr_obj (by omega), wr_obj (by omega), wr_row (by omega)]; exact u1, by rw [wr_obj (by omega), wr_row (by omega), wr_obj (by omega)]; exact u2, by rw [wr_row (by omega), wr_obj (by omega), wr_obj (by omega)]; exact u3⟩
theorem m_cost74 {p n : Nat} (w : WF k α) (p1 : (p : Int) < α 0 7) (hn : 1 ≤ n ∧ n ≤ 6) : ∀ (m : Nat) (a best least : Int) (τ : mm_Mem), a + m = 21 → 1 ≤ a → RepM b α τ → 0 ≤ least ∧ least ≤ 19998 → (∀ τ', RepM b α τ' → FrM τ τ' → Q (some (vI (cbR α p n m a best least))) τ') → V0 E (d + 9) qX11_cost 74 [some (vR 140), some (vI (p : Int)), some (vI (n : Int)), none, none, some (vI best), some (vI least), some (vI a), none] [] τ Q
  | 0, a, best, least, τ, ha, h1, H, hl, k1 => bX11_cost_74 ⟨⟨by omega, by omega⟩, fun _ => k1 τ H FrM.rf, fun q => by omega⟩
  | m + 1, a, best, least, τ, ha, h1, H, hl, k1 => by
    have cr := costV_r (n := n) (one := a) w p1 (by omega)
    refine bX11_cost_74 ⟨⟨by omega, by omega⟩, fun q => by omega, fun _ => m_costOf w H p1 hn (by omega) (fun τ1 H1 F1 => ⟨_, rfl, ⟨by omega, by omega⟩, ⟨by omega, by omega⟩, fun q => ?_, fun q => ?_⟩)⟩
    · rw [cbR, if_pos q] at k1
      exact m_cost74 w p1 hn m (a + 1) a _ τ1 (by omega) (by omega) H1 cr (fun τ2 H2 F2 => k1 τ2 H2 (F1.tr F2))
    · rw [cbR, if_neg q] at k1
      exact m_cost74 w p1 hn m (a + 1) best least τ1 (by omega) (by omega) H1 hl (fun τ2 H2 F2 => k1 τ2 H2 (F1.tr F2))
theorem m_cost {a0 a1 a2 a3 : Int} (w : WF k α) (H : RepM b α τ) (h0 : inR a0) (h1 : inR a1) (h2 : inR a2) (h3 : inR a3) (k1 : ∀ τ', RepM b α τ' → FrM τ τ' → Q (some (vI (costR α a0 a1 a2 a3))) τ') : M0 E (d + 9) qX11_cost [vR 140, vI a0, vI a1, vI a2, vI a3] τ Q := by
  unfold costR at k1
  have no : ¬ (((0 ≤ a0 ∧ a0 < α 0 7) ∧ 1 ≤ a1 ∧ a1 ≤ 6) ∧ ((a3 = 0 ∧ 0 ≤ a2 ∧ a2 ≤ 20) ∨ a3 = 1)) → Q (some (vI (-1))) τ := fun z => by
    rw [if_neg z] at k1; exact k1 τ H FrM.rf
  have best : (0 ≤ a0 ∧ a0 < α 0 7) → (1 ≤ a1 ∧ a1 ≤ 6) → a3 = 1 → M0 E (d + 8) qX11_costOf [vR 140, vI a0, vI a1, vI 0] τ (fun v τ2 => ∃ r3 : Int, v = some (vI r3) ∧ V0 E (d + 9) qX11_cost 74 [some (vR 140), some (vI a0), some (vI a1), none, none, some (vI 0), some (vI r3), some (vI 1), none] [] τ2 Q) := by
    intro z1 z2 z3
    rw [if_pos ⟨⟨z1, z2⟩, Or.inr z3⟩, if_neg (by omega)] at k1
    have cr := costV_r (n := a1.toNat) (one := 0) w (p := a0.toNat) (by omega) (by omega)
    have l := m_costOf (E := E) (d := d) (b := b) (p := a0.toNat) (n := a1.toNat) (one := 0) (Q := fun v τ2 => ∃ r3 : Int, v = some (vI r3) ∧ V0 E (d + 9) qX11_cost 74 [some (vR 140), some (vI a0), some (vI a1), none, none, some (vI 0), some (vI r3), some (vI 1), none] [] τ2 Q) w H (by omega) (by omega) (by omega) (fun τ1 H1 F1 => ⟨_, rfl, ?_⟩)
    · rw [show ((a1.toNat : Nat) : Int) = a1 by omega, show ((a0.toNat : Nat) : Int) = a0 by omega] at l
      exact l
    · have l2 := m_cost74 (E := E) (d := d) (b := b) (Q := Q) (p := a0.toNat) (n := a1.toNat) w (by omega) (by omega) 20 1 0 (costV α a0.toNat a1.toNat 0) τ1 (by omega) (by omega) H1 cr (fun τ2 H3 F2 => k1 τ2 H3 (F1.tr F2))
      rw [show ((a1.toNat : Nat) : Int) = a1 by omega, show ((a0.toNat : Nat) : Int) = a0 by omega] at l2
      exact l2
  refine mX11_cost (m_isPerson w H h0 ⟨_, rfl, fun q => no (fun z => of_decide_eq_false q z.1.1), fun q => m_is h1 ⟨by decide, by decide⟩ ⟨by decide, by decide⟩ ⟨_, rfl, fun q2 => no (fun z => of_decide_eq_false q2 z.1.2), fun q2 => ⟨h3, fun q3 => ?_, fun q3 => ⟨fun q4 => no (fun z => by have := z.2; omega), fun q4 => ?_⟩⟩⟩⟩)
  · have q := of_decide_eq_true q
    have q2 := of_decide_eq_true q2
    refine bX11_cost_29 ⟨h3, fun z => absurd q3 z, fun _ => m_is h2 ⟨by decide, by decide⟩ ⟨by decide, by decide⟩ ⟨_, rfl, fun q4 => ⟨fun z => absurd q3 z, fun _ => ?_⟩, fun q4 => no (fun z => of_decide_eq_false q4 (by have := z.2; omega))⟩⟩
    have q4 := of_decide_eq_true q4
    rw [if_pos ⟨⟨q, q2⟩, Or.inl ⟨q3, q4⟩⟩, if_pos q3] at k1
    have l := m_costOf (E := E) (d := d) (b := b) (p := a0.toNat) (n := a1.toNat) (one := a2) (Q := fun v τ2 => ∃ r3 : Int, v = some (vI r3) ∧ Q (some (vI r3)) τ2) w H (by omega) (by omega) (by omega) (fun τ1 H1 F1 => ⟨_, rfl, k1 τ1 H1 F1⟩)
    rw [show ((a1.toNat : Nat) : Int) = a1 by omega, show ((a0.toNat : Nat) : Int) = a0 by omega] at l
    exact l
  · have q := of_decide_eq_true q
    have q2 := of_decide_eq_true q2
    exact bX11_cost_29 ⟨h3, fun _ => ⟨fun _ => best q q2 q4, fun z => absurd z q3⟩, fun z => absurd z q3⟩
end Cost
