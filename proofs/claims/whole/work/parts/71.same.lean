/-! same and round, both sides -/
def foA (α : mm_Mem) (o : Nat) (v : Int) (c n : Nat) : Int := fsA (fun j => decide (α 23 (1000 * o + j) = v)) c n
def smA (α : mm_Mem) (t o : Nat) (what : Int) : Nat → Nat → Int
  | 0, _ => -1
  | c + 1, i => if foA α o (α 23 (1000 * t + i)) 999 0 = -1 then smA α t o what c (i + 1) else if what = 0 then (i : Int) else foA α o (α 23 (1000 * t + i)) 999 0
def sameR (α : mm_Mem) (t o what : Int) : Int := if (0 ≤ t ∧ t < α 0 5) ∧ (0 ≤ o ∧ o < α 0 5) ∧ t ≠ o ∧ (what = 0 ∨ what = 1) then smA α t.toNat o.toNat what 999 0 else -1
theorem fs_r {P : Nat → Bool} : ∀ c n, fsA P c n = -1 ∨ ((n : Int) ≤ fsA P c n ∧ fsA P c n < (n + c : Nat))
  | 0, n => Or.inl rfl
  | c + 1, n => by
    rw [fsA]
    by_cases q : P n = true
    · rw [if_pos q]; right; omega
    · rw [if_neg q]
      have := fs_r (P := P) c (n + 1)
      omega
section Same
variable {E : mm_Env} {d k h b : Nat} {α τ : mm_Mem} {Q : mm_Q0}
theorem nb_r {t n : Nat} (w : WF k α) (t1 : (t : Int) < α 0 5) (n1 : n < 1000) : 0 ≤ α 23 (1000 * t + n) ∧ α 23 (1000 * t + n) ≤ 7775 := by
  have hL := w.tune t1
  have fv := fv_wp w (t := t) (n := n) t1 n1
  have r := num_range (nt := α 0 3) (f := fun i => (wpA α t n i : Int)) (by omega) (α 0 4).toNat (fun i hi => ⟨by omega, fv.1 i (by omega)⟩)
  rw [num_wp w t1 n1] at r
  obtain ⟨-, a2, a3⟩ := all_r hL
  rw [← a3] at r
  omega
theorem c_fillWL {o n : Nat} {v : Int} (kd : KD o = some (.inl (.int, n))) (ho : 2 ≤ o) (hn : n ≤ 100000) (hv : inR v) : ∀ (c i : Nat) (τ : mm_Mem), i + c = n → (∀ j, j < i → τ o j = v) → (∀ τ', (∀ x, x ≠ o → τ' x = τ x) → (∀ j, j < n → τ' o j = v) → Q none τ') → V0 E d qJ7_fill_53178 5 [some (vR o), some (vI v), some (vI (i : Int)), some (vI (n : Int))] [] τ Q
  | 0, i, τ, hi, lo, k1 => bJ7_fill_53178_5 kd ho (by omega) ⟨⟨by omega, by omega⟩, ⟨by omega, by omega⟩, fun _ => k1 τ (fun _ _ => rfl) (fun j hj => lo j (by omega)), fun q => by omega⟩
  | c + 1, i, τ, hi, lo, k1 => by
    have en : ((i : Int) + 1) = ((i + 1 : Nat) : Int) := by omega
    refine bJ7_fill_53178_5 kd ho (by omega) ⟨⟨by omega, by omega⟩, ⟨by omega, by omega⟩, fun q => by omega, fun _ => ⟨by omega, by omega, hv, ?_⟩⟩
    rw [en, Int.toNat_natCast]
    refine c_fillWL kd ho hn hv c (i + 1) _ (by omega) (fun j hj => ?_) (fun τ' F' N' => k1 τ' (fun x hx => by rw [F' x hx, wr_obj hx]) N')
    by_cases e : j = i
    · subst e; rw [wr_same]
    · rw [wr_row e]; exact lo j (by omega)
theorem c_nfL {o : Nat} (w : WF k α) (t1 : (o : Int) < α 0 5) : ∀ (n : Nat) (τ : mm_Mem), n ≤ 999 → gW α τ → (∀ v : Nat, v < 7776 → τ 134 v = foA α o (v : Int) (999 - n) n) → (∀ τ', (∀ x, x ≠ 134 → τ' x = τ x) → (∀ v : Nat, v < 7776 → τ' 134 v = foA α o (v : Int) 999 0) → Q none τ') → V0 E (d + 2) qX7_noteFirsts 12 [some (vR 133), some (vI (o : Int)), none, some (vI ((n : Int) - 1)), none] [] τ Q
  | 0, τ, hn, G, I, k1 => bX7_noteFirsts_12 ⟨⟨by omega, by omega⟩, fun _ => k1 τ (fun _ _ => rfl) I, fun q => by omega⟩
  | n + 1, τ, hn, G, I, k1 => by
    have r := nb_r w t1 (show n < 1000 by omega)
    have tu : α 0 5 ≤ 3 := by have := w.2.1.1; omega
    rw [show ((n + 1 : Nat) : Int) - 1 = (n : Int) by omega]
    refine bX7_noteFirsts_12 ⟨⟨by omega, by omega⟩, fun q => by omega, fun _ => c_numberAtG w G (by omega) t1 (by omega) (by omega) ⟨_, rfl, c_isNumber ⟨?_, ?_⟩ ⟨_, rfl, fun q => ?_, fun q => ?_⟩⟩⟩
    · rw [Int.toNat_natCast, Int.toNat_natCast]; omega
    · rw [Int.toNat_natCast, Int.toNat_natCast]; omega
    · rw [Int.toNat_natCast, Int.toNat_natCast] at q
      exact absurd (of_decide_eq_false q) (by omega)
    · rw [Int.toNat_natCast, Int.toNat_natCast]
      refine ⟨by omega, by omega, ?_⟩
      rw [show (n : Int) + (-1) = (n : Int) - 1 by omega]
      refine c_nfL w t1 n _ (by omega) ?_ (fun v hv => ?_) (fun τ' F' N' => k1 τ' (fun x hx => by rw [F' x hx, wr_obj hx]) N')
      · exact G.cg tu (fun _ _ _ => rfl) (fun _ _ _ => rfl) (fun x a b => wr_obj (by omega))
      · have e : foA α o (v : Int) (999 - n) n = if α 23 (1000 * o + n) = (v : Int) then (n : Int) else foA α o (v : Int) (999 - (n + 1)) (n + 1) := by
          unfold foA
          rw [show 999 - n = (999 - (n + 1)) + 1 by omega, fsA]
          by_cases q : α 23 (1000 * o + n) = (v : Int)
          · rw [if_pos q, if_pos (decide_eq_true q)]
          · rw [if_neg q, if_neg (by rw [decide_eq_false q]; decide)]
        rw [e]
        by_cases q : α 23 (1000 * o + n) = (v : Int)
        · rw [if_pos q, show (α 23 (1000 * o + n)).toNat = v by omega, wr_same]
        · rw [if_neg q, wr_row (by omega)]; exact I v hv
theorem c_sameL {t o : Nat} {what : Int} (w : WF k α) (t1 : (t : Int) < α 0 5) (H : RepC k h α τ) (hw : inR what) (I : ∀ v : Nat, v < 7776 → τ 134 v = foA α o (v : Int) 999 0) : ∀ (c i : Nat), i + c = 999 → Q (some (vI (smA α t o what c i))) τ → V0 E (d + 3) qX10_same 46 [some (vR 2), some (vI (t : Int)), none, some (vI what), some (vI (i : Int)), none] [] τ Q
  | 0, i, hi, k1 => bX10_same_46 ⟨⟨by omega, by omega⟩, fun _ => k1, fun q => by omega⟩
  | c + 1, i, hi, k1 => by
    have r := nb_r w t1 (show i < 1000 by omega)
    have fr := fs_r (P := fun j => decide (α 23 (1000 * o + j) = α 23 (1000 * t + i))) 999 0
    have e : τ 134 (α 23 (1000 * t + i)).toNat = foA α o (α 23 (1000 * t + i)) 999 0 := by
      rw [I _ (by omega), show (((α 23 (1000 * t + i)).toNat : Nat) : Int) = α 23 (1000 * t + i) by omega]
    have ed : foA α o (α 23 (1000 * t + i)) 999 0 = fsA (fun j => decide (α 23 (1000 * o + j) = α 23 (1000 * t + i))) 999 0 := rfl
    rw [← ed] at fr
    refine bX10_same_46 ⟨⟨by omega, by omega⟩, fun q => by omega, fun _ => c_numberAt w H (by omega) t1 (by omega) (by omega) ⟨_, rfl, ?_⟩⟩
    rw [Int.toNat_natCast, Int.toNat_natCast]
    refine mX7_firstOf (c_isNumber ⟨by omega, by omega⟩ ⟨_, rfl, fun q => absurd (of_decide_eq_false q) (by omega), fun _ => ⟨by omega, by omega, _, rfl, ?_⟩⟩)
    rw [e]
    rw [smA] at k1
    refine ⟨⟨by omega, by omega⟩, fun q => ?_, fun q => ⟨hw, fun z => ?_, fun z => ?_⟩⟩
    · rw [if_pos q] at k1
      rw [show (i : Int) + 1 = ((i + 1 : Nat) : Int) by omega]
      exact c_sameL w t1 H hw I c (i + 1) (by omega) k1
    · rw [if_neg q, if_neg z] at k1; exact k1
    · rw [if_neg q, if_pos z] at k1; exact k1
theorem c_same {a0 a1 a2 : Int} (hk : k ≤ 600) (w : WF k α) (H : RepC k h α τ) (h0 : inR a0) (h1 : inR a1) (h2 : inR a2) (k1 : ∀ τ', RepC k h α τ' → FrC τ τ' → Q (some (vI (sameR α a0 a1 a2))) τ') : M0 E (d + 3) qX10_same [vR 2, vI a0, vI a1, vI a2] τ Q := by
  unfold sameR at k1
  have no : ¬ ((0 ≤ a0 ∧ a0 < α 0 5) ∧ (0 ≤ a1 ∧ a1 < α 0 5) ∧ a0 ≠ a1 ∧ (a2 = 0 ∨ a2 = 1)) → Q (some (vI (-1))) τ := fun z => by
    have := k1 τ H FrC.rf
    rw [if_neg z] at this; exact this
  refine mX10_same (c_isTune w H h0 ⟨_, rfl, fun q => no (fun z => of_decide_eq_false q z.1), fun q => c_isTune w H h1 ⟨_, rfl, fun q2 => no (fun z => of_decide_eq_false q2 z.2.1), fun q2 => ⟨h0, h1, fun q3 => no (fun z => z.2.2.1 q3), fun q3 => ⟨h2, fun q4 => no (fun z => by omega), fun q4 => ⟨fun q5 => ?_, fun q5 => no (fun z => by omega)⟩⟩⟩⟩⟩)
  have q := of_decide_eq_true q
  have q2 := of_decide_eq_true q2
  simp only [if_pos (show (0 ≤ a0 ∧ a0 < α 0 5) ∧ (0 ≤ a1 ∧ a1 < α 0 5) ∧ a0 ≠ a1 ∧ (a2 = 0 ∨ a2 = 1) from ⟨q, q2, q3, by omega⟩)] at k1
  have tu : α 0 5 ≤ 3 := by have := w.2.1.1; omega
  obtain ⟨⟨s1, s2, s3⟩, s4⟩ := H.mk (by omega)
  refine mX7_noteFirsts (mJ7_fill_53178 (n_a0 := 7776) rfl (by omega) (by omega) (c_fillWL (o := 134) (n := 7776) (v := -1) rfl (by omega) (by omega) ⟨by omega, by omega⟩ 7776 0 τ (by omega) (fun j hj => by omega) (fun τ1 F1 N1 => ⟨rfl, ?_⟩)))
  have G1 : gW α τ1 := H.2.2.2.2.2.2.2.1.cg tu (fun _ _ _ => rfl) (fun _ _ _ => rfl) (fun x a b => F1 x (by omega))
  have l := c_nfL (E := E) (d := d) (Q := fun v τ8 => v = none ∧ V0 E (d + 3) qX10_same 46 [some (vR 2), some (vI a0), none, some (vI a2), some (vI 0), none] [] τ8 Q) (o := a1.toNat) w (by omega) 999 τ1 (by omega) G1 (fun v hv => N1 v hv) (fun τ2 F2 N2 => ⟨rfl, ?_⟩)
  · rw [show ((a1.toNat : Nat) : Int) = a1 by omega] at l
    exact l
  · have F : ∀ x, x ≠ 134 → τ2 x = τ x := fun x hx => by rw [F2 x hx, F1 x hx]
    have H2 : RepC k h α τ2 := by
      refine H.tset w (Nat.le_refl _) (fun x _ hx _ => F x hx) (by rw [F 133 (by omega)]; exact s1) (by rw [F 133 (by omega)]; exact s4) (fun i hi => ?_)
      rw [F 133 (by omega), N2 i hi]
      have := fs_r (P := fun j => decide (α 23 (1000 * a1.toNat + j) = (i : Int))) 999 0
      unfold foA; omega
    have l2 := c_sameL (E := E) (d := d) (Q := Q) (t := a0.toNat) (o := a1.toNat) w (by omega) H2 h2 N2 999 0 (by omega) (k1 τ2 H2 (fun x hx => F x (by omega)))
    rw [show ((a0.toNat : Nat) : Int) = a0 by omega] at l2
    exact l2
theorem RepM.nbr {t n : Nat} {x : Int} (H : RepM b α τ) (t1 : (t : Int) < α 0 5) (n1 : n < 1000) (hx : x = ((1000 * t + n : Nat) : Int)) : τ 178 x.toNat = α 23 (1000 * t + n) ∧ τ 177 x.toNat = α 22 (1000 * t + n) := by
  rw [hx, Int.toNat_natCast]
  exact ⟨(H.2.2.2.2.2.2.2.2.1 t n t1 n1).2.2, (H.2.2.2.2.2.2.2.2.1 t n t1 n1).2.1⟩
theorem m_same46 {t o : Nat} {what : Int} (w : WF k α) (t1 : (t : Int) < α 0 5) (o1 : (o : Int) < α 0 5) (H : RepM b α τ) (hw : inR what) {i : Nat} (hi : i < 999) : ∀ (c j : Nat), j + c = 999 → (foA α o (α 23 (1000 * t + i)) c j = -1 → V0 E (d + 2) qX11_same 35 [some (vR 140), some (vI (t : Int)), some (vI (o : Int)), some (vI what), some (vI ((i : Int) + 1)), none] [] τ Q) → (¬ foA α o (α 23 (1000 * t + i)) c j = -1 → Q (some (vI (if what = 0 then (i : Int) else foA α o (α 23 (1000 * t + i)) c j))) τ) → V0 E (d + 2) qX11_same 46 [some (vR 140), some (vI (t : Int)), some (vI (o : Int)), some (vI what), some (vI (i : Int)), some (vI (j : Int))] [] τ Q
  | 0, j, hj, kN, k1 => bX11_same_46 ⟨⟨by omega, by omega⟩, fun _ => kN rfl, fun q => by omega⟩
  | c + 1, j, hj, kN, k1 => by
    have tu : α 0 5 ≤ 3 := by have := w.2.1.1; omega
    have e1 := (H.nbr (t := t) (n := i) (x := 1000 * (t : Int) + i) t1 (by omega) (by omega)).1
    have e2 := (H.nbr (t := o) (n := j) (x := 1000 * (o : Int) + j) o1 (by omega) (by omega)).1
    refine bX11_same_46 ?_
    rw [e1, e2]
    unfold foA at k1 kN
    rw [fsA] at k1 kN
    refine ⟨⟨by omega, by omega⟩, fun q => by omega, fun _ => ⟨by omega, by omega, by omega, by omega, fun q => ?_, fun q => ?_⟩⟩
    · have e : ¬ decide (α 23 (1000 * o + j) = α 23 (1000 * t + i)) = true := by rw [decide_eq_false (fun z => q z.symm)]; decide
      rw [if_neg e] at k1 kN
      rw [show (j : Int) + 1 = ((j + 1 : Nat) : Int) by omega]
      exact m_same46 w t1 o1 H hw hi c (j + 1) (by omega) kN k1
    · rw [if_pos (decide_eq_true q.symm)] at k1
      have k1 := k1 (by omega)
      exact ⟨hw, fun z => by rw [if_neg z] at k1; exact k1, fun z => by rw [if_pos z] at k1; exact k1⟩
theorem m_sameL {t o : Nat} {what : Int} (w : WF k α) (t1 : (t : Int) < α 0 5) (o1 : (o : Int) < α 0 5) (H : RepM b α τ) (hw : inR what) : ∀ (c i : Nat), i + c = 999 → Q (some (vI (smA α t o what c i))) τ → V0 E (d + 2) qX11_same 35 [some (vR 140), some (vI (t : Int)), some (vI (o : Int)), some (vI what), some (vI (i : Int)), none] [] τ Q
  | 0, i, hi, k1 => bX11_same_35 ⟨⟨by omega, by omega⟩, fun _ => k1, fun q => by omega⟩
  | c + 1, i, hi, k1 => by
    refine bX11_same_35 ⟨⟨by omega, by omega⟩, fun q => by omega, fun _ => ?_⟩
    rw [smA] at k1
    refine m_same46 w t1 o1 H hw (by omega) 999 0 (by omega) (fun z => ?_) (fun z => ?_)
    · rw [if_pos z] at k1
      rw [show (i : Int) + 1 = ((i + 1 : Nat) : Int) by omega]
      exact m_sameL w t1 o1 H hw c (i + 1) (by omega) k1
    · rw [if_neg z] at k1; exact k1
theorem m_same {a0 a1 a2 : Int} (w : WF k α) (H : RepM b α τ) (h0 : inR a0) (h1 : inR a1) (h2 : inR a2) (k1 : Q (some (vI (sameR α a0 a1 a2))) τ) : M0 E (d + 2) qX11_same [vR 140, vI a0, vI a1, vI a2] τ Q := by
  unfold sameR at k1
  have no : ¬ ((0 ≤ a0 ∧ a0 < α 0 5) ∧ (0 ≤ a1 ∧ a1 < α 0 5) ∧ a0 ≠ a1 ∧ (a2 = 0 ∨ a2 = 1)) → Q (some (vI (-1))) τ := fun z => by
    rw [if_neg z] at k1; exact k1
  have go : (0 ≤ a0 ∧ a0 < α 0 5) → (0 ≤ a1 ∧ a1 < α 0 5) → ¬ a0 = a1 → (a2 = 0 ∨ a2 = 1) → V0 E (d + 2) qX11_same 35 [some (vR 140), some (vI a0), some (vI a1), some (vI a2), some (vI 0), none] [] τ Q := fun q q2 q3 q4 => by
    rw [if_pos ⟨q, q2, q3, q4⟩] at k1
    have l := m_sameL (E := E) (d := d) (Q := Q) (t := a0.toNat) (o := a1.toNat) w (by omega) (by omega) H h2 999 0 (by omega) k1
    rw [show ((a0.toNat : Nat) : Int) = a0 by omega, show ((a1.toNat : Nat) : Int) = a1 by omega] at l
    exact l
  exact mX11_same (m_isTune w H h0 ⟨_, rfl, fun q => no (fun z => of_decide_eq_false q z.1), fun q => m_isTune w H h1 ⟨_, rfl, fun q2 => no (fun z => of_decide_eq_false q2 z.2.1), fun q2 => ⟨h0, h1, fun q3 => no (fun z => z.2.2.1 q3), fun q3 => ⟨h2, fun q4 => go (of_decide_eq_true q) (of_decide_eq_true q2) q3 (Or.inl q4), fun q4 => ⟨fun q5 => go (of_decide_eq_true q) (of_decide_eq_true q2) q3 (Or.inr q5), fun q5 => no (fun z => by omega)⟩⟩⟩⟩⟩)
end Same
