/-! countByLip, countOpening, stranger -/
/-- the numbers that stand in a lip's window -/
def sdP (α : mm_Mem) (dd : Nat) (v : Nat) : Prop := ∃ t n : Nat, t < 3 ∧ earA α dd t = true ∧ n < 1000 ∧ α 15 (3 * dd + t) ≤ (n : Int) ∧ (n : Int) ≤ α 15 (3 * dd + t) + α 6 dd ∧ α 23 (1000 * t + n) = (v : Int)
theorem tp_df_cg {f f' g g' : Nat → Nat} (h : ∀ i, i < 5 → f i = f' i) (h' : ∀ i, i < 5 → g i = g' i) : tp_df f g = tp_df f' g' := by
  unfold tp_df
  rw [h 0 (by omega), h 1 (by omega), h 2 (by omega), h 3 (by omega), h 4 (by omega), h' 0 (by omega), h' 1 (by omega), h' 2 (by omega), h' 3 (by omega), h' 4 (by omega)]
section Lip3
variable {E : mm_Env} {d k h b : Nat} {α τ : mm_Mem} {Q : mm_Q0}
theorem wp_dg {t n u : Nat} (w : WF k α) (t1 : (t : Int) < α 0 5) (n1 : n < 1000) (hu : α 23 (1000 * t + n) = (u : Int)) : ∀ i, i < 5 → wpA α t n i = dgV α u i := by
  have hL := w.tune t1
  obtain ⟨a1, a2, a3, a4⟩ := (w.2.2.2.2.2.2.1 t t1).1 n n1
  have nb := num_bnd w t1 n1
  have ar := all_r hL
  have ul : u < allA α := by omega
  have nd := num_dg hL ul
  have fv := fv_dg (α := α) (v := u) hL
  have q2 := num_inj (nt := α 0 3) (by omega) (f := wnA α t n) (g := fun i => (dgV α u i : Int)) (α 0 4).toNat (fun i hi => a1 i (by omega)) (fun i hi => ⟨by omega, fv.1 i (by omega)⟩) (by rw [nd, ← a4, hu])
  intro i hi
  unfold wpA
  by_cases z : (i : Int) < α 0 4
  · rw [if_pos z]
    have := q2 i (by omega)
    omega
  · rw [if_neg z, fv.2 i z]
theorem df_dif {t n u v : Nat} (w : WF k α) (t1 : (t : Int) < α 0 5) (n1 : n < 1000) (hu : α 23 (1000 * t + n) = (u : Int)) : tp_df (wpA α t n) (dgV α v) = difN (α 0 3).toNat (α 0 4).toNat u v := by
  have hL := w.tune t1
  rw [tp_df_cg (wp_dg w t1 n1 hu) (fun _ _ => rfl)]
  exact dif_tp (by omega)
theorem opP_lip {dd v : Nat} (w : WF k α) (d1 : (dd : Int) < α 0 6) (h3 : α 5 dd = 3) : opP α dd v = true ↔ ∃ s, sdP α dd s ∧ ((difN (α 0 3).toNat (α 0 4).toNat s v : Nat) : Int) ≤ α 7 dd := by
  have one : ∀ t, opT α dd v t = true ↔ earA α dd t = true ∧ ∃ n : Nat, n < 1000 ∧ α 15 (3 * dd + t) ≤ (n : Int) ∧ (n : Int) ≤ α 15 (3 * dd + t) + α 6 dd ∧ ((tp_df (wpA α t n) (dgV α v) : Nat) : Int) ≤ α 7 dd := by
    intro t
    unfold opT
    rw [Bool.and_eq_true, decide_eq_true_eq, opA_ne, if_pos h3]
    have er : rchA (α 5 dd) (α 6 dd) (α 7 dd) (α 17 (3 * dd + t)) = α 6 dd := by unfold rchA; rw [if_pos (Or.inr h3)]
    rw [er, skA_ne]
    apply and_congr_right
    intro _
    constructor
    · rintro (⟨i, a1, a2, a3, a4⟩ | q | q | q)
      · exact ⟨i, a3, a1, a2, of_decide_eq_true a4⟩
      · omega
      · omega
      · omega
    · rintro ⟨i, a1, a2, a3, a4⟩
      exact Or.inl ⟨i, a2, a3, a1, decide_eq_true a4⟩
  have mk : ∀ t, t < 3 → opT α dd v t = true → ∃ s, sdP α dd s ∧ ((difN (α 0 3).toNat (α 0 4).toNat s v : Nat) : Int) ≤ α 7 dd := by
    intro t ht q
    obtain ⟨he, n, a1, a2, a3, a4⟩ := (one t).mp q
    have t1 := (earA_lt w he).2.1
    have nb := num_bnd w t1 a1
    have hu : α 23 (1000 * t + n) = (((α 23 (1000 * t + n)).toNat : Nat) : Int) := by omega
    refine ⟨(α 23 (1000 * t + n)).toNat, ⟨t, n, ht, he, a1, a2, a3, hu⟩, ?_⟩
    rw [df_dif w t1 a1 hu] at a4
    exact a4
  unfold opP
  rw [Bool.or_eq_true, Bool.or_eq_true]
  constructor
  · rintro ((q | q) | q)
    · exact mk 0 (by omega) q
    · exact mk 1 (by omega) q
    · exact mk 2 (by omega) q
  · rintro ⟨s, ⟨t, n, ht, he, a1, a2, a3, a4⟩, q⟩
    have t1 := (earA_lt w he).2.1
    have r : opT α dd v t = true := (one t).mpr ⟨he, n, a1, a2, a3, by rw [df_dif w t1 a1 a4]; exact q⟩
    match t, ht, r with
    | 0, _, r => exact Or.inl (Or.inl r)
    | 1, _, r => exact Or.inl (Or.inr r)
    | 2, _, r => exact Or.inr r
/-- marks: none where a number of the window is, six else -/
def LI (all : Nat) (P : Nat → Prop) (τ : mm_Mem) : Prop := ∀ v, v < all → (P v → τ 134 v = 0) ∧ (¬ P v → τ 134 v = 6)
theorem c_lip59 {dd o t : Nat} {la x : Int} (w : WF k α) (d1 : (dd : Int) < α 0 6) (ht : t < 3) (hla : la ≤ 999) (hl2 : inR la) (ho : o + 3 < 133) : ∀ (c n : Nat) (P : Nat → Prop) (τ : mm_Mem), (la + 1 - n).toNat = c → n ≤ 2000 → gW α τ → tS α dd o (eS0 α dd) τ → LI (allA α) P τ → (∀ τ' P', (∀ v, P' v ↔ P v ∨ (earA α dd t = true ∧ ∃ m : Nat, n ≤ m ∧ (m : Int) ≤ la ∧ α 23 (1000 * t + m) = (v : Int))) → LI (allA α) P' τ' → (∀ o, o ≠ 134 → τ' o = τ o) → (∀ v, allA α ≤ v → τ' 134 v = τ 134 v) → V0 E (d + 3) qX7_countByLip 27 [some (vR 133), some (vR o), some (vI x), some (vI ((t : Int) + 1)), none, none, none] [] τ' Q) → V0 E (d + 3) qX7_countByLip 59 [some (vR 133), some (vR o), some (vI x), some (vI (t : Int)), some (vI la), some (vI (n : Int)), none] [] τ Q
  | 0, n, P, τ, hc, hn, G, T, I, k1 => by
    refine bX7_countByLip_59 T.1.1 ⟨⟨by omega, by omega⟩, hl2, fun _ => k1 τ P (fun v => ⟨Or.inl, fun z => ?_⟩) I (fun _ _ => rfl) (fun _ _ => rfl), fun q => by omega⟩
    rcases z with z | ⟨-, m, a1, a2, -⟩
    · exact z
    · omega
  | c + 1, n, P, τ, hc, hn, G, T, I, k1 => by
    have hL := w.door_ d1
    have ar := all_r hL
    have en : ((n : Int) + 1) = ((n + 1 : Nat) : Int) := by omega
    have kb := kdD_out T.1.1
    refine bX7_countByLip_59 T.1.1 ⟨⟨by omega, by omega⟩, hl2, fun q => by omega, fun _ => c_hasEar T.1.1 T.1.2.2.2.2 ⟨by omega, by omega⟩ ⟨_, rfl, fun q => ?_, fun q => ?_⟩⟩
    · rw [e3_ear w] at q
      refine k1 τ P (fun v => ⟨Or.inl, fun z => ?_⟩) I (fun _ _ => rfl) (fun _ _ => rfl)
      rcases z with z | ⟨z, -⟩
      · exact z
      · rw [q] at z; cases z
    · rw [e3_ear w] at q
      have t1 := (earA_lt w q).2.1
      have nb := num_bnd w t1 (n := n) (by omega)
      refine c_numberAtG w G (by omega) t1 (by omega) (by omega) ⟨_, rfl, ?_⟩
      rw [Int.toNat_natCast, Int.toNat_natCast]
      obtain ⟨v, hv⟩ : ∃ v : Nat, α 23 (1000 * t + n) = (v : Int) := ⟨(α 23 (1000 * t + n)).toNat, by omega⟩
      rw [hv] at nb ⊢
      have vl : v < allA α := by omega
      refine c_isNumber ⟨by omega, by omega⟩ ⟨_, rfl, fun z => absurd (of_decide_eq_false z) (by omega), fun _ => ⟨by omega, by omega, ?_⟩⟩
      rw [Int.toNat_natCast, en]
      refine c_lip59 w d1 ht hla hl2 ho c (n + 1) (fun i => P i ∨ i = v) _ (by omega) (by omega) (G.keep (fun o _ _ => wr_obj (by omega)) w) (tS_fr T (wr_obj (by omega)) (wr_obj (by omega)) (wr_obj (by omega)) (wr_obj (by omega))) (fun i hi => ?_) (fun τ' P' hP I' F' A' => k1 τ' P' (fun i => ?_) I' (fun o ho => by rw [F' o ho, wr_obj ho]) (fun i hi => by rw [A' i hi, wr_row (by omega)]))
      · by_cases e : i = v
        · subst e; rw [wr_same]; exact ⟨fun _ => rfl, fun z => absurd (Or.inr rfl) z⟩
        · rw [wr_row e]
          exact ⟨fun z => (I i hi).1 (z.resolve_right e), fun z => (I i hi).2 (fun y => z (Or.inl y))⟩
      · rw [hP i]
        constructor
        · rintro ((z | z) | ⟨z, m, a1, a2, a3⟩)
          · exact Or.inl z
          · subst z; exact Or.inr ⟨q, n, by omega, by omega, hv⟩
          · exact Or.inr ⟨z, m, by omega, a2, a3⟩
        · rintro (z | ⟨z, m, a1, a2, a3⟩)
          · exact Or.inl (Or.inl z)
          · by_cases e : m = n
            · subst e; exact Or.inl (Or.inr (by omega))
            · exact Or.inr ⟨z, m, by omega, a2, a3⟩
theorem c_lip27 {dd o : Nat} {x : Int} (w : WF k α) (d1 : (dd : Int) < α 0 6) (ho : o + 3 < 133) : ∀ (m t : Nat) (P : Nat → Prop) (τ : mm_Mem), t + m = 3 → gW α τ → tS α dd o (eS0 α dd) τ → LI (allA α) P τ → (∀ v, P v ↔ ∃ t' n : Nat, t' < t ∧ earA α dd t' = true ∧ n < 1000 ∧ α 15 (3 * dd + t') ≤ (n : Int) ∧ (n : Int) ≤ α 15 (3 * dd + t') + α 6 dd ∧ α 23 (1000 * t' + n) = (v : Int)) → (∀ τ' P', (∀ v, P' v ↔ sdP α dd v) → LI (allA α) P' τ' → (∀ o, o ≠ 134 → τ' o = τ o) → (∀ v, allA α ≤ v → τ' 134 v = τ 134 v) → V0 E (d + 3) qX7_countByLip 120 [some (vR 133), some (vR o), some (vI x), some (vI 1), some (vI 0), none, none] [] τ' Q) → V0 E (d + 3) qX7_countByLip 27 [some (vR 133), some (vR o), some (vI x), some (vI (t : Int)), none, none, none] [] τ Q
  | 0, t, P, τ, ht, G, T, I, hP, k1 => bX7_countByLip_27 T.1.1 ⟨⟨by omega, by omega⟩, fun _ => k1 τ P (fun v => by rw [hP v, show t = 3 by omega]; rfl) I (fun _ _ => rfl) (fun _ _ => rfl), fun q => by omega⟩
  | m + 1, t, P, τ, ht, G, T, I, hP, k1 => by
    have hw := w.le
    have wd := w.2.2.1 dd d1
    have we := w.2.2.2.2.1 (3 * dd + t)
    have en : ((t : Int) + 1) = ((t + 1 : Nat) : Int) := by omega
    have kb := kdD_out T.1.1
    have g2 := T.1.2.2.1
    have ga : τ (o + 1) t = α 15 (3 * dd + t) := (T.2 t (by omega)).1
    refine bX7_countByLip_27 T.1.1 ⟨⟨by omega, by omega⟩, fun q => by omega, fun _ => ⟨by omega, by omega, ?_⟩⟩
    rw [Int.toNat_natCast, ga, g2]
    refine c_min ⟨by omega, by omega⟩ ⟨by decide, by decide⟩ ⟨_, rfl, by omega, by omega, ?_⟩
    rw [ga, show α 15 (3 * dd + t) = (((α 15 (3 * dd + t)).toNat : Nat) : Int) by omega]
    refine c_lip59 w d1 (by omega) (by omega) ⟨by omega, by omega⟩ ho _ (α 15 (3 * dd + t)).toNat P τ rfl (by omega) G T I (fun τ1 P1 hP1 I1 F1 A1 => ?_)
    rw [en]
    refine c_lip27 w d1 ho m (t + 1) P1 τ1 (by omega) (G.keep (fun x _ _ => F1 x (by omega)) w) (tS_fr T (F1 _ (by omega)) (F1 _ (by omega)) (F1 _ (by omega)) (F1 _ (by omega))) I1 (fun v => ?_) (fun τ2 P2 h2 I2 F2 A2 => k1 τ2 P2 h2 I2 (fun o ho => by rw [F2 o ho, F1 o ho]) (fun v hv => by rw [A2 v hv, A1 v hv]))
    rw [hP1 v, hP v]
    constructor
    · rintro (⟨t', n, a1, a2, a3, a4, a5, a6⟩ | ⟨a1, n, a2, a3, a4⟩)
      · exact ⟨t', n, by omega, a2, a3, a4, a5, a6⟩
      · exact ⟨t, n, by omega, a1, by omega, by omega, by omega, a4⟩
    · rintro ⟨t', n, a1, a2, a3, a4, a5, a6⟩
      by_cases e : t' = t
      · subst e; exact Or.inr ⟨a2, n, by omega, by omega, a6⟩
      · exact Or.inl ⟨t', n, by omega, a2, a3, a4, a5, a6⟩
theorem c_lip120 {dd o : Nat} {sd : Nat → Prop} (w : WF k α) (d1 : (dd : Int) < α 0 6) (kd : KD o = some (.inr 0)) : ∀ (m j : Nat) (τ : mm_Mem), j + m = (α 0 4).toNat → gW α τ → MI sd (α 0 3).toNat (α 0 4).toNat j (τ 134) → (∀ τ', MI sd (α 0 3).toNat (α 0 4).toNat (α 0 4).toNat (τ' 134) → (∀ o, o ≠ 134 → τ' o = τ o) → (∀ v, allA α ≤ v → τ' 134 v = τ 134 v) → V0 E (d + 3) qX7_countByLip 160 [some (vR 133), some (vR o), some (vI (allA α : Nat)), none, some (vI 0), some (vI 0), none] [] τ' Q) → V0 E (d + 3) qX7_countByLip 120 [some (vR 133), some (vR o), some (vI (allA α : Nat)), some (vI (((α 0 3).toNat ^ j : Nat) : Int)), some (vI (j : Int)), none, none] [] τ Q
  | 0, j, τ, hj, G, I, k1 => by
    have hL := w.door_ d1
    obtain ⟨n3, n4, n5⟩ := G.nt hL
    refine bX7_countByLip_120 kd ⟨⟨by omega, by omega⟩, fun _ => k1 τ (by rw [show j = (α 0 4).toNat by omega] at I; exact I) (fun _ _ => rfl) (fun _ _ => rfl), fun q => by omega⟩
  | m + 1, j, τ, hj, G, I, k1 => by
    have hL := w.door_ d1
    have ar := all_r hL
    obtain ⟨n3, n4, n5⟩ := G.nt hL
    have en : ((j : Int) + 1) = ((j + 1 : Nat) : Int) := by omega
    refine bX7_countByLip_120 kd ⟨⟨by omega, by omega⟩, fun q => by omega, fun _ => ?_⟩
    refine c_spread (nt := (α 0 3).toNat) (j := j) (L := (α 0 4).toNat) (by omega) (by omega) ar.2.1 n3 (fun v hv => (I v hv).1) (fun τ1 F1 A1 N1 => ⟨rfl, ?_⟩)
    have G1 : gW α τ1 := G.keep (fun x _ _ => F1 x (by omega)) w
    have e : (((α 0 3).toNat ^ j : Nat) : Int) * τ1 78 3 = (((α 0 3).toNat ^ (j + 1) : Nat) : Int) := by rw [F1 78 (by omega), n3, Nat.pow_succ, Int.natCast_mul]
    rw [e, en]
    have I1 : MI sd (α 0 3).toNat (α 0 4).toNat (j + 1) (τ1 134) := by
      have st := MI_step (by omega) (by omega) I
      intro v hv
      rw [N1 v hv]
      exact st v hv
    exact c_lip120 w d1 kd m (j + 1) τ1 (by omega) G1 I1 (fun τ2 I2 F2 A2 => k1 τ2 I2 (fun o ho => by rw [F2 o ho, F1 o ho]) (fun v hv => by rw [A2 v hv, A1 v hv]))
theorem c_lip160 {o all : Nat} {two : Int} (kd : KD o = some (.inr 0)) (h3 : τ o 3 = two) (ha : all ≤ 7776) (k1 : Q (some (vI (cntP (fun v => decide (τ 134 v ≤ two)) all : Nat))) τ) : ∀ (m v : Nat), v + m = all → V0 E (d + 3) qX7_countByLip 160 [some (vR 133), some (vR o), some (vI (all : Int)), none, some (vI (cntP (fun v => decide (τ 134 v ≤ two)) v : Nat)), some (vI (v : Int)), none] [] τ Q
  | 0, v, hv => by
    refine bX7_countByLip_160 kd ⟨⟨by omega, by omega⟩, ⟨by omega, by omega⟩, fun _ => ?_, fun q => by omega⟩
    rw [show v = all by omega]; exact k1
  | m + 1, v, hv => by
    have en : ((v : Int) + 1) = ((v + 1 : Nat) : Int) := by omega
    refine bX7_countByLip_160 kd ⟨⟨by omega, by omega⟩, ⟨by omega, by omega⟩, fun q => by omega, fun _ => ⟨by omega, by omega, ?_⟩⟩
    rw [h3, Int.toNat_natCast, en]
    refine ⟨fun q => ?_, fun q => ?_⟩
    · have := c_lip160 kd h3 ha k1 m (v + 1) (by omega)
      rw [cntP, if_neg (by rw [decide_eq_true_eq]; omega), Nat.add_zero] at this
      exact this
    · have := c_lip160 kd h3 ha k1 m (v + 1) (by omega)
      rw [cntP, if_pos (by rw [decide_eq_true_eq]; omega)] at this
      exact this
theorem c_countLip {dd o : Nat} (w : WF k α) (G : gW α τ) (T : tS α dd o (eS0 α dd) τ) (d1 : (dd : Int) < α 0 6) (h3 : α 5 dd = 3) (M : mkI τ) (k1 : ∀ τ', (∀ x, x ≠ 134 → τ' x = τ x) → (∀ i, i < 7776 → τ' 134 i ≤ τ' 133 2) → Q (some (vI (openN α dd : Nat))) τ') : M0 E (d + 3) qX7_countByLip [vR 133, vR o] τ Q := by
  have hL := w.door_ d1
  have ar := all_r hL
  have wd := w.2.2.1 dd d1
  obtain ⟨n3, n4, n5⟩ := G.nt hL
  have kd := T.1.1
  have kb := kdD_out kd
  obtain ⟨m1, m2, m3⟩ := M
  refine mX7_countByLip kd ?_
  rw [n5]
  refine c_min ⟨by omega, by omega⟩ ⟨by decide, by decide⟩ ⟨_, rfl, ?_⟩
  rw [show min ((allA α : Nat) : Int) 7776 = ((allA α : Nat) : Int) by omega]
  refine c_fill3 (n := 7776) rfl (by omega) (by omega) ar.2.1 ⟨by decide, by decide⟩ (fun τ1 F1 N1 O1 => ⟨rfl, ?_⟩)
  have G1 : gW α τ1 := G.keep (fun x _ _ => F1 x (by omega)) w
  have T1 : tS α dd o (eS0 α dd) τ1 := tS_fr T (F1 _ (by omega)) (F1 _ (by omega)) (F1 _ (by omega)) (F1 _ (by omega))
  refine c_lip27 w d1 (by omega) 3 0 (fun _ => False) τ1 rfl G1 T1 (fun v hv => ⟨fun z => absurd z id, fun _ => N1 v hv⟩) (fun v => ⟨fun z => absurd z id, fun ⟨t', n, a1, _⟩ => absurd a1 (Nat.not_lt_zero _)⟩) (fun τ2 P2 hP2 I2 F2 A2 => ?_)
  have G2 : gW α τ2 := G1.keep (fun x _ _ => F2 x (by omega)) w
  have M2 : MI (sdP α dd) (α 0 3).toNat (α 0 4).toNat 0 (τ2 134) := by
    intro v hv
    obtain ⟨i1, i2⟩ := I2 v hv
    by_cases z : P2 v
    · rw [i1 z]
      refine ⟨by omega, fun r hr => ⟨fun q => ⟨v, (hP2 v).mp z, rfl, q⟩, fun ⟨s, a1, a2, a3⟩ => a3⟩⟩
    · rw [i2 z]
      refine ⟨by omega, fun r hr => ⟨fun q => by omega, fun ⟨s, a1, a2, a3⟩ => ?_⟩⟩
      rw [Nat.pow_zero, Nat.div_one, Nat.div_one] at a2
      subst a2
      exact absurd ((hP2 s).mpr a1) z
  have l := c_lip120 (E := E) (d := d) (Q := Q) (o := o) w d1 kd (α 0 4).toNat 0 τ2 (by omega) G2 M2 (fun τ3 I3 F3 A3 => ?_)
  · exact l
  · have e7 : τ3 o 3 = α 7 dd := by
      rw [F3 o (by omega), F2 o (by omega), F1 o (by omega)]; exact T.1.2.2.2.1
    have ec : cntP (fun v => decide (τ3 134 v ≤ α 7 dd)) (allA α) = openN α dd := by
      unfold openN
      apply cntP_congr
      intro v hv
      apply Bool.eq_iff_iff.mpr
      rw [decide_eq_true_eq, opP_lip w d1 h3, (I3 v hv).2 (α 7 dd) (by have := wd.2.2.2.2.2.2 h3; omega)]
      constructor
      · rintro ⟨s, a1, -, a3⟩; exact ⟨s, a1, a3⟩
      · rintro ⟨s, a1, a3⟩
        refine ⟨s, a1, ?_, a3⟩
        obtain ⟨t, n, b1, b2, b3, b4, b5, b6⟩ := a1
        have nb := num_bnd w (earA_lt w b2).2.1 b3
        have sl : s < (α 0 3).toNat ^ (α 0 4).toNat := by
          have : ((allA α : Nat) : Int) = α 0 3 ^ (α 0 4).toNat := ar.2.2
          have : s < allA α := by omega
          exact this
        have vl : v < (α 0 3).toNat ^ (α 0 4).toNat := hv
        rw [Nat.div_eq_of_lt sl, Nat.div_eq_of_lt vl]
    have l2 := c_lip160 (E := E) (d := d) (Q := Q) (τ := τ3) (o := o) (all := allA α) (two := α 7 dd) kd e7 ar.2.1 ?_ (allA α) 0 (by omega)
    · exact l2
    · rw [ec]
      refine k1 τ3 (fun x hx => by rw [F3 x hx, F2 x hx, F1 x hx]) (fun i hi => ?_)
      rw [F3 133 (by omega), F2 133 (by omega), F1 133 (by omega)]
      by_cases z : i < allA α
      · have := (I3 i z).1; omega
      · rw [A3 i (by omega), A2 i (by omega), O1 i (by omega)]; exact m3 i hi
theorem c_countOpening {dd o : Nat} (w : WF k α) (G : gW α τ) (T : tS α dd o (eS0 α dd) τ) (d1 : (dd : Int) < α 0 6) (M : mkI τ) (k1 : ∀ τ', (∀ x, x ≠ 133 → x ≠ 134 → τ' x = τ x) → τ 133 2 ≤ τ' 133 2 → τ' 133 2 ≤ τ 133 2 + 1 → (∀ i, i < 7776 → τ' 134 i ≤ τ' 133 2) → Q (some (vI (openN α dd : Nat))) τ') : M0 E (d + 4) qX7_countOpening [vR 133, vR o] τ Q := by
  by_cases h3 : α 5 dd = 3
  · refine mX7_countOpening T.1.1 ?_
    rw [T.1.2.1]
    refine ⟨fun z => absurd h3 z, fun _ => c_countLip w G T d1 h3 M (fun τ' F' M' => ⟨_, rfl, k1 τ' (fun x _ x2 => F' x x2) ?_ ?_ M'⟩)⟩
    · rw [F' 133 (by omega)]; omega
    · rw [F' 133 (by omega)]; omega
  · exact c_countN w G T d1 h3 M (fun τ' F' e M' => k1 τ' F' (by omega) (by omega) M')
/-- marks and stamp new, all else as it was -/
theorem RepC.tset {k' : Nat} {τ' : mm_Mem} (w : WF k α) (H : RepC k h α τ) (hk : k ≤ k') (F : ∀ x, x ≠ 133 → x ≠ 134 → x ≠ 135 → τ' x = τ x) (s1 : 1000 ≤ τ' 133 2) (s2 : τ' 133 2 ≤ 1000 + 50 * (k' : Int)) (M : ∀ i, i < 7776 → τ' 134 i ≤ τ' 133 2) : RepC k' h α τ' := by
  have hw := w.le
  have hh := H.2.2.1.1
  have H0 := H
  obtain ⟨h1, h2, h3, h4, h5, h6, h7, h8, h9, h10, h11, h12, h13⟩ := H.up hk
  have e' : ∀ o, h ≤ o → o < h + 34 → τ' o = τ o := fun o q1 q2 => F o (by omega) (by omega) (by omega)
  refine ⟨h1.cg rfl rfl (by rw [F 2 (by omega) (by omega) (by omega)]) (F 3 (by omega) (by omega) (by omega)), h2.cg rfl rfl (by rw [F 77 (by omega) (by omega) (by omega)]) (by rw [F 77 (by omega) (by omega) (by omega)]), h3.cg (by rw [F 2 (by omega) (by omega) (by omega)]) (by rw [F 2 (by omega) (by omega) (by omega)]), h4.cg (fun _ _ _ => rfl) e', h5.cg hw.2.1 hw.2.2.1 (fun _ _ _ => rfl) rfl rfl rfl e', h6.cg hw.2.1 (fun _ _ _ => rfl) (fun _ _ _ => rfl) (fun _ _ _ => rfl) e', h7.cg hw.2.2.1 (fun _ _ _ => rfl) (fun _ _ _ => rfl) e', h8.cg hw.1 (fun _ _ _ => rfl) (fun _ _ _ => rfl) (fun o a b => F o (by omega) (by omega) (by omega)), ?_, h10.cg rfl rfl (by rw [F 2 (by omega) (by omega) (by omega)]) (F 138 (by omega) (by omega) (by omega)), h11.cg rfl (F 139 (by omega) (by omega) (by omega)), ⟨fun i hi => ?_, s1, s2, M⟩, h13.cg (fun o a b => F o (by omega) (by omega) (by omega)) kdD_133⟩
  · rw [F 2 (by omega) (by omega) (by omega)]; exact h9
  · rw [F 76 (by omega) (by omega) (by omega)]; exact h12.1 i hi
theorem RepC.mk (hk : k ≤ 700) (H : RepC k h α τ) : mkI τ ∧ τ 133 2 ≤ 1000 + 50 * (k : Int) := by
  obtain ⟨-, a, b, c⟩ := H.2.2.2.2.2.2.2.2.2.2.2.1
  exact ⟨⟨a, by omega, c⟩, b⟩
theorem c_chance {n : Nat} {all m : Int} (hm : 0 ≤ m ∧ m ≤ all) (ha : 1 ≤ all ∧ all ≤ 7776) (hn : n ≤ 500) : ∀ (j i : Nat) (l : Int), i + j = n → 0 ≤ l ∧ l ≤ 1000000000 → Q (some (vL (1000000000 - chA all m j l))) τ → V0 E d qX10_strangersChance 17 [none, some (vI m), some (vI (n : Int)), some (vL all), none, some (vL l), none, some (vI (i : Int))] [] τ Q
  | 0, i, l, hi, hl, k1 => bX10_strangersChance_17 ⟨⟨by omega, by omega⟩, ⟨by omega, by omega⟩, fun _ => k1, fun q => by omega⟩
  | j + 1, i, l, hi, hl, k1 => by
    have r := chA_r hm ha hl
    have en : ((i : Int) + 1) = ((i + 1 : Nat) : Int) := by omega
    refine bX10_strangersChance_17 ⟨⟨by omega, by omega⟩, ⟨by omega, by omega⟩, fun q => by omega, fun _ => ⟨⟨by omega, by omega⟩, fun q => by omega, fun _ => ⟨⟨by omega, by omega⟩, ⟨by omega, by omega⟩, by omega, ?_⟩⟩⟩
    rw [en, Int.tdiv_eq_ediv_of_nonneg r.1]
    exact c_chance hm ha hn j (i + 1) _ (by omega) ⟨r.2.2.1, r.2.2.2⟩ k1
theorem c_strangersChance {dd n : Nat} (hL : 2 ≤ α 0 3 ∧ α 0 3 ≤ 6 ∧ 2 ≤ α 0 4 ∧ α 0 4 ≤ 5) (G : gW α τ) (hn : n ≤ 500) (k1 : Q (some (vL (chcR α dd n))) τ) : M0 E d qX10_strangersChance [vR 2, vI (openN α dd : Nat), vI (n : Int)] τ Q := by
  have ar := all_r hL
  obtain ⟨n3, n4, n5⟩ := G.nt hL
  have ol := cntP_le (opP α dd) (allA α)
  refine mX10_strangersChance ?_
  rw [n5]
  exact c_chance (by unfold openN; omega) (by omega) hn n 0 1000000000 (by omega) (by omega) k1
theorem c_stranger {a n : Int} (w : WF k α) (hk : k ≤ 599) (H : RepC k h α τ) (ha : inR a) (hn : inR n) (k1 : ∀ τ', RepC (k + 1) h α τ' → FrC τ τ' → Q (some (vL (strangeR α a n))) τ') : M0 E (d + 5) qX10_stranger [vR 2, vI a, vI n] τ Q := by
  unfold strangeR at k1
  have no : ¬ ((0 ≤ a ∧ a < α 0 6) ∧ -1 ≤ n ∧ n ≤ 500) → Q (some (vL (-1))) τ := fun z => by
    rw [if_neg z] at k1; exact k1 τ (H.up (by omega)) FrC.rf
  refine mX10_stranger (c_doorAt w H ha (fun a0 a1 kd => ⟨_, rfl, fun q => by omega, fun _ => ⟨hn, fun q => no (fun z => by omega), fun q => ⟨fun q2 => ?_, fun q2 => no (fun z => by omega)⟩⟩⟩) (fun q => ⟨_, rfl, fun _ => no (fun z => q z.1), fun z => absurd rfl z⟩))
  have T : tS α a.toNat (h + 14 + 4 * a.toNat) (eS0 α a.toNat) τ := H.ds w (by omega)
  obtain ⟨mk1, mk2⟩ := H.mk (by omega)
  have hL := w.door_ (dd := a.toNat) (by omega)
  have ar := all_r hL
  have ol := cntP_le (opP α a.toNat) (allA α)
  refine c_countOpening w H.gw T (by omega) mk1 (fun τ1 F1 e1 e2 M1 => ⟨_, rfl, fun z => ?_, fun z => ⟨⟨by omega, by unfold openN; omega⟩, ?_⟩⟩)
  all_goals
    have H1 : RepC (k + 1) h α τ1 := RepC.tset w H (by omega) (fun x x1 x2 _ => F1 x x1 x2) (by have := mk1.1; omega) (by omega) M1
    have FF : FrC τ τ1 := fun o ho => F1 o (by omega) (by omega)
  · rw [if_pos ⟨⟨a0, a1⟩, by omega, q2⟩, if_neg z] at k1
    have l := c_strangersChance (E := E) (d := d + 4) (dd := a.toNat) (n := n.toNat) (Q := fun v τ6 => ∃ r7 : Int, v = some (vL r7) ∧ Q (some (vL r7)) τ6) hL H1.gw (by omega) ⟨_, rfl, k1 τ1 H1 FF⟩
    rw [show ((n.toNat : Nat) : Int) = n by omega] at l
    exact l
  · rw [if_pos ⟨⟨a0, a1⟩, by omega, q2⟩, if_pos z] at k1
    exact k1 τ1 H1 FF
end Lip3
