/-! likely, lost: the class walks a tree, the reference counts ways -/
def prA (L : Int) (x : Int) : Int := if x = 1 then L else 100 - L
def wkN (α : mm_Mem) (dd t : Nat) (L : Int) (miss : Bool) (g : Int → Int → Bool → mm_ES → Int) (c wt : Int) (o : Bool) (S : mm_ES) (x : Int) : Int := if wt * prA L x / 100 ≤ 0 then 0 else g (min (c + x + 1) 1000) (wt * prA L x / 100) (!(oS α dd t (c + x) S).1 || (miss && o)) (oS α dd t (c + x) S).2
def wkV (α : mm_Mem) (dd t : Nat) (L : Int) (miss : Bool) : Nat → Int → Int → Bool → mm_ES → Int
  | 0, _, wt, o, _ => if o = miss then wt else 0
  | n + 1, c, wt, o, S => wkN α dd t L miss (wkV α dd t L miss n) c wt o S 0 + wkN α dd t L miss (wkV α dd t L miss n) c wt o S 1
def hcN : Nat → Nat
  | 0 => 0
  | n + 1 => 2 * (hcN n + 1)
theorem prA_r {L x : Int} (hL : 0 ≤ L ∧ L ≤ 100) : 0 ≤ prA L x ∧ prA L x ≤ 100 := by unfold prA; split <;> omega
theorem sh_r {L x wt : Int} (hL : 0 ≤ L ∧ L ≤ 100) (hw : 0 ≤ wt ∧ wt ≤ 1000000000) : 0 ≤ wt * prA L x ∧ wt * prA L x ≤ 100000000000 ∧ 0 ≤ wt * prA L x / 100 ∧ wt * prA L x / 100 ≤ 1000000000 := by
  have r := prA_r (x := x) hL
  have h0 : 0 ≤ wt * prA L x := Int.mul_nonneg hw.1 r.1
  have h1 : wt * prA L x ≤ wt * 100 := Int.mul_le_mul_of_nonneg_left r.2 hw.1
  have h2 : wt * 100 ≤ 100000000000 := by omega
  omega
section Ways
variable {E : mm_Env} {d k h b : Nat} {α α' τ : mm_Mem} {Q : mm_Q0}
/-- kinds of doors may differ; the rest is the same -/
def okK (α α' : mm_Mem) : Prop := ∀ j, (j < 5 ∨ 7 < j) → α' j = α j
theorem okK.ear (r : okK α α') : earA α' = earA α := earA_cg (by rw [r 0 (by omega)]) (r 8 (by omega)) (r 9 (by omega))
theorem okK.gw (r : okK α α') (w : WF k α) (G : gW α τ) : gW α' τ := G.cg (w.le.1) (fun i _ _ => by rw [r 0 (by omega)]) (fun j _ _ => r j (by omega)) (fun _ _ _ => rfl)
theorem c_tryHear2 {dd o n : Nat} {f : Nat → Nat} {S : mm_ES} (w : WF k α) (w' : WF k α') (r : okK α α') (hk : k ≤ 600) (H : RepC k h α τ) (T : tS α' dd o S τ) (d1 : (dd : Int) < α' 0 6) (hS : bS S) (Y : gYn n τ) (hn : n + 1 ≤ 4000 * k) (ho : 91 ≤ o ∧ o + 3 < 133) (hof : tp_ok f) (k1 : ∀ τ', RepC k h α τ' → (∀ x, x ≠ o → x ≠ o + 1 → x ≠ o + 2 → x ≠ o + 3 → τ' x = τ x) → tS α' dd o (hsS α' dd f S) τ' → gYn (n + 1) τ' → Q (some (vI (hrS α' dd f S))) τ') : M0 E (d + 5) qX0_hear [vR o, vR 78, vI (tp f : Nat)] τ Q := by
  have y := Y o ho.1 T.1.1
  refine c_hear w' (r.gw w H.gw) hof T (bS_dB w' d1 hS) (fun t ht => ?_) (by omega) (by omega) (fun τ' F' z0 D' g5 g6 g7 => ?_)
  · rw [e3_ear w'] at ht; exact (earA_lt w' ht).2.1
  · have Y' : gYn (n + 1) τ' := by
      intro x x1 x2
      have yx := Y x x1 x2
      rcases kdD_gap o (by omega) x (kdD_133 x x2) T.1.1 x2 with e | ⟨e1, e2, e3, e4⟩
      · subst e
        rw [g6, g7]
        split <;> omega
      · rw [F' x e1 e2 e3 e4]; omega
    exact k1 τ' (H.try1 w ho F' (Y'.k (by omega))) F' D' Y'
theorem c_tryCopy2 {dd o a n : Nat} {S : mm_ES} (w : WF k α) (H : RepC k h α τ) (T : tS α' dd a S τ) (ko : KD o = some (.inr 0)) (Y : gYn n τ) (hn : n ≤ 4000 * k) (ho : 91 ≤ o ∧ o + 3 < 133) (hap : a + 3 < o ∨ o + 3 < a) (k1 : ∀ τ', RepC k h α τ' → (∀ x, x ≠ o → x ≠ o + 1 → x ≠ o + 2 → x ≠ o + 3 → τ' x = τ x) → tS α' dd o S τ' → gYn n τ' → Q none τ') : M0 E d qX0_copyFrom [vR o, vR a] τ Q := by
  refine c_copyFrom ko T hap (fun τ' F' z6 z7 D' => ?_)
  have Y' : gYn n τ' := by
    intro x x1 x2
    have yx := Y x x1 x2
    rcases kdD_gap o (by omega) x (kdD_133 x x2) ko x2 with e | ⟨e1, e2, e3, e4⟩
    · subst e; rw [z6, z7]; exact yx
    · rw [F' x e1 e2 e3 e4]; exact yx
  exact k1 τ' (H.try1 w ho F' (Y'.k hn)) F' D' Y'
theorem tS_fr {dd o : Nat} {S : mm_ES} {τ' : mm_Mem} (T : tS α dd o S τ) (e0 : τ' o = τ o) (e1 : τ' (o + 1) = τ (o + 1)) (e2 : τ' (o + 2) = τ (o + 2)) (e3 : τ' (o + 3) = τ (o + 3)) : tS α dd o S τ' := by
  unfold tS dS; rw [e0, e1, e2, e3]; exact T
/-- what the walk looks at -/
def wyC (h p cm : Nat) (miss : Bool) (τ : mm_Mem) : Prop := τ 95 2 = ((h + 30 + p : Nat) : Int) ∧ τ 95 3 = (cm : Int) ∧ τ 95 4 = bI miss
theorem c_walk {p cm : Nat} {miss : Bool} (w : WF k α) (w' : WF k α') (r : okK α α') (hk : k ≤ 600) (p1 : (p : Int) < α 0 7) (hcm : cm ≤ 8) : ∀ (n depth y : Nat) (c wt : Int) (o : Bool) (S : mm_ES) (τ : mm_Mem) (Q : mm_Q0), depth + n = cm → RepC k h α τ → wyC h p cm miss τ → tS α' (α 8 p).toNat (97 + 4 * depth) S τ → bS S → gYn y τ → y + hcN n ≤ 4000 * k → 0 ≤ c ∧ c ≤ 1000 → 0 ≤ wt ∧ wt ≤ 1000000000 → (∀ τ', RepC k h α τ' → (∀ x, (x < 97 + 4 * (depth + 1) ∨ 133 ≤ x) → τ' x = τ x) → gYn (y + hcN n) τ' → Q (some (vL (wkV α' (α 8 p).toNat (α 9 p).toNat (α 10 p) miss n c wt o S))) τ') → M0 E (d + 6 + n) qX8_walk [vR 95, vI (depth : Int), vI c, vL wt, vB o] τ Q := by
  have hw := w.le
  have wp := w.2.2.2.1 p p1
  have bi : ∀ x y : Bool, bI x = bI y ↔ x = y := by decide
  intro n
  induction n with
  | zero =>
    intro depth y c wt o S τ Q hd H C T hS Y hy hc hwt k1
    have fin := k1 τ H (fun _ _ => rfl) Y
    refine mX8_walk ⟨⟨by omega, by omega⟩, fun _ => ⟨fun z => ?_, fun z => ?_⟩, fun z => by have := C.2.1; omega⟩
    · rw [wkV, if_neg (fun q => z (by rw [C.2.2, q]))] at fin; exact fin
    · rw [wkV, if_pos ((bi _ _).mp (by rw [z, C.2.2]))] at fin; exact fin
  | succ n ih =>
    intro depth y c wt o S τ Q hd H C T hS Y hy hc hwt k1
    have hL : 0 ≤ α 10 p ∧ α 10 p ≤ 100 := by omega
    have hh := H.2.2.1.1
    have kp := kdPers (h := h) (p := p) hh (by omega)
    have hcs : hcN (n + 1) = 2 * (hcN n + 1) := rfl
    have ed : ((depth : Int) + 1) = ((depth + 1 : Nat) : Int) := by omega
    -- one way on
    have step : ∀ (x x6 : Int) (y1 : Nat) (τ1 : mm_Mem), (x = 0 ∨ x = 1) → RepC k h α τ1 → (∀ o, (o < 97 + 4 * (depth + 1) ∨ 133 ≤ o) → τ1 o = τ o) → gYn y1 τ1 → y1 + hcN n + 1 ≤ 4000 * k → (∀ τ', RepC k h α τ' → (∀ o, (o < 97 + 4 * (depth + 1) ∨ 133 ≤ o) → τ' o = τ o) → gYn (y1 + hcN n + 1) τ' → V0 E (d + 6 + (n + 1)) qX8_walk 35 [some (vR 95), some (vI (depth : Int)), some (vI c), some (vL wt), none, some (vB o), some (vL (x6 + wkN α' (α 8 p).toNat (α 9 p).toNat (α 10 p) miss (wkV α' (α 8 p).toNat (α 9 p).toNat (α 10 p) miss n) c wt o S x)), none, some (vI (x + 1)), none, none, none, none, none] [] τ' Q) → V0 E (d + 6 + (n + 1)) qX8_walk 35 [some (vR 95), some (vI (depth : Int)), some (vI c), some (vL wt), none, some (vB o), some (vL x6), none, some (vI x), none, none, none, none, none] [] τ1 Q := by
      intro x x6 y1 τ1 hx H1 F1 Y1 hy1 K
      have C1 : wyC h p cm miss τ1 := by unfold wyC; rw [F1 95 (by omega)]; exact C
      have q3 := (H1.pers (a := (p : Int)) (by omega) p1).2.2.1
      have q2 := (H1.pers (a := (p : Int)) (by omega) p1).2.1
      rw [Int.toNat_natCast] at q3 q2
      have sr := sh_r (x := x) hL hwt
      have pr := prA_r (x := x) hL
      have td : Int.tdiv (wt * prA (α 10 p) x) 100 = wt * prA (α 10 p) x / 100 := Int.tdiv_eq_ediv_of_nonneg sr.1
      have T1 : tS α' (α 8 p).toNat (97 + 4 * depth) S τ1 := tS_fr T (F1 _ (by omega)) (F1 _ (by omega)) (F1 _ (by omega)) (F1 _ (by omega))
      have key : V0 E (d + 6 + (n + 1)) qX8_walk 68 [some (vR 95), some (vI (depth : Int)), some (vI c), some (vL wt), none, some (vB o), some (vL x6), none, some (vI x), none, none, none, none, none] [vI (prA (α 10 p) x), vL wt] τ1 Q := by
        refine bX8_walk_68 (d := d + 6 + n) ⟨⟨by omega, by omega⟩, ⟨by omega, by omega⟩, ?_⟩
        rw [td]
        refine ⟨⟨by omega, by omega⟩, fun z => ?_, fun z => ⟨by omega, by omega, by omega, by omega, ?_⟩⟩
        · have := K τ1 H1 F1 (Y1.up (by omega))
          rw [wkN, if_pos z, Int.add_zero] at this; exact this
        · rw [ed, Int.toNat_natCast, Int.toNat_natCast]
          refine c_tryCopy2 w H1 T1 (kWays (j := depth + 1) (by omega)).2 Y1 (by omega) (by omega) (by omega) (fun τ2 H2 F2 T2 Y2 => ⟨rfl, ⟨by omega, by omega⟩, ?_⟩)
          have FF2 : ∀ o, (o < 97 + 4 * (depth + 1) ∨ 133 ≤ o) → τ2 o = τ o := fun o ho => by rw [F2 o (by omega) (by omega) (by omega) (by omega), F1 o ho]
          have C2 : wyC h p cm miss τ2 := by unfold wyC; rw [FF2 95 (by omega)]; exact C
          -- on to the next level
          have nx : ∀ (g : Bool) (S' : mm_ES) (y3 : Nat) (τ3 : mm_Mem), y3 ≤ y1 + 1 → oS α' (α 8 p).toNat (α 9 p).toNat (c + x) S = (g, S') → RepC k h α τ3 → (∀ o, (o < 97 + 4 * (depth + 1) ∨ 133 ≤ o) → τ3 o = τ o) → tS α' (α 8 p).toNat (97 + 4 * (depth + 1)) S' τ3 → gYn y3 τ3 → V0 E (d + 6 + (n + 1)) qX8_walk 152 [some (vR 95), some (vI (depth : Int)), some (vI c), some (vL wt), none, some (vB o), some (vL x6), none, some (vI x), some (vL (wt * prA (α 10 p) x / 100)), none, some (vI (c + x)), none, none] [vI (bI g)] τ3 Q := by
            intro g S' y3 τ3 hy3 eo H3 F3 T3 Y3
            have C3 : wyC h p cm miss τ3 := by unfold wyC; rw [F3 95 (by omega)]; exact C
            have hS' : bS S' := by
              have d1 : (((α 8 p).toNat : Nat) : Int) < α' 0 6 := by rw [r 0 (by omega)]; omega
              have := bS_o (t := (α 9 p).toNat) (n := c + x) w' d1 hS
              rw [eo] at this; exact this
            have go : ∀ oo : Bool, oo = (!g || (miss && o)) → M0 E (d + 6 + n) qX8_walk [vR 95, vI ((depth : Int) + 1), vI (min (c + x + 1) 1000), vL (wt * prA (α 10 p) x / 100), vB oo] τ3 (fun v τ4 => ∃ r5 : Int, v = some (vL r5) ∧ V0 E (d + 6 + (n + 1)) qX8_walk 35 [some (vR 95), some (vI (depth : Int)), some (vI c), some (vL wt), none, some (vB o), some (vL (x6 + r5)), none, some (vI (x + 1)), none, none, none, none, none] [] τ4 Q) := by
              intro oo eoo
              rw [ed]
              refine ih (depth + 1) y3 _ _ oo S' τ3 _ (by omega) H3 C3 T3 hS' Y3 (by omega) (by omega) (by omega) (fun τ4 H4 F4 Y4 => ⟨_, rfl, ?_⟩)
              have := K τ4 H4 (fun o ho => by rw [F4 o (by omega), F3 o ho]) (Y4.up (by omega))
              rw [wkN, if_neg z, eo, ← eoo] at this
              exact this
            refine bX8_walk_152 (d := d + 6 + n) (c_min ⟨by omega, by omega⟩ ⟨by decide, by decide⟩ ⟨_, rfl, ⟨by cases g <;> decide, by cases g <;> decide⟩, fun q => ?_, fun q => ?_⟩)
            · have eg : g = false := by cases g; rfl; exact absurd q (by decide)
              exact go true (by rw [eg]; rfl)
            · have eg : g = true := by cases g; exact absurd rfl q; rfl
              rw [C3.2.2]
              refine ⟨fun q2 => go false ?_, fun q2 => ⟨fun q3 => go false ?_, fun q3 => go true ?_⟩⟩
              · have em : miss = false := by cases miss; rfl; exact absurd q2 (by decide)
                rw [eg, em]; rfl
              · rw [eg, q3]; cases miss <;> rfl
              · have em : miss = true := by cases miss; exact absurd rfl q2; rfl
                rw [eg, q3, em]; rfl
          refine ⟨fun q => nx false S y1 τ2 (by omega) ?_ H2 FF2 T2 Y2, fun q => ⟨h + 30 + p, C2.1, kp, ?_⟩⟩
          · unfold oS; rw [if_neg (by omega)]
          · have q22 := (H2.pers (a := (p : Int)) (by omega) p1).2.1
            rw [Int.toNat_natCast] at q22
            rw [q22]
            have ok := wpA_ok w (t := (α 9 p).toNat) (n := (c + x).toNat) (by omega) (by omega)
            rw [show d + 6 + n = (d + 5 + n) + 1 by omega]
            refine c_tuneAt w H2 (by omega) (by omega) (by omega) (by omega) ⟨_, rfl, ?_⟩
            have d1 : (((α 8 p).toNat : Nat) : Int) < α' 0 6 := by rw [r 0 (by omega)]; omega
            have ewp : wpA α' (α 9 p).toNat (c + x).toNat = wpA α (α 9 p).toNat (c + x).toNat := by
              funext i; unfold wpA wnA; rw [r 0 (by omega), r 21 (by omega)]
            rw [show d + 5 + n + 1 = (d + 1 + n) + 5 by omega]
            refine c_tryHear2 w w' r hk H2 T2 d1 hS Y2 (by omega) (by omega) ok (fun τ3 H3 F3 T3 Y3 => ⟨_, rfl, ?_, fun q3 => ?_, fun q3 => ?_⟩)
            · have := hrS_r (α := α') (dd := (α 8 p).toNat) (f := wpA α (α 9 p).toNat (c + x).toNat) (S := S); exact ⟨by omega, by omega⟩
            · rw [show d + 1 + n + 5 + 1 = d + 6 + (n + 1) by omega]
              refine nx false _ (y1 + 1) τ3 (by omega) ?_ H3 (fun o ho => by rw [F3 o (by omega) (by omega) (by omega) (by omega), FF2 o ho]) T3 Y3
              unfold oS; rw [if_pos (by omega), ewp, decide_eq_false (by simp [q3])]
            · rw [show d + 1 + n + 5 + 1 = d + 6 + (n + 1) by omega]
              refine nx true _ (y1 + 1) τ3 (by omega) ?_ H3 (fun o ho => by rw [F3 o (by omega) (by omega) (by omega) (by omega), FF2 o ho]) T3 Y3
              unfold oS; rw [if_pos (by omega), ewp, decide_eq_true q3]
      refine bX8_walk_35 ⟨⟨by omega, by omega⟩, fun z => by omega, fun _ => ⟨fun z => ⟨h + 30 + p, C1.1, kp, ?_⟩, fun z => ⟨h + 30 + p, C1.1, kp, ?_⟩⟩⟩
      · rw [q3]
        have e : prA (α 10 p) x = 100 - α 10 p := if_neg z
        rw [e] at key; exact key
      · rw [q3]
        have e : prA (α 10 p) x = α 10 p := if_pos z
        rw [e] at key; exact key
    rw [show d + 6 + (n + 1) = (d + 6 + n) + 1 by omega]
    refine mX8_walk ⟨⟨by omega, by omega⟩, fun z => by have := C.2.1; omega, fun _ => ⟨fun _ => ?_, fun z => by omega⟩⟩
    refine step 0 0 y τ (Or.inl rfl) H (fun _ _ => rfl) Y (by omega) (fun τ1 H1 F1 Y1 => ?_)
    refine step (0 + 1) _ (y + hcN n + 1) τ1 (Or.inr rfl) H1 F1 Y1 (by omega) (fun τ2 H2 F2 Y2 => ?_)
    refine bX8_walk_35 (d := d + 6 + n) ⟨⟨by decide, by decide⟩, fun _ => ?_, fun z => absurd (by decide) z⟩
    have := k1 τ2 H2 F2 (Y2.up (by omega))
    rw [wkV] at this
    rw [Int.zero_add, show (0 : Int) + 1 = 1 from rfl]
    exact this
theorem c_weigh {p a n y : Nat} {miss : Bool} (w : WF k α) (w' : WF k α') (r : okK α α') (hk : k ≤ 600) (p1 : (p : Int) < α 0 7) (hn : 1 ≤ n ∧ n ≤ 8) (H : RepC k h α τ) (T : tS α' (α 8 p).toNat a (eS0 α (α 8 p).toNat) τ) (ha : a < 95) (Y : gYn y τ) (hy : y + hcN n ≤ 4000 * k) (k1 : ∀ τ', RepC k h α τ' → (∀ x, (x < 95 ∨ 133 ≤ x) → τ' x = τ x) → gYn (y + hcN n) τ' → Q (some (vL (wkV α' (α 8 p).toNat (α 9 p).toNat (α 10 p) miss n (α 12 p) 1000000000 false (eS0 α (α 8 p).toNat)))) τ') : M0 E (d + 7 + n) qX8_weigh [vR 95, vR (h + 30 + p), vR a, vI (n : Int), vB miss] τ Q := by
  have hw := w.le
  have wp := w.2.2.2.1 p p1
  have hh := H.2.2.1.1
  have kp := kdPers (h := h) (p := p) hh (by omega)
  have fr : ∀ τ', (∀ x, x ≠ 95 → τ' x = τ x) → RepC k h α τ' := fun τ' F => by
    refine H.frame hw.2.1 hw.2.2.1 hw.1 (fun x j hr => ?_) (Nat.le_refl _) (fun x x1 x2 => ?_)
    · rw [F x (by intro e; subst e; exact absurd hr (by simp [relC]))]
    · rw [F x (by intro e; subst e; exact absurd x2 (by decide))]; exact H.y x x1 x2
  have yf : ∀ τ', (∀ x, x ≠ 95 → τ' x = τ x) → gYn y τ' := fun τ' F x x1 x2 => by
    rw [F x (by intro e; subst e; exact absurd x2 (by decide))]; exact Y x x1 x2
  rw [show d + 7 + n = (d + 6 + n) + 1 by omega]
  refine mX8_weigh kp T.1.1 (c_min ⟨by omega, by omega⟩ ⟨by decide, by decide⟩ ⟨_, rfl, ⟨by omega, by omega⟩, ?_⟩)
  rw [show min (n : Int) 8 = (n : Int) by omega]
  have F1 : ∀ x, x ≠ 95 → wr (wr (wr τ 95 2 ((h + 30 + p : Nat) : Int)) 95 3 (n : Int)) 95 4 (bI miss) x = τ x := fun x hx => by rw [wr_obj hx, wr_obj hx, wr_obj hx]
  refine c_tryCopy2 w (fr _ F1) (tS_fr T (F1 _ (by omega)) (F1 _ (by have := T.1.1; intro e; rw [show a = 94 by omega] at this; exact absurd this (by decide))) (F1 _ (by have := T.1.1; intro e; rw [show a = 93 by omega] at this; exact absurd this (by decide))) (F1 _ (by have := T.1.1; intro e; rw [show a = 92 by omega] at this; exact absurd this (by decide)))) rfl (yf _ F1) (by omega) (by omega) (Or.inl (by have := T.1.1; by_cases e : a = 94; (rw [e] at this; exact absurd this (by decide)); omega)) (fun τ2 H2 F2 T2 Y2 => ⟨rfl, ?_⟩)
  have q5 := (H2.pers (a := (p : Int)) (by omega) p1).2.2.2.2.1
  rw [Int.toNat_natCast] at q5
  rw [q5]
  have C2 : wyC h p n miss τ2 := by
    unfold wyC
    rw [F2 95 (by omega) (by omega) (by omega) (by omega)]
    exact ⟨by rw [wr_row (by omega), wr_row (by omega), wr_same], by rw [wr_row (by omega), wr_same], by rw [wr_same]⟩
  refine c_walk w w' r hk p1 hn.2 n 0 y _ _ false (eS0 α (α 8 p).toNat) τ2 _ (by omega) H2 C2 T2 (bS_0 w) Y2 hy (by omega) (by omega) (fun τ3 H3 F3 Y3 => ⟨_, rfl, k1 τ3 H3 (fun x hx => ?_) Y3⟩)
  rw [F3 x (by omega), F2 x (by omega) (by omega) (by omega) (by omega), F1 x (by omega)]
def likeR (α : mm_Mem) (p n : Int) (miss : Bool) : Int := if (0 ≤ p ∧ p < α 0 7) ∧ 1 ≤ n ∧ n ≤ 8 then wkV α (α 8 p.toNat).toNat (α 9 p.toNat).toNat (α 10 p.toNat) miss n.toNat (α 12 p.toNat) 1000000000 false (eS0 α (α 8 p.toNat).toNat) else -1
theorem hcN8 {n : Nat} (h : n ≤ 8) : hcN n ≤ 510 := by
  match n, h with
  | 0, _ => decide
  | 1, _ => decide
  | 2, _ => decide
  | 3, _ => decide
  | 4, _ => decide
  | 5, _ => decide
  | 6, _ => decide
  | 7, _ => decide
  | 8, _ => decide
theorem c_weighWays {a n : Int} {miss : Bool} (w : WF k α) (hk : k ≤ 599) (H : RepC k h α τ) (ha : inR a) (hn : inR n) (k1 : ∀ τ', RepC (k + 1) h α τ' → FrC τ τ' → Q (some (vL (likeR α a n miss))) τ') : M0 E (d + 16) qX10_weighWays [vR 2, vI a, vI n, vB miss] τ Q := by
  have hw := w.le
  have w1 := w.up (show k ≤ k + 1 by omega)
  have H1 := H.up (show k ≤ k + 1 by omega)
  unfold likeR at k1
  have no : ¬ ((0 ≤ a ∧ a < α 0 7) ∧ 1 ≤ n ∧ n ≤ 8) → Q (some (vL (-1))) τ := fun z => by
    rw [if_neg z] at k1; exact k1 τ H1 FrC.rf
  refine mX10_weighWays (c_personAt w1 H1 ha (fun a0 a1 kd => ⟨_, rfl, fun _ => ⟨kd, ?_⟩, fun q => by omega⟩) (fun q => ⟨_, rfl, fun z => absurd rfl z, fun _ => no (fun z => q z.1)⟩))
  have q1 := (H1.pers a0 a1).1
  have wp := w.2.2.2.1 a.toNat (by omega)
  rw [q1]
  refine c_doorAt w1 H1 ⟨by omega, by omega⟩ (fun b0 b1 kd2 => ⟨_, rfl, fun z => by omega, fun _ => ⟨hn, fun z => no (fun y => by omega), fun z => ⟨fun z2 => ?_, fun z2 => no (fun y => by omega)⟩⟩⟩) (fun z => absurd ⟨by omega, by omega⟩ z)
  rw [if_pos ⟨⟨a0, a1⟩, by omega, z2⟩] at k1
  have T : tS α (α 8 a.toNat).toNat (h + 14 + 4 * (α 8 a.toNat).toNat) (eS0 α (α 8 a.toNat).toNat) τ := H1.ds w1 (by omega)
  have hc := hcN8 (n := n.toNat) (by omega)
  have hh := H.2.2.1.1
  have l := c_weigh (E := E) (d := d + 8 - n.toNat) (h := h) (p := a.toNat) (a := h + 14 + 4 * (α 8 a.toNat).toNat) (n := n.toNat) (y := 4000 * k) (miss := miss) (Q := fun v τ8 => ∃ r9 : Int, v = some (vL r9) ∧ Q (some (vL r9)) τ8) w1 w1 (fun _ _ => rfl) (by omega) (by omega) (by omega) H1 T (by omega) H.y.n (by omega) (fun τ' H' F' Y' => ⟨_, rfl, k1 τ' H' (fun o ho => F' o (by omega))⟩)
  rw [show ((n.toNat : Nat) : Int) = n by omega, show d + 8 - n.toNat + 7 + n.toNat = d + 15 by omega] at l
  exact l
theorem c_likely {a n : Int} (w : WF k α) (hk : k ≤ 599) (H : RepC k h α τ) (ha : inR a) (hn : inR n) (k1 : ∀ τ', RepC (k + 1) h α τ' → FrC τ τ' → Q (some (vL (likeR α a n false))) τ') : M0 E (d + 17) qX10_likely [vR 2, vI a, vI n] τ Q :=
  mX10_likely (c_weighWays w hk H ha hn (fun τ' H' F' => ⟨_, rfl, k1 τ' H' F'⟩))
theorem c_lost {a n : Int} (w : WF k α) (hk : k ≤ 599) (H : RepC k h α τ) (ha : inR a) (hn : inR n) (k1 : ∀ τ', RepC (k + 1) h α τ' → FrC τ τ' → Q (some (vL (likeR α a n true))) τ') : M0 E (d + 17) qX10_lost [vR 2, vI a, vI n] τ Q :=
  mX10_lost (c_weighWays w hk H ha hn (fun τ' H' F' => ⟨_, rfl, k1 τ' H' F'⟩))
end Ways
