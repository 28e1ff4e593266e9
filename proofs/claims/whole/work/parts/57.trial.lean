/-! what is only tried: the class's trial door, the reference's keeping and going back -/
def mm_ES : Type := (Nat → Int) × (Nat → Int) × (Nat → Int)
def eS0 (α : mm_Mem) (dd : Nat) : mm_ES := (c15 α dd, c16 α dd, c17 α dd)
def hsS (α : mm_Mem) (dd : Nat) (f : Nat → Nat) (S : mm_ES) : mm_ES := (afC α f (α 5 dd) (α 6 dd) (α 7 dd) (earA α dd 0) (earA α dd 1) (earA α dd 2) S.1 S.2.1 S.2.2, afH α f (α 5 dd) (α 6 dd) (α 7 dd) (earA α dd 0) (earA α dd 1) (earA α dd 2) S.1 S.2.1 S.2.2, afT α f (α 5 dd) (α 6 dd) (α 7 dd) (earA α dd 0) (earA α dd 1) (earA α dd 2) S.1 S.2.1 S.2.2)
def hrS (α : mm_Mem) (dd : Nat) (f : Nat → Nat) (S : mm_ES) : Int := hrD α dd f S.1 S.2.1 S.2.2
def bS (S : mm_ES) : Prop := ∀ t, t < 3 → 0 ≤ S.1 t ∧ S.1 t ≤ 1000 ∧ -1 ≤ S.2.1 t ∧ S.2.1 t ≤ 999 ∧ 0 ≤ S.2.2 t ∧ S.2.2 t ≤ 255
def oS (α : mm_Mem) (dd t : Nat) (n : Int) (S : mm_ES) : Bool × mm_ES := if 0 ≤ n ∧ n < 1000 then (decide (hrS α dd (wpA α t n.toNat) S ≠ -1), hsS α dd (wpA α t n.toNat) S) else (false, S)
theorem hrS_r {α : mm_Mem} {dd : Nat} {f : Nat → Nat} {S : mm_ES} : -1 ≤ hrS α dd f S ∧ hrS α dd f S ≤ 2 := by
  unfold hrS hrD hrA
  split
  · omega
  · split
    · omega
    · split <;> omega
theorem bS_dB {k dd : Nat} {α : mm_Mem} {S : mm_ES} (w : WF k α) (d1 : (dd : Int) < α 0 6) (h : bS S) : dB (α 5 dd) (α 6 dd) (α 7 dd) S.1 S.2.1 S.2.2 := by
  have wd := w.2.2.1 dd d1
  exact ⟨by omega, h⟩
theorem bS_hs {k dd : Nat} {α : mm_Mem} {f : Nat → Nat} {S : mm_ES} (w : WF k α) (d1 : (dd : Int) < α 0 6) (h : bS S) : bS (hsS α dd f S) := (af_B (bS_dB w d1 h)).2
theorem bS_o {k dd t : Nat} {n : Int} {α : mm_Mem} {S : mm_ES} (w : WF k α) (d1 : (dd : Int) < α 0 6) (h : bS S) : bS (oS α dd t n S).2 := by
  unfold oS
  split
  · exact bS_hs w d1 h
  · exact h
theorem bS_0 {k dd : Nat} {α : mm_Mem} (w : WF k α) : bS (eS0 α dd) := fun t _ => w.2.2.2.2.1 _
/-- the counters of the doors for trying, so far -/
def gYn (n : Nat) (τ : mm_Mem) : Prop := ∀ o, 91 ≤ o → KD o = some (.inr 0) → 0 ≤ τ o 6 ∧ τ o 6 ≤ (n : Int) ∧ 0 ≤ τ o 7 ∧ τ o 7 ≤ (n : Int)
theorem gY.n {k : Nat} {τ : mm_Mem} (H : gY k τ) : gYn (4000 * k) τ := fun o h1 h2 => by have := H o h1 h2; omega
theorem gYn.k {n k : Nat} {τ : mm_Mem} (H : gYn n τ) (h : n ≤ 4000 * k) : gY k τ := fun o h1 h2 => by have := H o h1 h2; omega
theorem gYn.up {n m : Nat} {τ : mm_Mem} (H : gYn n τ) (h : n ≤ m) : gYn m τ := fun o h1 h2 => by have := H o h1 h2; omega
/-- a door with the kind and ears of a door of α, its ears as S -/
def tS (α : mm_Mem) (dd o : Nat) (S : mm_ES) (τ : mm_Mem) : Prop := dS τ o (α 5 dd) (α 6 dd) (α 7 dd) (earA α dd 0) (earA α dd 1) (earA α dd 2) S.1 S.2.1 S.2.2
theorem kdD_gap : ∀ o, o < 133 → ∀ o', o' < 133 → KD o = some (.inr 0) → KD o' = some (.inr 0) → o' = o ∨ (o' ≠ o ∧ o' ≠ o + 1 ∧ o' ≠ o + 2 ∧ o' ≠ o + 3) := by
  have ch : (List.range 133).all (fun o => if KD o = some (.inr 0) then decide (KD (o + 1) ≠ some (.inr 0) ∧ KD (o + 2) ≠ some (.inr 0) ∧ KD (o + 3) ≠ some (.inr 0)) else true) = true := by decide +kernel
  intro o ho o' ho' k1 k2
  have h := List.all_eq_true.mp ch o (List.mem_range.mpr ho)
  rw [if_pos k1] at h
  obtain ⟨h1, h2, h3⟩ := of_decide_eq_true h
  by_cases e : o' = o
  · exact Or.inl e
  · refine Or.inr ⟨e, fun e => ?_, fun e => ?_, fun e => ?_⟩
    · rw [e] at k2; exact h1 k2
    · rw [e] at k2; exact h2 k2
    · rw [e] at k2; exact h3 k2
section Trial
variable {E : mm_Env} {d k h b n : Nat} {α τ : mm_Mem} {Q : mm_Q0}
theorem RepC.y (H : RepC k h α τ) : gY k τ := H.2.2.2.2.2.2.2.2.2.2.2.2
/-- a change at one door for trying -/
theorem RepC.try1 {o : Nat} {τ' : mm_Mem} (w : WF k α) (H : RepC k h α τ) (ho : 91 ≤ o ∧ o + 3 < 133) (F : ∀ x, x ≠ o → x ≠ o + 1 → x ≠ o + 2 → x ≠ o + 3 → τ' x = τ x) (Y : gY k τ') : RepC k h α τ' := by
  have hw := w.le
  refine H.frame hw.2.1 hw.2.2.1 hw.1 (fun x j hr => ?_) (Nat.le_refl _) Y
  by_cases q : o ≤ x ∧ x < o + 4
  · exfalso
    simp [relC] at hr
    omega
  · rw [F x (by omega) (by omega) (by omega) (by omega)]
theorem c_tryHear {dd o : Nat} {f : Nat → Nat} {S : mm_ES} (w : WF k α) (hk : k ≤ 600) (H : RepC k h α τ) (T : tS α dd o S τ) (d1 : (dd : Int) < α 0 6) (hS : bS S) (Y : gYn n τ) (hn : n + 1 ≤ 4000 * k) (ho : 91 ≤ o ∧ o + 3 < 133) (hof : tp_ok f) (k1 : ∀ τ', RepC k h α τ' → (∀ x, x ≠ o → x ≠ o + 1 → x ≠ o + 2 → x ≠ o + 3 → τ' x = τ x) → tS α dd o (hsS α dd f S) τ' → gYn (n + 1) τ' → Q (some (vI (hrS α dd f S))) τ') : M0 E (d + 5) qX0_hear [vR o, vR 78, vI (tp f : Nat)] τ Q := by
  have y := Y o ho.1 T.1.1
  refine c_hear w H.gw hof T (bS_dB w d1 hS) (fun t ht => ?_) (by omega) (by omega) (fun τ' F' z0 D' g5 g6 g7 => ?_)
  · rw [e3_ear w] at ht; exact (earA_lt w ht).2.1
  · have Y' : gYn (n + 1) τ' := by
      intro x x1 x2
      have yx := Y x x1 x2
      rcases kdD_gap o (by omega) x (kdD_133 x x2) T.1.1 x2 with e | ⟨e1, e2, e3, e4⟩
      · subst e
        rw [g6, g7]
        split <;> omega
      · rw [F' x e1 e2 e3 e4]; omega
    exact k1 τ' (H.try1 w ho F' (Y'.k (by omega))) F' D' Y'
theorem c_tryCopy {dd o a : Nat} {S : mm_ES} (w : WF k α) (H : RepC k h α τ) (T : tS α dd a S τ) (ko : KD o = some (.inr 0)) (Y : gYn n τ) (hn : n ≤ 4000 * k) (ho : 91 ≤ o ∧ o + 3 < 133) (hap : a + 3 < o ∨ o + 3 < a) (k1 : ∀ τ', RepC k h α τ' → (∀ x, x ≠ o → x ≠ o + 1 → x ≠ o + 2 → x ≠ o + 3 → τ' x = τ x) → tS α dd o S τ' → gYn n τ' → Q none τ') : M0 E d qX0_copyFrom [vR o, vR a] τ Q := by
  refine c_copyFrom ko T hap (fun τ' F' z6 z7 D' => ?_)
  have Y' : gYn n τ' := by
    intro x x1 x2
    have yx := Y x x1 x2
    rcases kdD_gap o (by omega) x (kdD_133 x x2) ko x2 with e | ⟨e1, e2, e3, e4⟩
    · subst e; rw [z6, z7]; exact yx
    · rw [F' x e1 e2 e3 e4]; exact yx
  exact k1 τ' (H.try1 w ho F' (Y'.k hn)) F' D' Y'
theorem c_tryAt {a : Int} (w : WF k α) (H : RepC k h α τ) (ha : inR a) (Y : gYn n τ) (hn : n ≤ 4000 * k) (k1 : 0 ≤ a → a < α 0 6 → ∀ τ', RepC k h α τ' → FrC τ τ' → (∀ x, x < 91 → τ' x = τ x) → tS α a.toNat 91 (eS0 α a.toNat) τ' → gYn n τ' → Q (some (vB true)) τ') (k2 : ¬ (0 ≤ a ∧ a < α 0 6) → Q (some (vB false)) τ) : M0 E (d + 1) qX10_tryAt [vR 2, vI a] τ Q := by
  have hw := w.le
  have hh := H.2.2.1.1
  refine mX10_tryAt (c_doorAt w H ha (fun a0 a1 kd => ⟨_, rfl, fun _ => ?_, fun q => by omega⟩) (fun q => ⟨_, rfl, fun z => absurd rfl z, fun _ => k2 q⟩))
  have T : tS α a.toNat (h + 14 + 4 * a.toNat) (eS0 α a.toNat) τ := H.ds w (by omega)
  refine c_tryCopy w H T rfl Y hn (by omega) (by omega) (fun τ' H' F' T' Y' => ⟨rfl, k1 a0 a1 τ' H' (fun o ho => F' o (by omega) (by omega) (by omega) (by omega)) (fun x hx => F' x (by omega) (by omega) (by omega) (by omega)) T' Y'⟩)
theorem c_trialOpens {dd t : Nat} {x : Int} {S : mm_ES} (w : WF k α) (hk : k ≤ 600) (H : RepC k h α τ) (T : tS α dd 91 S τ) (d1 : (dd : Int) < α 0 6) (t1 : (t : Int) < α 0 5) (hS : bS S) (Y : gYn n τ) (hn : n + 1 ≤ 4000 * k) (hx : inR x) (k1 : ∀ τ', RepC k h α τ' → FrC τ τ' → (∀ x, x < 91 → τ' x = τ x) → tS α dd 91 (oS α dd t x S).2 τ' → gYn (n + 1) τ' → Q (some (vB (oS α dd t x S).1)) τ') : M0 E (d + 6) qX10_trialOpens [vR 2, vI (t : Int), vI x] τ Q := by
  unfold oS at k1
  refine mX10_trialOpens (c_isWhistle hx ⟨_, rfl, fun q => ?_, fun q => ?_⟩)
  · rw [if_neg (of_decide_eq_false q)] at k1
    exact k1 τ H FrC.rf (fun _ _ => rfl) T (Y.up (by omega))
  · have q := of_decide_eq_true q
    rw [if_pos q] at k1
    have ok := wpA_ok w (t := t) (n := x.toNat) t1 (by omega)
    refine c_tuneAt w H (by omega) t1 q.1 q.2 ⟨_, rfl, ?_⟩
    rw [Int.toNat_natCast]
    refine c_tryHear w hk H T d1 hS Y hn (by omega) ok (fun τ' H' F' T' Y' => ⟨_, rfl, ?_, fun z => ?_, fun z => ?_⟩)
    · have := hrS_r (α := α) (dd := dd) (f := wpA α t x.toNat) (S := S); exact ⟨by omega, by omega⟩
    · have := k1 τ' H' (fun o ho => F' o (by omega) (by omega) (by omega) (by omega)) (fun x hx => F' x (by omega) (by omega) (by omega) (by omega)) T' Y'
      rw [decide_eq_false (by simp [z])] at this; exact this
    · have := k1 τ' H' (fun o ho => F' o (by omega) (by omega) (by omega) (by omega)) (fun x hx => F' x (by omega) (by omega) (by omega) (by omega)) T' Y'
      rw [decide_eq_true z] at this; exact this
/-- what the reference keeps -/
def kpA (α τ : mm_Mem) : Prop := (∀ p, p < 4 → τ 189 p = α 12 p) ∧ ∀ e, e < 12 → τ 190 e = α 15 e ∧ τ 191 e = α 16 e ∧ τ 192 e = α 17 e
theorem m_keepsB : ∀ (m i : Nat) (τ : mm_Mem), i + m = 12 → RepM b α τ → (∀ p, p < 4 → τ 189 p = α 12 p) → (∀ e, e < i → τ 190 e = α 15 e ∧ τ 191 e = α 16 e ∧ τ 192 e = α 17 e) → (∀ τ', (∀ o, (o < 189 ∨ 192 < o) → τ' o = τ o) → RepM b α τ' → kpA α τ' → Q none τ') → V0 E d qX11_keeps 27 [some (vR 140), some (vI (i : Int))] [] τ Q
  | 0, i, τ, hi, H, c1, c2, k1 => bX11_keeps_27 ⟨⟨by omega, by omega⟩, fun _ => k1 τ (fun _ _ => rfl) H ⟨c1, fun e he => c2 e (by omega)⟩, fun q => by omega⟩
  | m + 1, i, τ, hi, H, c1, c2, k1 => by
    have en : ((i : Int) + 1) = ((i + 1 : Nat) : Int) := by omega
    obtain ⟨g1, g2, g3⟩ := H.ear (e := (i : Int)) (by omega) (by omega)
    rw [Int.toNat_natCast] at g1 g2 g3
    refine bX11_keeps_27 ⟨⟨by omega, by omega⟩, fun q => by omega, fun _ => ⟨by omega, by omega, by omega, by omega, by omega, by omega, by omega, by omega, by omega, by omega, by omega, by omega, ?_⟩⟩
    rw [en, Int.toNat_natCast, g1, g2, g3]
    refine m_keepsB m (i + 1) _ (by omega) (H.frame (fun o j hr => ?_)) (fun p hp => ?_) (fun e he => ?_) (fun τ' F' H' K' => k1 τ' (fun o ho => by rw [F' o ho, wr_obj (by omega), wr_obj (by omega), wr_obj (by omega)]) H' K')
    · have : o ≠ 190 ∧ o ≠ 191 ∧ o ≠ 192 := by
        refine ⟨fun e => ?_, fun e => ?_, fun e => ?_⟩ <;> (subst e; exact absurd hr (by simp [relM]))
      rw [wr_obj this.2.2, wr_obj this.2.1, wr_obj this.1]
    · rw [wr_obj (by omega), wr_obj (by omega), wr_obj (by omega)]; exact c1 p hp
    · by_cases q : e = i
      · subst q
        exact ⟨by rw [wr_obj (by omega), wr_obj (by omega), wr_same], by rw [wr_obj (by omega), wr_same], by rw [wr_same]⟩
      · obtain ⟨x1, x2, x3⟩ := c2 e (by omega)
        exact ⟨by rw [wr_obj (by omega), wr_obj (by omega), wr_row q]; exact x1, by rw [wr_obj (by omega), wr_row q, wr_obj (by omega)]; exact x2, by rw [wr_row q, wr_obj (by omega), wr_obj (by omega)]; exact x3⟩
theorem m_keepsA : ∀ (m i : Nat) (τ : mm_Mem), i + m = 4 → RepM b α τ → (∀ p, p < i → τ 189 p = α 12 p) → (∀ τ', (∀ o, (o < 189 ∨ 192 < o) → τ' o = τ o) → RepM b α τ' → kpA α τ' → Q none τ') → V0 E d qX11_keeps 2 [some (vR 140), some (vI (i : Int))] [] τ Q
  | 0, i, τ, hi, H, c1, k1 => bX11_keeps_2 ⟨⟨by omega, by omega⟩, fun _ => m_keepsB 12 0 τ (by omega) H (fun p hp => c1 p (by omega)) (fun e he => absurd he (Nat.not_lt_zero _)) k1, fun q => by omega⟩
  | m + 1, i, τ, hi, H, c1, k1 => by
    have en : ((i : Int) + 1) = ((i + 1 : Nat) : Int) := by omega
    obtain ⟨g1, g2, g3⟩ := H.cnt (p := (i : Int)) (by omega) (by omega)
    rw [Int.toNat_natCast] at g1 g2 g3
    refine bX11_keeps_2 ⟨⟨by omega, by omega⟩, fun q => by omega, fun _ => ⟨by omega, by omega, by omega, by omega, ?_⟩⟩
    rw [en, Int.toNat_natCast, g1]
    refine m_keepsA m (i + 1) _ (by omega) (H.frame (fun o j hr => ?_)) (fun p hp => ?_) (fun τ' F' H' K' => k1 τ' (fun o ho => by rw [F' o ho, wr_obj (by omega)]) H' K')
    · have : o ≠ 189 := by intro e; subst e; exact absurd hr (by simp [relM])
      rw [wr_obj this]
    · by_cases q : p = i
      · subst q; rw [wr_same]
      · rw [wr_row q]; exact c1 p (by omega)
theorem m_keeps (H : RepM b α τ) (k1 : ∀ τ', (∀ o, (o < 189 ∨ 192 < o) → τ' o = τ o) → RepM b α τ' → kpA α τ' → Q none τ') : M0 E d qX11_keeps [vR 140] τ Q :=
  mX11_keeps (m_keepsA 4 0 τ (by omega) H (fun p hp => absurd hp (Nat.not_lt_zero _)) k1)
theorem m_backB : ∀ (m i : Nat) (τ : mm_Mem), i + m = 12 → kpA α τ → (∀ e, e < i → τ 182 e = α 15 e ∧ τ 183 e = α 16 e ∧ τ 184 e = α 17 e) → (∀ τ', (∀ o, o ≠ 182 → o ≠ 183 → o ≠ 184 → τ' o = τ o) → (∀ e, e < 12 → τ' 182 e = α 15 e ∧ τ' 183 e = α 16 e ∧ τ' 184 e = α 17 e) → Q none τ') → V0 E d qX11_back 27 [some (vR 140), some (vI (i : Int))] [] τ Q
  | 0, i, τ, hi, K, c2, k1 => bX11_back_27 ⟨⟨by omega, by omega⟩, fun _ => k1 τ (fun _ _ _ _ => rfl) (fun e he => c2 e (by omega)), fun q => by omega⟩
  | m + 1, i, τ, hi, K, c2, k1 => by
    have en : ((i : Int) + 1) = ((i + 1 : Nat) : Int) := by omega
    obtain ⟨g1, g2, g3⟩ := K.2 i (by omega)
    refine bX11_back_27 ⟨⟨by omega, by omega⟩, fun q => by omega, fun _ => ⟨by omega, by omega, by omega, by omega, by omega, by omega, by omega, by omega, by omega, by omega, by omega, by omega, ?_⟩⟩
    rw [en, Int.toNat_natCast, g1, g2, g3]
    refine m_backB m (i + 1) _ (by omega) ⟨fun p hp => ?_, fun e he => ?_⟩ (fun e he => ?_) (fun τ' F' N' => k1 τ' (fun o o1 o2 o3 => by rw [F' o o1 o2 o3, wr_obj o3, wr_obj o2, wr_obj o1]) N')
    · rw [wr_obj (by omega), wr_obj (by omega), wr_obj (by omega)]; exact K.1 p hp
    · obtain ⟨x1, x2, x3⟩ := K.2 e he
      exact ⟨by rw [wr_obj (by omega), wr_obj (by omega), wr_obj (by omega)]; exact x1, by rw [wr_obj (by omega), wr_obj (by omega), wr_obj (by omega)]; exact x2, by rw [wr_obj (by omega), wr_obj (by omega), wr_obj (by omega)]; exact x3⟩
    · by_cases q : e = i
      · subst q
        exact ⟨by rw [wr_obj (by omega), wr_obj (by omega), wr_same], by rw [wr_obj (by omega), wr_same], by rw [wr_same]⟩
      · obtain ⟨x1, x2, x3⟩ := c2 e (by omega)
        exact ⟨by rw [wr_obj (by omega), wr_obj (by omega), wr_row q]; exact x1, by rw [wr_obj (by omega), wr_row q, wr_obj (by omega)]; exact x2, by rw [wr_row q, wr_obj (by omega), wr_obj (by omega)]; exact x3⟩
theorem m_backA : ∀ (m i : Nat) (τ : mm_Mem), i + m = 4 → kpA α τ → (∀ p, p < i → τ 179 p = α 12 p) → (∀ τ', (∀ o, o ≠ 179 → o ≠ 182 → o ≠ 183 → o ≠ 184 → τ' o = τ o) → (∀ p, p < 4 → τ' 179 p = α 12 p) → (∀ e, e < 12 → τ' 182 e = α 15 e ∧ τ' 183 e = α 16 e ∧ τ' 184 e = α 17 e) → Q none τ') → V0 E d qX11_back 2 [some (vR 140), some (vI (i : Int))] [] τ Q
  | 0, i, τ, hi, K, c1, k1 => bX11_back_2 ⟨⟨by omega, by omega⟩, fun _ => m_backB 12 0 τ (by omega) K (fun e he => absurd he (Nat.not_lt_zero _)) (fun τ' F' N' => k1 τ' (fun o _ o1 o2 o3 => F' o o1 o2 o3) (fun p hp => by rw [F' 179 (by omega) (by omega) (by omega)]; exact c1 p (by omega)) N'), fun q => by omega⟩
  | m + 1, i, τ, hi, K, c1, k1 => by
    have en : ((i : Int) + 1) = ((i + 1 : Nat) : Int) := by omega
    have g1 := K.1 i (by omega)
    refine bX11_back_2 ⟨⟨by omega, by omega⟩, fun q => by omega, fun _ => ⟨by omega, by omega, by omega, by omega, ?_⟩⟩
    rw [en, Int.toNat_natCast, g1]
    refine m_backA m (i + 1) _ (by omega) ⟨fun p hp => ?_, fun e he => ?_⟩ (fun p hp => ?_) (fun τ' F' N1 N2 => k1 τ' (fun o o0 o1 o2 o3 => by rw [F' o o0 o1 o2 o3, wr_obj o0]) N1 N2)
    · rw [wr_obj (by omega)]; exact K.1 p hp
    · obtain ⟨x1, x2, x3⟩ := K.2 e he
      exact ⟨by rw [wr_obj (by omega)]; exact x1, by rw [wr_obj (by omega)]; exact x2, by rw [wr_obj (by omega)]; exact x3⟩
    · by_cases q : p = i
      · subst q; rw [wr_same]
      · rw [wr_row q]; exact c1 p (by omega)
theorem m_back {α' : mm_Mem} (H : RepM b α' τ) (r : ∀ j, j ≠ 12 → j ≠ 15 → j ≠ 16 → j ≠ 17 → α' j = α j) (K : kpA α τ) (k1 : ∀ τ', (∀ o, o ≠ 179 → o ≠ 182 → o ≠ 183 → o ≠ 184 → τ' o = τ o) → RepM b α τ' → kpA α τ' → Q none τ') : M0 E d qX11_back [vR 140] τ Q := by
  refine mX11_back (m_backA 4 0 τ (by omega) K (fun p hp => absurd hp (Nat.not_lt_zero _)) (fun τ' F' N1 N2 => k1 τ' F' ?_ ⟨fun p hp => ?_, fun e he => ?_⟩))
  · obtain ⟨s1, s2, s3⟩ := H.2.2.2.2.2.2.2.1
    refine H.cst (fun j hj => (r j (by omega) (by omega) (by omega) (by omega)).symm) (fun o j _ ho => by rw [F' o (by omega) (by omega) (by omega) (by omega)]) ⟨fun p hp => ?_, N2, fun x hx => ?_⟩
    · have := s1 p hp
      rw [r 13 (by omega) (by omega) (by omega) (by omega), r 14 (by omega) (by omega) (by omega) (by omega)] at this
      rw [F' 180 (by omega) (by omega) (by omega) (by omega), F' 181 (by omega) (by omega) (by omega) (by omega)]
      exact ⟨N1 p hp, this.2⟩
    · have := s3 x hx
      rw [r 18 (by omega) (by omega) (by omega) (by omega), r 19 (by omega) (by omega) (by omega) (by omega), r 20 (by omega) (by omega) (by omega) (by omega)] at this
      rw [F' 185 (by omega) (by omega) (by omega) (by omega), F' 186 (by omega) (by omega) (by omega) (by omega), F' 187 (by omega) (by omega) (by omega) (by omega)]
      exact this
  · rw [F' 189 (by omega) (by omega) (by omega) (by omega)]; exact K.1 p hp
  · rw [F' 190 (by omega) (by omega) (by omega) (by omega), F' 191 (by omega) (by omega) (by omega) (by omega), F' 192 (by omega) (by omega) (by omega) (by omega)]; exact K.2 e he
/-- a count and the ears of a door new -/
def stE (α : mm_Mem) (p : Nat) (c : Int) (dd : Nat) (S : mm_ES) : mm_Mem := setE (wr α 12 p c) dd S.1 S.2.1 S.2.2
theorem stE_o {p j dd : Nat} {c : Int} {S : mm_ES} (h1 : j ≠ 12) (h : j < 15 ∨ 17 < j) : stE α p c dd S j = α j := by unfold stE; rw [setE_o h, wr_obj h1]
theorem stE_0 {p dd : Nat} : stE α p (α 12 p) dd (eS0 α dd) = α := by
  unfold stE
  rw [wr_id]
  exact setE_id
theorem stE_12 {p dd : Nat} {c : Int} {S : mm_ES} : stE α p c dd S 12 p = c := by unfold stE; rw [setE_o (by omega), wr_same]
theorem hr_12 {p dd : Nat} {c : Int} {f : Nat → Nat} {S : mm_ES} : hrD (wr α 12 p c) dd f S.1 S.2.1 S.2.2 = hrS α dd f S ∧ afD (wr α 12 p c) dd f S.1 S.2.1 S.2.2 = stE α p c dd (hsS α dd f S) := by
  have r : ∀ j, j ≠ 12 → wr α 12 p c j = α j := fun j hj => wr_obj hj
  have e : earA (wr α 12 p c) = earA α := earA_cg (by rw [r 0 (by omega)]) (r 8 (by omega)) (r 9 (by omega))
  constructor
  · unfold hrS hrD
    rw [hrA_cg (r 0 (by omega)) (r 21 (by omega)), e, r 5 (by omega), r 6 (by omega), r 7 (by omega)]
  · unfold afD stE hsS
    rw [afC_cg (r 0 (by omega)) (r 21 (by omega)), afH_cg (r 0 (by omega)) (r 21 (by omega)), afT_cg (r 0 (by omega)) (r 21 (by omega)), e, r 5 (by omega), r 6 (by omega), r 7 (by omega)]
theorem m_isLetIn {p : Nat} {c : Int} {S : mm_ES} (w : WF k α) (H : RepM b (stE α p c (α 8 p).toNat S) τ) (p1 : (p : Int) < α 0 7) (hc : 0 ≤ c) (hS : bS S) (k1 : ∀ τ', RepM b (stE α p (if c < 1000 then c + 1 else c) (α 8 p).toNat (oS α (α 8 p).toNat (α 9 p).toNat c S).2) τ' → (∀ o, o ≠ 140 → o ≠ 179 → o ≠ 182 → o ≠ 183 → o ≠ 184 → o ≠ 188 → τ' o = τ o) → Q (some (vB (oS α (α 8 p).toNat (α 9 p).toNat c S).1)) τ') : M0 E (d + 5) qX11_isLetIn [vR 140, vI (p : Int)] τ Q := by
  have hw := w.le
  have wp := w.2.2.2.1 p p1
  unfold oS at k1
  refine mX11_isLetIn (m_canCome H (by omega) (by omega) ⟨_, rfl, fun q => ?_, fun q => ?_⟩)
  · rw [Int.toNat_natCast, stE_12] at q
    have q := of_decide_eq_true q
    rw [if_pos (show 0 ≤ c ∧ c < 1000 from ⟨hc, q⟩), if_pos q] at k1
    have hb := H.bk
    obtain ⟨g1, g2, g3, g4⟩ := H.pers (p := (p : Int)) (by omega) (by rw [stE_o (by omega) (by omega)]; exact p1)
    have cc := (H.cnt (p := (p : Int)) (by omega) (by omega)).1
    rw [Int.toNat_natCast, stE_12] at cc
    rw [Int.toNat_natCast, stE_o (by omega) (by omega)] at g2
    have w1 : WF k (stE α p c (α 8 p).toNat S) := (w.cnt1 (p := p) ⟨hc, by omega⟩).setE hS
    refine m_person4 H ⟨_, rfl, by omega, by omega, by omega, by omega, ?_⟩
    rw [Int.toNat_natCast, g2, cc]
    refine m_whistles w1 H (by omega) (by rw [stE_o (by omega) (by omega)]; omega) hc q (fun τ1 F1 G1 M1 H1 => ⟨rfl, by omega, by omega, by omega, by omega, ?_, ?_⟩)
    · have c1 := (H1.cnt (p := (p : Int)) (by omega) (by omega)).1
      rw [Int.toNat_natCast, stE_12] at c1
      rw [c1]; exact ⟨by omega, by omega⟩
    · have c1 := (H1.cnt (p := (p : Int)) (by omega) (by omega)).1
      rw [Int.toNat_natCast, stE_12] at c1
      rw [c1]
      have ewp : wpA (stE α p c (α 8 p).toNat S) (α 9 p).toNat c.toNat = wpA α (α 9 p).toNat c.toNat := by
        funext i; unfold wpA wnA; rw [stE_o (by omega) (by omega), stE_o (by omega) (by omega)]
      rw [ewp] at M1
      have H2 : RepM b (stE α p (c + 1) (α 8 p).toNat S) (wr τ1 179 p (c + 1)) := by
        have := H1.cnt1 (p := p) (v := c + 1)
        have e : wr (stE α p c (α 8 p).toNat S) 12 p (c + 1) = stE α p (c + 1) (α 8 p).toNat S := by
          funext x y
          by_cases e : x = 12
          · subst e
            by_cases z : y = p
            · subst z; rw [wr_same, stE_12]
            · rw [wr_row z]; unfold stE; rw [setE_o (by omega), setE_o (by omega), wr_row z, wr_row z]
          · rw [wr_obj e]; unfold stE setE; rw [wr_obj e, wr_obj e]
        rw [e] at this; exact this
      obtain ⟨u1, u2, u3, u4⟩ := H2.pers (p := (p : Int)) (by omega) (by rw [stE_o (by omega) (by omega)]; exact p1)
      rw [Int.toNat_natCast, stE_o (by omega) (by omega)] at u1
      have hb2 := H2.bk
      have w2 : WF k (wr α 12 p (c + 1)) := w.cnt1 ⟨by omega, by omega⟩
      have fv := fv_wp w (t := (α 9 p).toNat) (n := c.toNat) (by omega) (by omega)
      refine m_person4 H2 ⟨_, rfl, by omega, by omega, ?_⟩
      rw [u1, show α 8 p = (((α 8 p).toNat : Nat) : Int) by omega]
      refine m_hears w2 (fvA_cg (wr_obj (by omega)) fv) (by rw [wr_obj (by omega)]; omega) hS H2 (mH_c2 (by rw [wr_obj (by omega), stE_o (by omega) (by omega)]) (by rw [wr_obj (by omega), stE_o (by omega) (by omega)]) (wr_obj (by omega)) (by rw [wr_obj (by omega)]) M1) (fun τ3 F3 H3 => ?_)
      obtain ⟨r1, r2⟩ := hr_12 (α := α) (p := p) (dd := (α 8 p).toNat) (c := c + 1) (f := wpA α (α 9 p).toNat c.toNat) (S := S)
      rw [r2] at H3
      rw [r1]
      have rr := hrS_r (α := α) (dd := (α 8 p).toNat) (f := wpA α (α 9 p).toNat c.toNat) (S := S)
      have FF : ∀ o, o ≠ 140 → o ≠ 179 → o ≠ 182 → o ≠ 183 → o ≠ 184 → o ≠ 188 → τ3 o = τ o := fun o o0 o1 o2 o3 o4 o5 => by rw [F3 o o2 o3 o4, wr_obj o1, F1 o o5 o0]
      refine ⟨_, rfl, ⟨by omega, by omega⟩, fun z => ?_, fun z => ?_⟩
      · have := k1 τ3 H3 FF
        rw [decide_eq_false (by simp [z])] at this; exact this
      · have := k1 τ3 H3 FF
        rw [decide_eq_true z] at this; exact this
  · rw [Int.toNat_natCast, stE_12] at q
    have q := of_decide_eq_false q
    rw [if_neg (show ¬ (0 ≤ c ∧ c < 1000) from fun z => q z.2), if_neg q] at k1
    exact k1 τ H (fun _ _ _ _ _ _ _ => rfl)
end Trial
