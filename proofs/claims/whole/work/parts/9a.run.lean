/-! both run a row of steps -/
def stA (o : Nat) : List Int → mm_Mem → Prop
  | [], _ => True
  | x :: s, τ => τ o s.length = x ∧ stA o s τ
theorem stA.wr {o k : Nat} {v : Int} {τ : mm_Mem} : ∀ {s : List Int}, s.length ≤ k → stA o s τ → stA o s (wr τ o k v)
  | [], _, _ => trivial
  | x :: s, hk, h => by
    have hk : s.length + 1 ≤ k := hk
    exact ⟨by rw [wr_row (by omega)]; exact h.1, stA.wr (by omega) h.2⟩
theorem stA.cg {o : Nat} {τ τ' : mm_Mem} (e : τ' o = τ o) : ∀ {s : List Int}, stA o s τ → stA o s τ'
  | [], _ => trivial
  | x :: s, h => ⟨by rw [e]; exact h.1, stA.cg e h.2⟩
def StR (o : Nat) (s : List Int) (τ : mm_Mem) : Prop := τ o 8 = (s.length : Int) ∧ stA (o + 7) s τ
def frU (o : Nat) (τ τ' : mm_Mem) : Prop := (∀ x, x ≠ o → x ≠ o + 7 → τ' x = τ x) ∧ ∀ i, i ≠ 8 → τ' o i = τ o i
theorem frU.rf {o : Nat} {τ : mm_Mem} : frU o τ τ := ⟨fun _ _ _ => rfl, fun _ _ => rfl⟩
theorem frU.tr {o : Nat} {a b c : mm_Mem} (h : frU o a b) (h' : frU o b c) : frU o a c := ⟨fun x p q => (h'.1 x p q).trans (h.1 x p q), fun i p => (h'.2 i p).trans (h.2 i p)⟩
section Run
variable {E : mm_Env} {d : Nat} {τ : mm_Mem} {Q : mm_Q0} {o : Nat}
theorem c_push {s : List Int} {x : Int} (kd : KD o = some (.inr 5)) (hx : inR x) (hs : s.length < 64) (H : StR o s τ) (k1 : ∀ τ', StR o (x :: s) τ' → frU o τ τ' → Q none τ') : M0 E d qX5_push [vR o, vI x] τ Q := by
  refine mX5_push kd ?_
  rw [wr_obj (show o ≠ o + 7 by omega), H.1, Int.toNat_natCast]
  refine ⟨fun q => by omega, fun _ => ⟨by omega, by omega, hx, ⟨by omega, by omega⟩, k1 _ ⟨?_, ?_, ?_⟩ ⟨fun y p q => by rw [wr_obj p, wr_obj q], fun i p => by rw [wr_row p, wr_obj (by omega)]⟩⟩⟩
  · rw [wr_same]; show _ = ((s.length + 1 : Nat) : Int); omega
  · rw [wr_obj (by omega), wr_same]
  · exact stA.cg (wr_obj (by omega)) (stA.wr (Nat.le_refl _) H.2)
theorem c_pop {s : List Int} {x : Int} (kd : KD o = some (.inr 5)) (hs : s.length < 64) (H : StR o (x :: s) τ) (k1 : ∀ τ', StR o s τ' → frU o τ τ' → Q (some (vI x)) τ') : M0 E d qX5_pop [vR o] τ Q := by
  have h1 : τ o 8 = (s.length : Int) + 1 := by rw [H.1]; show ((s.length + 1 : Nat) : Int) = _; omega
  refine mX5_pop kd ?_
  rw [h1, show (s.length : Int) + 1 - 1 = (s.length : Int) by omega, Int.toNat_natCast, wr_obj (show o + 7 ≠ o by omega), H.2.1]
  exact ⟨fun _ => ⟨⟨by omega, by omega⟩, by omega, by omega, k1 _ ⟨wr_same, stA.cg (wr_obj (by omega)) H.2.2⟩ ⟨fun y p q => wr_obj p, fun i p => wr_row p⟩⟩, fun q => by omega⟩
theorem c_clamp {v : Int} (hv : inL v) (k1 : Q (some (vI (clP v))) τ) : M0 E d qJ9_min_f86c9 [vL 1000000, vL v] τ (fun v τ2 => ∃ r3 : Int, v = some (vL r3) ∧ M0 E d qJ9_max_f86c9 [vL (-1000000), vL r3] τ2 (fun v τ4 => ∃ r5 : Int, v = some (vL r5) ∧ inL r5 ∧ Q (some (vI r5)) τ4)) := by
  obtain ⟨h1, h2⟩ := hv
  have mx : ∀ w : Int, inL w → max (-1000000) w = clP v → M0 E d qJ9_max_f86c9 [vL (-1000000), vL w] τ (fun v τ4 => ∃ r5 : Int, v = some (vL r5) ∧ inL r5 ∧ Q (some (vI r5)) τ4) := fun w hw e => by
    rw [← e] at k1
    refine mJ9_max_f86c9 ⟨⟨by omega, by omega⟩, hw, fun q => ⟨_, rfl, hw, ?_⟩, fun q => ⟨_, rfl, ⟨by omega, by omega⟩, ?_⟩⟩
    · rw [show max (-1000000) w = w by omega] at k1; exact k1
    · rw [show max (-1000000) w = -1000000 by omega] at k1; exact k1
  refine mJ9_min_f86c9 ⟨⟨by omega, by omega⟩, ⟨h1, h2⟩, fun q => ⟨_, rfl, mx v ⟨h1, h2⟩ (by unfold clP; omega)⟩, fun q => ⟨_, rfl, mx _ ⟨by omega, by omega⟩ (by unfold clP; omega)⟩⟩
theorem cl_id {v : Int} (h : bd6 v) : clP v = v := by unfold bd6 at h; unfold clP; omega
theorem bd6_L {v : Int} (h : bd6 v) : inL v := ⟨by have := h.1; omega, by have := h.2; omega⟩
theorem bd6_R {v : Int} (h : bd6 v) : inR v := ⟨by have := h.1; omega, by have := h.2; omega⟩
theorem tm_b {l r : Int} (hr : r ≠ 0) (h : bd6 r) : -1000000 ≤ Int.tmod l r ∧ Int.tmod l r ≤ 1000000 := by
  have g : ∀ {l r : Int}, 0 < r → r ≤ 1000000 → -1000000 ≤ Int.tmod l r ∧ Int.tmod l r ≤ 1000000 := fun {l r} h1 h2 => by
    by_cases q : 0 ≤ l
    · rw [tm_pos q]; have := Int.emod_nonneg l (by omega : r ≠ 0); have := Int.emod_lt_of_pos l h1; omega
    · have e : Int.tmod l r = -Int.tmod (-l) r := by rw [Int.neg_tmod, Int.neg_neg]
      rw [e, tm_pos (by omega)]; have := Int.emod_nonneg (-l) (by omega : r ≠ 0); have := Int.emod_lt_of_pos (-l) h1; omega
  obtain ⟨h1, h2⟩ := h
  by_cases q : 0 < r
  · exact g q (by omega)
  · have := g (l := l) (r := -r) (by omega) (by omega)
    rw [Int.tmod_neg] at this; exact this
theorem mul_6 {l r : Int} (hl : bd6 l) (hr : bd6 r) : -1000000000000 ≤ l * r ∧ l * r ≤ 1000000000000 := by
  obtain ⟨a, b⟩ := hl
  obtain ⟨c, e⟩ := hr
  have h1 : (l.natAbs * r.natAbs : Nat) ≤ 1000000 * 1000000 := Nat.mul_le_mul (by omega) (by omega)
  have h2 : (l * r).natAbs = l.natAbs * r.natAbs := Int.natAbs_mul l r
  omega
theorem td_b {l r : Int} (hr : r ≠ 0) (h : bd6 l) : -1000001 ≤ Int.tdiv l r ∧ Int.tdiv l r ≤ 1000001 := by
  have b := dv_b (r := r) h
  have t := dvP_t (l := l) hr
  unfold bd6 at b
  split at t <;> omega
theorem c_join {x l r : Int} (hx : -19 ≤ x ∧ x ≤ -8) (hl : bd6 l) (hr : bd6 r) (h18 : x ≤ -18 → b01 l ∧ b01 r) (k1 : Q (some (vI (jnP x l r))) τ) : M0 E (d + 1) qX5_join [vI x, vL l, vL r] τ Q := by
  have Ll := bd6_L hl
  have Lr := bd6_L hr
  have cl : ∀ {v : Int}, bd6 v → jnP x l r = v → M0 E d qJ9_min_f86c9 [vL 1000000, vL v] τ (fun v τ2 => ∃ r3 : Int, v = some (vL r3) ∧ M0 E d qJ9_max_f86c9 [vL (-1000000), vL r3] τ2 (fun v τ4 => ∃ r5 : Int, v = some (vL r5) ∧ inL r5 ∧ Q (some (vI r5)) τ4)) := fun {v} hv e => c_clamp (bd6_L hv) (by rw [cl_id hv, ← e]; exact k1)
  have hxr : inR x := ⟨by omega, by omega⟩
  have hx' : x = -8 ∨ x = -9 ∨ x = -10 ∨ x = -11 ∨ x = -12 ∨ x = -13 ∨ x = -14 ∨ x = -15 ∨ x = -16 ∨ x = -17 ∨ x = -18 ∨ x = -19 := by omega
  have b0 : bd6 0 := ⟨by omega, by omega⟩
  have b1 : bd6 1 := ⟨by omega, by omega⟩
  have hl6 := hl
  have hr6 := hr
  unfold bd6 at hl hr
  refine mX5_join ⟨hxr, fun q => ?_, fun q => ?_, fun q => ⟨Ll, Lr, fun q2 => ?_, fun q2 => ?_⟩, fun q => ⟨Ll, Lr, fun q2 => ?_, fun q2 => ?_⟩, fun q => ⟨Ll, Lr, fun q2 => ?_, fun q2 => ?_⟩, fun q => ?_, fun q => ?_, fun q => ⟨Lr, fun q2 => ?_, fun q2 => ?_⟩, fun q => ⟨Lr, fun q2 => ?_, fun q2 => ?_⟩, fun q => ?_, fun q => ?_, fun q => ?_⟩
  · have h : x = -19 := by omega
    subst h
    obtain ⟨h1, h2⟩ := h18 (by omega)
    rcases h1 with h1 | h1 <;> subst h1 <;> rcases h2 with h2 | h2 <;> subst h2
    · exact cl (v := mm_lor 0 0) (by rw [show mm_lor 0 0 = 0 by decide +kernel]; exact b0) (by decide +kernel)
    · exact cl (v := mm_lor 0 1) (by rw [show mm_lor 0 1 = 1 by decide +kernel]; exact b1) (by decide +kernel)
    · exact cl (v := mm_lor 1 0) (by rw [show mm_lor 1 0 = 1 by decide +kernel]; exact b1) (by decide +kernel)
    · exact cl (v := mm_lor 1 1) (by rw [show mm_lor 1 1 = 1 by decide +kernel]; exact b1) (by decide +kernel)
  · subst q
    obtain ⟨h1, h2⟩ := h18 (by omega)
    rcases h1 with h1 | h1 <;> subst h1 <;> rcases h2 with h2 | h2 <;> subst h2
    · exact cl (v := mm_land 0 0) (by rw [show mm_land 0 0 = 0 by decide +kernel]; exact b0) (by decide +kernel)
    · exact cl (v := mm_land 0 1) (by rw [show mm_land 0 1 = 0 by decide +kernel]; exact b0) (by decide +kernel)
    · exact cl (v := mm_land 1 0) (by rw [show mm_land 1 0 = 0 by decide +kernel]; exact b0) (by decide +kernel)
    · exact cl (v := mm_land 1 1) (by rw [show mm_land 1 1 = 1 by decide +kernel]; exact b1) (by decide +kernel)
  · subst q; exact cl b0 (by show (if l = r then (1 : Int) else 0) = 0; rw [if_neg q2])
  · subst q; exact cl b1 (by show (if l = r then (1 : Int) else 0) = 1; rw [if_pos q2])
  · subst q; exact cl b0 (by show (if r < l then (1 : Int) else 0) = 0; rw [if_neg (by omega)])
  · subst q; exact cl b1 (by show (if r < l then (1 : Int) else 0) = 1; rw [if_pos (by omega)])
  · subst q; exact cl b0 (by show (if l < r then (1 : Int) else 0) = 0; rw [if_neg (by omega)])
  · subst q; exact cl b1 (by show (if l < r then (1 : Int) else 0) = 1; rw [if_pos (by omega)])
  · subst q
    refine mJ9_max_f86c9 ⟨Ll, Lr, fun q => ⟨_, rfl, cl hr6 (by show max l r = r; omega)⟩, fun q => ⟨_, rfl, cl hl6 (by show max l r = l; omega)⟩⟩
  · subst q
    refine mJ9_min_f86c9 ⟨Ll, Lr, fun q => ⟨_, rfl, cl hr6 (by show min l r = r; omega)⟩, fun q => ⟨_, rfl, cl hl6 (by show min l r = l; omega)⟩⟩
  · subst q
    have t := tm_b (l := l) q2 hr6
    have d2 := Int.mul_tdiv_add_tmod l r
    have ej : ∀ v, (if ((0 ≤ l ↔ 0 ≤ r) ∨ Int.tmod l r = 0) then Int.tmod l r else Int.tmod l r + r) = v → jnP (-12) l r = v := fun v e => by
      show mdP l r = v
      unfold mdP
      rw [if_neg q2, dvP_t q2, ← e]
      split
      · omega
      · rw [Int.mul_sub, Int.mul_one]; omega
    have bm : ∀ v, (if ((0 ≤ l ↔ 0 ≤ r) ∨ Int.tmod l r = 0) then Int.tmod l r else Int.tmod l r + r) = v → bd6 v := fun v e => by
      have := md_b (l := l) hr6
      rw [show mdP l r = v from ej v e] at this; exact this
    refine mJ9_floorMod_f86c9 ⟨Ll, Lr, q2, zm_inL _, fun z => ⟨_, rfl, ?_⟩, fun z => ⟨⟨by omega, by omega⟩, fun z2 => ⟨_, rfl, ?_⟩, fun z2 => ⟨_, rfl, ?_⟩⟩⟩
    · rw [lxor_sign Ll Lr] at z
      exact cl (bm _ (by rw [if_pos (Or.inl z)])) (ej _ (by rw [if_pos (Or.inl z)]))
    · exact cl (bm _ (by rw [if_pos (Or.inr z2)])) (ej _ (by rw [if_pos (Or.inr z2)]))
    · rw [lxor_sign Ll Lr] at z
      exact cl (bm _ (by rw [if_neg (fun y => y.elim z z2)])) (ej _ (by rw [if_neg (fun y => y.elim z z2)]))
  · subst q; exact cl b0 (by show mdP l r = 0; unfold mdP; rw [if_pos q2])
  · subst q
    have t := td_b (l := l) q2 hl6
    have t2 := tm_b (l := l) q2 hr6
    have d2 := Int.mul_tdiv_add_tmod l r
    have d3 : Int.tdiv l r * r = l - Int.tmod l r := by rw [Int.mul_comm]; omega
    have ej : ∀ v, (if ((0 ≤ l ↔ 0 ≤ r) ∨ Int.tmod l r = 0) then Int.tdiv l r else Int.tdiv l r - 1) = v → jnP (-11) l r = v := fun v e => by
      show dvP l r = v
      rw [dvP_t q2, e]
    have bm : ∀ v, (if ((0 ≤ l ↔ 0 ≤ r) ∨ Int.tmod l r = 0) then Int.tdiv l r else Int.tdiv l r - 1) = v → bd6 v := fun v e => by
      have := dv_b (r := r) hl6
      rw [show dvP l r = v from ej v e] at this; exact this
    refine mJ9_floorDiv_f86c9 ⟨Ll, Lr, q2, zm_inL _, fun z => ⟨_, rfl, ?_⟩, fun z => ⟨⟨by omega, by omega⟩, fun z2 => ⟨_, rfl, ?_⟩, fun z2 => ⟨_, rfl, ?_⟩⟩⟩
    · rw [lxor_sign Ll Lr] at z
      exact cl (bm _ (by rw [if_pos (Or.inl z)])) (ej _ (by rw [if_pos (Or.inl z)]))
    · have z2 : Int.tmod l r = 0 := by omega
      exact cl (bm _ (by rw [if_pos (Or.inr z2)])) (ej _ (by rw [if_pos (Or.inr z2)]))
    · rw [lxor_sign Ll Lr] at z
      have z2 : ¬ Int.tmod l r = 0 := by omega
      exact cl (bm _ (by rw [if_neg (fun y => y.elim z z2)])) (ej _ (by rw [if_neg (fun y => y.elim z z2)]))
  · subst q; exact cl b0 (by show dvP l r = 0; unfold dvP; rw [if_pos q2])
  · subst q
    have m := mul_6 hl6 hr6
    exact c_clamp ⟨by omega, by omega⟩ k1
  · subst q; exact c_clamp ⟨by omega, by omega⟩ k1
  · subst q; exact c_clamp ⟨by omega, by omega⟩ k1
/-- the class's steps lie from p on -/
def stepsAt (o p : Nat) (c : List Int) (τ : mm_Mem) : Prop := ∀ j, j < c.length → τ o (p + j) = c.getD j 0
theorem stepsAt.tl {p : Nat} {x : Int} {c : List Int} (h : stepsAt o p (x :: c) τ) : τ o p = x ∧ stepsAt o (p + 1) c τ := by
  refine ⟨by have := h 0 (Nat.zero_lt_succ _); simpa using this, fun j hj => ?_⟩
  have := h (j + 1) (by show j + 1 < c.length + 1; omega)
  rw [show p + 1 + j = p + (j + 1) by omega, this]; simp
theorem c_runL {F : Nat → Int} (kd : KD o = some (.inr 5)) (hF : ∀ i, i < 6 → bd6 (F i)) {v : Int} : ∀ (c : List Int) (p : Nat) (s : List Int) (τ : mm_Mem), stepsAt (o + 1) p c τ → ((p + c.length : Nat) : Int) ≤ τ o 1 → τ o 1 ≤ 1600 → (∀ i, i < 6 → τ (o + 6) i = F i) → s.length ≤ 64 → StR o s τ → okC F 64 c s → evC F c s = [v] → (∀ τ', frU o τ τ' → Q (some (vI v)) τ') → V0 E (d + 2) qX5_run 7 [some (vR o), none, some (vI ((p + c.length : Nat) : Int)), some (vI (p : Int)), none, none] [] τ Q := by
  intro c
  induction c with
  | nil =>
    intro p s τ _ hp h1 _ hs H _ ev k1
    have ev : s = [v] := ev
    subst ev
    have hp : (p : Int) ≤ τ o 1 := hp
    show V0 E (d + 2) qX5_run 7 [some (vR o), none, some (vI (p : Int)), some (vI (p : Int)), none, none] [] τ Q
    refine bX5_run_7 kd ⟨⟨by omega, by omega⟩, ⟨by omega, by omega⟩, fun _ => c_pop kd (by show (0 : Nat) < 64; omega) H (fun τ' _ F2 => ⟨_, rfl, k1 τ' F2⟩), fun q => absurd (Int.le_refl _) q⟩
  | cons x c ih =>
    intro p s τ hst hp h1 hf hs H ok ev k1
    obtain ⟨ex, hst'⟩ := hst.tl
    have hl : (x :: c).length = c.length + 1 := rfl
    obtain ⟨⟨k19, k99, kp, k7, kb⟩, ok'⟩ := ok
    have nx : ∀ τ', StR o (stC F x s) τ' → (stC F x s).length ≤ 64 → frU o τ τ' → V0 E (d + 2) qX5_run 7 [some (vR o), none, some (vI ((p + (x :: c).length : Nat) : Int)), some (vI ((p : Int) + 1)), none, none] [] τ' Q := fun τ' H' hs' F' => by
      rw [show p + (x :: c).length = p + 1 + c.length by omega, show (p : Int) + 1 = ((p + 1 : Nat) : Int) by omega]
      exact ih (p + 1) (stC F x s) τ' (fun j hj => by rw [F'.1 (o + 1) (by omega) (by omega)]; exact hst' j hj) (by rw [F'.2 1 (by omega)]; omega) (by rw [F'.2 1 (by omega)]; exact h1) (fun i hi => by rw [F'.1 (o + 6) (by omega) (by omega)]; exact hf i hi) hs' H' ok' ev (fun τ2 F2 => k1 τ2 (F'.tr F2))
    refine bX5_run_7 kd ⟨⟨by omega, by omega⟩, ⟨by omega, by omega⟩, fun q => by omega, fun _ => ⟨fun q => by omega, fun _ => ⟨by omega, by omega, ?_⟩⟩⟩
    rw [Int.toNat_natCast, ex]
    refine ⟨fun q => ⟨fun q2 => ⟨fun q3 => ?_, fun q3 => ?_⟩, fun q2 => ⟨by omega, by omega, ?_⟩⟩, fun q => ?_⟩
    · obtain ⟨b, a, t, es, ha, hb, h18⟩ := kb (by omega)
      have est : stC F x s = jnP x a b :: t := by rw [es]; unfold stC; rw [if_neg (by omega), if_neg (by omega), if_neg (by omega)]
      rw [est] at nx
      rw [es] at H hs
      have hs : t.length + 2 ≤ 64 := hs
      refine c_pop kd (by show t.length + 1 < 64; omega) H (fun τ1 H1 F1 => ⟨_, rfl, c_pop kd (by omega) H1 (fun τ2 H2 F2 => ⟨_, rfl, bd6_R ha, bd6_R hb, c_join ⟨by omega, by omega⟩ ha hb h18 ⟨_, rfl, c_push kd ?_ (by omega) H2 (fun τ3 H3 F3 => ⟨rfl, nx τ3 H3 (by show t.length + 1 ≤ 64; omega) (F1.tr (F2.tr F3))⟩)⟩⟩)⟩)
      by_cases q8 : x ≤ -18
      · exact bd6_R (b01_6 (jn_a (by omega) (h18 q8).1 (h18 q8).2))
      · exact bd6_R (jn_b ⟨by omega, by omega⟩ ha hb)
    · obtain ⟨a, t, es, ha⟩ := k7 q3
      have est : stC F x s = (1 - a) :: t := by rw [es, q3]; rfl
      rw [est] at nx
      rw [es] at H hs
      have hs : t.length + 1 ≤ 64 := hs
      refine c_pop kd (by omega) H (fun τ1 H1 F1 => ⟨_, rfl, c_push kd (bd6_R (b01_6 (b01_n ha))) (by omega) H1 (fun τ3 H3 F3 => ⟨rfl, nx τ3 H3 hs (F1.tr F3)⟩)⟩)
    · have est : stC F x s = F (-1 - x).toNat :: s := by unfold stC; rw [if_neg (by omega), if_pos (by omega)]
      rw [est] at nx
      have := kp (by omega)
      rw [hf _ (by omega)]
      exact c_push kd (bd6_R (hF _ (by omega))) this H (fun τ3 H3 F3 => ⟨rfl, nx τ3 H3 (by show s.length + 1 ≤ 64; omega) F3⟩)
    · have est : stC F x s = x :: s := by unfold stC; rw [if_pos (by omega)]
      rw [est] at nx
      have := kp (by omega)
      exact c_push kd ⟨by omega, by omega⟩ this H (fun τ3 H3 F3 => ⟨rfl, nx τ3 H3 (by show s.length + 1 ≤ 64; omega) F3⟩)
theorem c_run {F : Nat → Int} {v : Int} {c : List Int} {p : Nat} {x y : Int} (kd : KD o = some (.inr 5)) (hF : ∀ i, i < 6 → bd6 (F i)) (hst : stepsAt (o + 1) p c τ) (hx : x = (p : Int)) (hy : y = ((p + c.length : Nat) : Int)) (hp : y ≤ τ o 1) (h1 : τ o 1 ≤ 1600) (hf : ∀ i, i < 6 → τ (o + 6) i = F i) (ok : okC F 64 c []) (ev : evC F c [] = [v]) (k1 : ∀ τ', frU o τ τ' → Q (some (vI v)) τ') : M0 E (d + 2) qX5_run [vR o, vI x, vI y] τ Q := by
  subst hx; subst hy
  refine mX5_run kd (c_runL kd hF c p [] _ (fun j hj => by rw [wr_obj (by omega)]; exact hst j hj) (by rw [wr_row (by omega)]; exact hp) (by rw [wr_row (by omega)]; exact h1) (fun i hi => by rw [wr_obj (by omega)]; exact hf i hi) (by show (0 : Nat) ≤ 64; omega) ⟨wr_same, trivial⟩ ok ev (fun τ' F' => k1 τ' (frU.tr ⟨fun x p q => wr_obj p, fun i p => wr_row p⟩ F')))
end Run
section Works
variable {E : mm_Env} {d : Nat} {τ : mm_Mem} {Q : mm_Q0}
theorem m_bounded {v : Int} (hv : inL v) (k1 : Q (some (vL (clP v))) τ) : M0 E d qX11_bounded [vL v] τ Q := by
  refine mX11_bounded ⟨hv, fun q => ⟨fun q2 => ?_, fun q2 => ?_⟩, fun q => ?_⟩
  · rw [show clP v = v by unfold clP; omega] at k1; exact k1
  · rw [show clP v = -1000000 by unfold clP; omega] at k1; exact k1
  · rw [show clP v = 1000000 by unfold clP; omega] at k1; exact k1
theorem m_over {l r : Int} (hl : bd6 l) (hr : bd6 r) (k1 : Q (some (vL (dvP l r))) τ) : M0 E d qX11_over [vL l, vL r] τ Q := by
  have Ll := bd6_L hl
  have Lr := bd6_L hr
  by_cases q0 : r = 0
  · refine mX11_over ⟨Lr, fun q => absurd q0 q, fun _ => ?_⟩
    unfold dvP at k1; rw [if_pos q0] at k1; exact k1
  · have t := tm_b (l := l) q0 hr
    rw [dvP_t q0] at k1
    refine mX11_over ⟨Lr, fun _ => ⟨Ll, q0, q0, ⟨by omega, by omega⟩, fun q => ?_, fun q => ⟨fun q1 => ⟨fun q2 => ?_, fun q2 => ?_⟩, fun q1 => ⟨fun q2 => ?_, fun q2 => ?_⟩⟩⟩, fun q => absurd q q0⟩
    · rw [if_pos (Or.inr q)] at k1; exact k1
    · rw [if_pos (Or.inl ⟨fun _ => q2, fun _ => q1⟩)] at k1; exact k1
    · rw [if_neg (fun y => y.elim (fun y => q2 (y.mp q1)) q)] at k1; exact k1
    · rw [if_neg (fun y => y.elim (fun y => q1 (y.mpr q2)) q)] at k1; exact k1
    · rw [if_pos (Or.inl ⟨fun y => absurd y q1, fun y => absurd y q2⟩)] at k1; exact k1
theorem m_made {x l r : Int} (hx : -19 ≤ x ∧ x ≤ -8) (hl : bd6 l) (hr : bd6 r) (h18 : x ≤ -18 → b01 l ∧ b01 r) (k1 : Q (some (vL (jnP x l r))) τ) : M0 E (d + 1) qX11_made [vI (opS x), vL l, vL r] τ Q := by
  have Ll := bd6_L hl
  have Lr := bd6_L hr
  have eo : opS x = 2 - x := by unfold opS; rw [if_neg (by omega)]
  rw [eo]
  have hl6 := hl
  have hr6 := hr
  unfold bd6 at hl hr
  refine mX11_made ⟨⟨by omega, by omega⟩, fun q => ?_, fun q => ?_, fun q => ?_, fun q => ?_, fun q => ?_, fun q => ?_, fun q => ?_, fun q => ?_, fun q => ?_, fun q => ?_, fun q => ?_, fun q => ?_⟩
  · have h : x = -19 := by omega
    subst h
    have k1 : Q (some (vL (if 0 < l + r then 1 else 0))) τ := k1
    refine ⟨⟨by omega, by omega⟩, fun q => ?_, fun q => ?_⟩
    · rw [if_neg (by omega)] at k1; exact k1
    · rw [if_pos (by omega)] at k1; exact k1
  · have h : x = -8 := by omega
    subst h
    exact m_bounded ⟨by omega, by omega⟩ ⟨_, rfl, k1⟩
  · have h : x = -9 := by omega
    subst h
    exact m_bounded ⟨by omega, by omega⟩ ⟨_, rfl, k1⟩
  · have h : x = -10 := by omega
    subst h
    have m := mul_6 hl6 hr6
    exact m_bounded ⟨by omega, by omega⟩ ⟨_, rfl, k1⟩
  · have h : x = -11 := by omega
    subst h
    exact m_over hl6 hr6 ⟨_, rfl, k1⟩
  · have h : x = -12 := by omega
    subst h
    have k1 : Q (some (vL (mdP l r))) τ := k1
    unfold mdP at k1
    refine ⟨Lr, fun q => ?_, fun q => ?_⟩
    · rw [if_neg q] at k1; exact m_over hl6 hr6 ⟨_, rfl, k1⟩
    · rw [if_pos q] at k1; exact k1
  · have h : x = -13 := by omega
    subst h
    have k1 : Q (some (vL (min l r))) τ := k1
    refine ⟨Ll, Lr, fun q => ?_, fun q => ?_⟩
    · rw [show min l r = r by omega] at k1; exact k1
    · rw [show min l r = l by omega] at k1; exact k1
  · have h : x = -14 := by omega
    subst h
    have k1 : Q (some (vL (max l r))) τ := k1
    refine ⟨Ll, Lr, fun q => ?_, fun q => ?_⟩
    · rw [show max l r = r by omega] at k1; exact k1
    · rw [show max l r = l by omega] at k1; exact k1
  · have h : x = -15 := by omega
    subst h
    have k1 : Q (some (vL (if l < r then 1 else 0))) τ := k1
    refine ⟨Ll, Lr, fun q => ?_, fun q => ?_⟩
    · rw [if_neg (by omega)] at k1; exact k1
    · rw [if_pos (by omega)] at k1; exact k1
  · have h : x = -16 := by omega
    subst h
    have k1 : Q (some (vL (if r < l then 1 else 0))) τ := k1
    refine ⟨Ll, Lr, fun q => ?_, fun q => ?_⟩
    · rw [if_neg (by omega)] at k1; exact k1
    · rw [if_pos (by omega)] at k1; exact k1
  · have h : x = -17 := by omega
    subst h
    have k1 : Q (some (vL (if l = r then 1 else 0))) τ := k1
    refine ⟨Ll, Lr, fun q => ?_, fun q => ?_⟩
    · rw [if_neg q] at k1; exact k1
    · rw [if_pos q] at k1; exact k1
  · have h : x = -18 := by omega
    subst h
    exact k1
theorem CodeM.tl {z : Nat} {x : Int} {c : List Int} (h : CodeM z (x :: c) τ) : cdM x (τ 165 z) (τ 166 z) ∧ CodeM (z + 1) c τ := by
  refine ⟨by have := h 0 (Nat.zero_lt_succ _); simpa using this, fun j hj => ?_⟩
  have := h (j + 1) (by show j + 1 < c.length + 1; omega)
  rw [show z + 1 + j = z + (j + 1) by omega]; simpa using this
theorem m_worksL {F : Nat → Int} {bi : Nat} (hb : bi < 2) (hF : ∀ i, i < 6 → bd6 (F i)) {v x2 : Int} : ∀ (c : List Int) (z : Nat) (s : List Int) (τ : mm_Mem), τ 140 12 = (bi : Int) → CodeM z c τ → 1600 * (bi : Int) + x2 = ((z + c.length : Nat) : Int) → z + c.length ≤ 3200 → (∀ i, i < 6 → τ 175 (i + 1) = F i) → s.length ≤ 1650 → stA 174 s τ → okC F 1650 c s → evC F c s = [v] → (∀ τ', (∀ o, o ≠ 174 → τ' o = τ o) → Q (some (vL v)) τ') → V0 E (d + 2) qX11_works 14 [some (vR 140), none, some (vI x2), some (vI (s.length : Int)), some (vI (z : Int)), none] [] τ Q := by
  intro c
  induction c with
  | nil =>
    intro z s τ h12 _ he hz _ _ H _ ev k1
    have ev : s = [v] := ev
    subst ev
    have he : 1600 * (bi : Int) + x2 = (z : Int) := he
    have hz : z ≤ 3200 := hz
    refine bX11_works_14 ?_
    rw [h12, he]
    refine ⟨⟨by omega, by omega⟩, ⟨by omega, by omega⟩, fun _ => ?_, fun q => absurd (Int.le_refl _) q⟩
    have h0 : τ 174 0 = v := H.1
    rw [h0]
    exact k1 τ (fun _ _ => rfl)
  | cons x c ih =>
    intro z s τ h12 hC he hz hf hs H ok ev k1
    obtain ⟨ex, hC'⟩ := hC.tl
    have hl : (x :: c).length = c.length + 1 := rfl
    obtain ⟨⟨k19, k99, kp, k7, kb⟩, ok'⟩ := ok
    have nx : ∀ τ', stA 174 (stC F x s) τ' → (stC F x s).length ≤ 1650 → (∀ o, o ≠ 174 → τ' o = τ o) → V0 E (d + 2) qX11_works 14 [some (vR 140), none, some (vI x2), some (vI ((stC F x s).length : Int)), some (vI ((z : Int) + 1)), none] [] τ' Q := fun τ' H' hs' F' => by
      rw [show (z : Int) + 1 = ((z + 1 : Nat) : Int) by omega]
      exact ih (z + 1) (stC F x s) τ' (by rw [F' 140 (by omega)]; exact h12) (fun i hi => by rw [F' 165 (by omega), F' 166 (by omega)]; exact hC' i hi) (by rw [he, hl]; omega) (by omega) (fun i hi => by rw [F' 175 (by omega)]; exact hf i hi) hs' H' ok' ev (fun τ2 F2 => k1 τ2 (fun o ho => (F2 o ho).trans (F' o ho)))
    have num : ∀ y : Int, stC F x s = y :: s → s.length < 1650 → V0 E (d + 2) qX11_works 14 [some (vR 140), none, some (vI x2), some (vI ((s.length : Int) + 1)), some (vI ((z : Int) + 1)), none] [] (wr τ 174 s.length y) Q := fun y e h => by
      have n1 := nx (wr τ 174 s.length y)
      rw [e] at n1
      exact n1 ⟨wr_same, stA.wr (Nat.le_refl _) H⟩ (by show s.length + 1 ≤ 1650; omega) (fun o ho => wr_obj ho)
    refine bX11_works_14 ?_
    rw [h12, he, Int.toNat_natCast, Int.toNat_natCast]
    refine ⟨⟨by omega, by omega⟩, ⟨by omega, by omega⟩, fun q => by omega, fun _ => ⟨by omega, by omega, fun q => ⟨fun q3 => ?_, fun q3 => ?_⟩, fun q => ⟨fun q2 => ⟨fun q3 => ?_, fun q3 => ?_⟩, fun q2 => ?_⟩⟩⟩
    · have xo : isO x ∧ τ 165 z = opS x ∧ x ≠ -7 := by
        rcases ex with ⟨a1, a2, a3⟩ | ⟨a1, a2⟩ | ⟨a1, a2, a3⟩ | ⟨a1, a2⟩
        · omega
        · omega
        · omega
        · refine ⟨a1, a2, fun y => q3 (by rw [a2, y]; rfl)⟩
      have xr := xo.1
      unfold isO at xr
      have x7 := xo.2.2
      obtain ⟨b, a, t, es, ha, hb', h18⟩ := kb (by omega)
      have est : stC F x s = jnP x a b :: t := by rw [es]; unfold stC; rw [if_neg (by omega), if_neg (by omega), if_neg (by omega)]
      rw [est] at nx
      subst es
      have hs : t.length + 2 ≤ 1650 := hs
      have l2 : (((b :: a :: t).length : Nat) : Int) = (t.length : Int) + 2 := by show ((t.length + 1 + 1 : Nat) : Int) = _; omega
      have e1 : (t.length : Int) + 2 + -1 - 1 = (t.length : Int) := by omega
      have e2 : (t.length : Int) + 2 + -1 = ((t.length + 1 : Nat) : Int) := by omega
      have hb1 : τ 174 (t.length + 1) = b := H.1
      rw [l2, e1, e2, Int.toNat_natCast, Int.toNat_natCast, xo.2.1, hb1, H.2.1]
      refine ⟨by omega, by omega, by omega, by omega, m_made ⟨by omega, by omega⟩ ha hb' h18 ⟨_, rfl, by omega, by omega, ?_⟩⟩
      exact nx _ ⟨wr_same, stA.wr (Nat.le_refl _) H.2.2⟩ (by show t.length + 1 ≤ 1650; omega) (fun o ho => wr_obj ho)
    · have xo : x = -7 := by
        rcases ex with ⟨a1, a2, a3⟩ | ⟨a1, a2⟩ | ⟨a1, a2, a3⟩ | ⟨a1, a2⟩
        · omega
        · omega
        · omega
        · unfold isO at a1
          unfold opS at a2
          by_cases y : x = -7
          · exact y
          · rw [if_neg y] at a2; omega
      obtain ⟨a, t, es, ha⟩ := k7 xo
      have est : stC F x s = (1 - a) :: t := by rw [es, xo]; rfl
      rw [est] at nx
      subst es
      have hs : t.length + 1 ≤ 1650 := hs
      have l2 : (((a :: t).length : Nat) : Int) - 1 = (t.length : Int) := by show ((t.length + 1 : Nat) : Int) - 1 = _; omega
      rw [l2, Int.toNat_natCast, H.1]
      exact ⟨by omega, by omega, by omega, by omega, nx _ ⟨wr_same, stA.wr (Nat.le_refl _) H.2⟩ hs (fun o ho => wr_obj ho)⟩
    · have xo : -6 ≤ x ∧ x ≤ -1 ∧ τ 165 z = -x := by
        rcases ex with ⟨a1, a2, a3⟩ | ⟨a1, a2⟩ | ⟨a1, a2, a3⟩ | ⟨a1, a2⟩
        · omega
        · omega
        · exact ⟨a1, a2, a3⟩
        · unfold isO at a1
          unfold opS at a2
          split at a2 <;> omega
      have est : stC F x s = F (-1 - x).toNat :: s := by unfold stC; rw [if_neg (by omega), if_pos (by omega)]
      have := kp (by omega)
      have ef : τ 175 (-x).toNat = F (-1 - x).toNat := by
        have := hf (-1 - x).toNat (by omega)
        rw [← this, show (-1 - x).toNat + 1 = (-x).toNat by omega]
      rw [xo.2.2, ef]
      exact ⟨by omega, by omega, by omega, by omega, num _ est this⟩
    · have xo : x = 1 := by
        rcases ex with ⟨a1, a2, a3⟩ | ⟨a1, a2⟩ | ⟨a1, a2, a3⟩ | ⟨a1, a2⟩
        · omega
        · exact a1
        · omega
        · unfold isO at a1
          unfold opS at a2
          split at a2 <;> omega
      have est : stC F x s = 1 :: s := by rw [xo]; rfl
      have := kp (by omega)
      exact ⟨by omega, by omega, num _ est this⟩
    · have xo : 0 ≤ x ∧ τ 166 z = x := by
        rcases ex with ⟨a1, a2, a3⟩ | ⟨a1, a2⟩ | ⟨a1, a2, a3⟩ | ⟨a1, a2⟩
        · exact ⟨a1, a3⟩
        · omega
        · omega
        · unfold isO at a1
          unfold opS at a2
          split at a2 <;> omega
      have est : stC F x s = x :: s := by unfold stC; rw [if_pos xo.1]
      have := kp (by omega)
      rw [xo.2]
      exact ⟨by omega, by omega, by omega, by omega, num _ est this⟩
theorem m_works {F : Nat → Int} {bi z : Nat} {v x y : Int} {c : List Int} (hb : bi < 2) (hF : ∀ i, i < 6 → bd6 (F i)) (h12 : τ 140 12 = (bi : Int)) (hC : CodeM z c τ) (hx : 1600 * (bi : Int) + x = (z : Int)) (hy : 1600 * (bi : Int) + y = ((z + c.length : Nat) : Int)) (hz : z + c.length ≤ 3200) (hf : ∀ i, i < 6 → τ 175 (i + 1) = F i) (ok : okC F 1650 c []) (ev : evC F c [] = [v]) (k1 : ∀ τ', (∀ o, o ≠ 174 → τ' o = τ o) → Q (some (vL v)) τ') : M0 E (d + 2) qX11_works [vR 140, vI x, vI y] τ Q := by
  refine mX11_works ?_
  rw [h12, hx]
  exact m_worksL hb hF c z [] τ h12 hC hy hz hf (by show (0 : Nat) ≤ 1650; omega) trivial ok ev k1
end Works
