/-! Door.hear, Door.copyFrom -/
/-- the new count of an ear, -1 where there is none or it stays shut -/
def oneA (α : mm_Mem) (f : Nat → Nat) (kind one two : Int) (e0 e1 e2 : Bool) (c hf tr : Nat → Int) (t : Nat) : Int := if e3 e0 e1 e2 (t : Int) = true then opA α f kind one two (c t) (hf t) (tr t) t else -1
/-- which ear opens, or -1 -/
def hrA (α : mm_Mem) (f : Nat → Nat) (kind one two : Int) (e0 e1 e2 : Bool) (c hf tr : Nat → Int) : Int :=
  if oneA α f kind one two e0 e1 e2 c hf tr 0 ≠ -1 then 0 else if oneA α f kind one two e0 e1 e2 c hf tr 1 ≠ -1 then 1 else if oneA α f kind one two e0 e1 e2 c hf tr 2 ≠ -1 then 2 else -1
def vnH (α : mm_Mem) (f : Nat → Nat) (kind one : Int) (e0 e1 e2 : Bool) (c hf : Nat → Int) (t : Nat) : Int := if e3 e0 e1 e2 (t : Int) = true then msH α f kind one (c t) (hf t) t else hf t
def vnT (e0 e1 e2 : Bool) (tr : Nat → Int) (t : Nat) : Int := if e3 e0 e1 e2 (t : Int) = true then msT (tr t) else tr t
/-- counts, halves and tries behind a whistle -/
def afC (α : mm_Mem) (f : Nat → Nat) (kind one two : Int) (e0 e1 e2 : Bool) (c hf tr : Nat → Int) : Nat → Int := fun t => if hrA α f kind one two e0 e1 e2 c hf tr = (t : Int) then oneA α f kind one two e0 e1 e2 c hf tr t else c t
def afH (α : mm_Mem) (f : Nat → Nat) (kind one two : Int) (e0 e1 e2 : Bool) (c hf tr : Nat → Int) : Nat → Int := fun t => if hrA α f kind one two e0 e1 e2 c hf tr = -1 then vnH α f kind one e0 e1 e2 c hf t else if hrA α f kind one two e0 e1 e2 c hf tr = (t : Int) then -1 else hf t
def afT (α : mm_Mem) (f : Nat → Nat) (kind one two : Int) (e0 e1 e2 : Bool) (c hf tr : Nat → Int) : Nat → Int := fun t => if hrA α f kind one two e0 e1 e2 c hf tr = -1 then vnT e0 e1 e2 tr t else if hrA α f kind one two e0 e1 e2 c hf tr = (t : Int) then 0 else tr t
theorem by1A_r {α : mm_Mem} {f : Nat → Nat} {kind by0 hf : Int} {t : Nat} (h : by0 = -1 ∨ (0 ≤ by0 ∧ by0 ≤ 999)) : by1A α f kind by0 hf t = -1 ∨ (0 ≤ by1A α f kind by0 hf t ∧ by1A α f kind by0 hf t ≤ 999) := by
  unfold by1A
  split
  · have := skA_range (PuA α t f 0) (hf + 1) (hf + 1); omega
  · exact h
theorem opF_r {α : mm_Mem} {f : Nat → Nat} {kind two c y : Int} {t : Nat} (h : y = -1 ∨ (0 ≤ y ∧ y ≤ 999)) (h0 : 0 ≤ c) (h1 : c ≤ 1000) : opF α f kind two c t y = -1 ∨ (0 ≤ opF α f kind two c t y ∧ opF α f kind two c t y ≤ 1000) := by
  unfold opF
  split
  · omega
  · split
    · omega
    · omega
theorem opA_r {α : mm_Mem} {f : Nat → Nat} {kind one two c hf tr : Int} {t : Nat} (h0 : 0 ≤ c) (h1 : c ≤ 1000) : opA α f kind one two c hf tr t = -1 ∨ (0 ≤ opA α f kind one two c hf tr t ∧ opA α f kind one two c hf tr t ≤ 1000) := by
  have r := skA_range (PuA α t f (if kind = 3 then two else 0)) c (c + rchA kind one two tr)
  exact opF_r (by1A_r (by omega)) h0 h1
theorem hrA_ne {α : mm_Mem} {f : Nat → Nat} {kind one two : Int} {e0 e1 e2 : Bool} {c hf tr : Nat → Int} {t : Nat} (h : hrA α f kind one two e0 e1 e2 c hf tr = (t : Int)) : oneA α f kind one two e0 e1 e2 c hf tr t ≠ -1 := by
  unfold hrA at h
  by_cases q0 : oneA α f kind one two e0 e1 e2 c hf tr 0 = -1
  · rw [if_neg (by simp [q0])] at h
    by_cases q1 : oneA α f kind one two e0 e1 e2 c hf tr 1 = -1
    · rw [if_neg (by simp [q1])] at h
      by_cases q2 : oneA α f kind one two e0 e1 e2 c hf tr 2 = -1
      · rw [if_neg (by simp [q2])] at h; omega
      · rw [if_pos q2] at h
        have e : t = 2 := by omega
        subst e; exact q2
    · rw [if_pos q1] at h
      have e : t = 1 := by omega
      subst e; exact q1
  · rw [if_pos q0] at h
    have e : t = 0 := by omega
    subst e; exact q0
theorem oneA_r {α : mm_Mem} {f : Nat → Nat} {kind one two : Int} {e0 e1 e2 : Bool} {c hf tr : Nat → Int} {t : Nat} (h0 : 0 ≤ c t) (h1 : c t ≤ 1000) : oneA α f kind one two e0 e1 e2 c hf tr t = -1 ∨ (0 ≤ oneA α f kind one two e0 e1 e2 c hf tr t ∧ oneA α f kind one two e0 e1 e2 c hf tr t ≤ 1000) := by
  unfold oneA
  split
  · exact opA_r h0 h1
  · exact Or.inl rfl
theorem msH_r {α : mm_Mem} {f : Nat → Nat} {kind one c hf : Int} {t : Nat} (h : -1 ≤ hf ∧ hf ≤ 999) : -1 ≤ msH α f kind one c hf t ∧ msH α f kind one c hf t ≤ 999 := by
  unfold msH
  split
  · have := skA_range (PuA α t f 0) (c + 1) (c + one); omega
  · exact h
theorem af_B {α : mm_Mem} {f : Nat → Nat} {kind one two : Int} {e0 e1 e2 : Bool} {c hf tr : Nat → Int} (B : dB kind one two c hf tr) : dB kind one two (afC α f kind one two e0 e1 e2 c hf tr) (afH α f kind one two e0 e1 e2 c hf tr) (afT α f kind one two e0 e1 e2 c hf tr) := by
  refine ⟨B.1, fun t ht => ?_⟩
  have b := B.2 t ht
  have r := oneA_r (α := α) (f := f) (kind := kind) (one := one) (two := two) (e0 := e0) (e1 := e1) (e2 := e2) (hf := hf) (tr := tr) b.1 b.2.1
  have m := msH_r (α := α) (f := f) (kind := kind) (one := one) (c := c t) (t := t) (hf := hf t) (by omega)
  have c1 : 0 ≤ afC α f kind one two e0 e1 e2 c hf tr t ∧ afC α f kind one two e0 e1 e2 c hf tr t ≤ 1000 := by
    unfold afC
    split
    · rename_i q
      have := hrA_ne q
      omega
    · omega
  have c2 : -1 ≤ afH α f kind one two e0 e1 e2 c hf tr t ∧ afH α f kind one two e0 e1 e2 c hf tr t ≤ 999 := by
    unfold afH vnH
    split
    · split <;> omega
    · split <;> omega
  have c3 : 0 ≤ afT α f kind one two e0 e1 e2 c hf tr t ∧ afT α f kind one two e0 e1 e2 c hf tr t ≤ 255 := by
    unfold afT vnT msT
    split
    · split <;> omega
    · split <;> omega
  omega
section Hear2
variable {E : mm_Env} {d k h b : Nat} {α τ : mm_Mem} {Q : mm_Q0}
/-- the second half of hear, from an ear on -/
theorem c_hear91 {o : Nat} {f : Nat → Nat} {kind one two : Int} {e0 e1 e2 : Bool} {c hf0 tr0 : Nat → Int} (w : WF k α) (hof : tp_ok f) (B : dB kind one two c hf0 tr0) (he : ∀ t : Nat, e3 e0 e1 e2 (t : Int) = true → (t : Int) < α 0 5) : ∀ (n t : Nat) (τ : mm_Mem) (hf tr : Nat → Int), t + n = 3 → gW α τ → dS τ o kind one two e0 e1 e2 c hf tr → (∀ i, t ≤ i → hf i = hf0 i ∧ tr i = tr0 i) → (∀ i, i < t → hf i = vnH α f kind one e0 e1 e2 c hf0 i ∧ tr i = vnT e0 e1 e2 tr0 i) → (∀ τ', (∀ x, x ≠ o + 2 → x ≠ o + 3 → τ' x = τ x) → dS τ' o kind one two e0 e1 e2 c (vnH α f kind one e0 e1 e2 c hf0) (vnT e0 e1 e2 tr0) → Q (some (vI (-1))) τ') → V0 E (d + 5) qX0_hear 91 [some (vR o), some (vR 78), some (vI (tp f : Nat)), some (vI (t : Int)), none] [] τ Q
  | 0, t, τ, hf, tr, ht, G, D, hi, lo, k1 => by
    have D0 := D
    obtain ⟨⟨kd, d1, d2, d3, d4⟩, dt⟩ := D
    refine bX0_hear_91 kd ⟨⟨by omega, by omega⟩, fun _ => k1 τ (fun _ _ _ => rfl) ⟨⟨kd, d1, d2, d3, d4⟩, fun i hi3 => ?_⟩, fun q => by omega⟩
    obtain ⟨x1, x2, x3⟩ := dt i hi3
    obtain ⟨y1, y2⟩ := lo i (by omega)
    exact ⟨x1, x2.trans y1, x3.trans y2⟩
  | n + 1, t, τ, hf, tr, ht, G, D, hi, lo, k1 => by
    have D0 := D
    obtain ⟨⟨kd, d1, d2, d3, d4⟩, dt⟩ := D
    have ko := kdD_out kd
    have en : ((t : Int) + 1) = ((t + 1 : Nat) : Int) := by omega
    have Bt : dB kind one two c hf tr := ⟨B.1, fun i hi3 => by
      by_cases q : i < t
      · obtain ⟨y1, y2⟩ := lo i q
        have b := B.2 i hi3
        have m := msH_r (α := α) (f := f) (kind := kind) (one := one) (c := c i) (t := i) (hf := hf0 i) (by omega)
        rw [y1, y2]
        refine ⟨b.1, b.2.1, ?_, ?_, ?_, ?_⟩
        · unfold vnH; split <;> omega
        · unfold vnH; split <;> omega
        · unfold vnT msT; split <;> omega
        · unfold vnT msT; split <;> omega
      · obtain ⟨y1, y2⟩ := hi i (by omega)
        rw [y1, y2]; exact B.2 i hi3⟩
    obtain ⟨hi1, hi2⟩ := hi t (by omega)
    refine bX0_hear_91 kd ⟨⟨by omega, by omega⟩, fun q => by omega, fun _ => c_hasEar kd d4 ⟨by omega, by omega⟩ ⟨_, rfl, fun q => ?_, fun q => ?_⟩⟩
    · rw [en]
      refine c_hear91 w hof B he n (t + 1) τ hf tr (by omega) G D0 (fun i h => hi i (by omega)) (fun i h => ?_) k1
      by_cases e : i = t
      · subst e; exact ⟨by rw [hi1, vnH, if_neg (by rw [q]; decide)], by rw [hi2, vnT, if_neg (by rw [q]; decide)]⟩
      · exact lo i (by omega)
    · refine c_hearInVain w G D0 Bt hof (by omega) (he t q) (fun τ1 F1 D1 => ⟨rfl, ?_⟩)
      rw [en]
      refine c_hear91 w hof B he n (t + 1) τ1 _ _ (by omega) (G.keep (fun x _ _ => F1 x (by omega) (by omega)) w) D1 (fun i h => ?_) (fun i h => ?_) (fun τ' F' D' => k1 τ' (fun x a b => (F' x a b).trans (F1 x a b)) D')
      · rw [u1_n (by omega), u1_n (by omega)]; exact hi i (by omega)
      · by_cases e : i = t
        · subst e; exact ⟨by rw [u1_s, vnH, if_pos q, hi1], by rw [u1_s, vnT, if_pos q, hi2]⟩
        · rw [u1_n e, u1_n e]; exact lo i (by omega)
theorem c_hear {o : Nat} {f : Nat → Nat} {kind one two : Int} {e0 e1 e2 : Bool} {c hf tr : Nat → Int} (w : WF k α) (G : gW α τ) (hof : tp_ok f) (D : dS τ o kind one two e0 e1 e2 c hf tr) (B : dB kind one two c hf tr) (he : ∀ t : Nat, e3 e0 e1 e2 (t : Int) = true → (t : Int) < α 0 5) (h6 : 0 ≤ τ o 6 ∧ τ o 6 ≤ 1000000000) (h7 : 0 ≤ τ o 7 ∧ τ o 7 ≤ 1000000000)
    (k1 : ∀ τ', (∀ x, x ≠ o → x ≠ o + 1 → x ≠ o + 2 → x ≠ o + 3 → τ' x = τ x) → τ' o 0 = τ o 0 → dS τ' o kind one two e0 e1 e2 (afC α f kind one two e0 e1 e2 c hf tr) (afH α f kind one two e0 e1 e2 c hf tr) (afT α f kind one two e0 e1 e2 c hf tr) → (τ' o 5 = if hrA α f kind one two e0 e1 e2 c hf tr = -1 then τ o 5 else hrA α f kind one two e0 e1 e2 c hf tr) → (τ' o 6 = if hrA α f kind one two e0 e1 e2 c hf tr = -1 then τ o 6 else τ o 6 + 1) → (τ' o 7 = if hrA α f kind one two e0 e1 e2 c hf tr = -1 then τ o 7 + 1 else τ o 7) → Q (some (vI (hrA α f kind one two e0 e1 e2 c hf tr))) τ') : M0 E (d + 5) qX0_hear [vR o, vR 78, vI (tp f : Nat)] τ Q := by
  have D0 := D
  obtain ⟨⟨kd, d1, d2, d3, d4⟩, dt⟩ := D
  have ko := kdD_out kd
  -- an ear that opens
  have good : ∀ t : Nat, t < 3 → hrA α f kind one two e0 e1 e2 c hf tr = (t : Int) → oneA α f kind one two e0 e1 e2 c hf tr t ≠ -1 → V0 E (d + 5) qX0_hear 26 [some (vR o), some (vR 78), some (vI (tp f : Nat)), some (vI (t : Int)), none] [vI (oneA α f kind one two e0 e1 e2 c hf tr t)] τ Q := by
    intro t ht hr hne
    have b := B.2 t ht
    have r := opA_r (α := α) (f := f) (kind := kind) (one := one) (two := two) (hf := hf t) (tr := tr t) (t := t) b.1 b.2.1
    have ir : inR (oneA α f kind one two e0 e1 e2 c hf tr t) := by
      unfold oneA; split
      · exact ⟨by omega, by omega⟩
      · exact ⟨by decide, by decide⟩
    rw [hr] at k1
    refine bX0_hear_26 kd ⟨ir, fun q => absurd q hne, fun _ => ⟨by omega, by omega, by omega, by omega, by omega, by omega, ⟨by omega, by omega⟩, ?_, ?_⟩⟩
    · rw [wr_obj (by omega), wr_obj (by omega), wr_obj (by omega)]; exact ⟨by omega, by omega⟩
    · rw [Int.toNat_natCast]
      refine k1 _ (fun x a1 a2 a3 a4 => by rw [wr_obj a1, wr_obj a1, wr_obj a4, wr_obj a3, wr_obj a2]) ?_ ⟨⟨kd, ?_, ?_, ?_, ?_⟩, fun i hi => ⟨?_, ?_, ?_⟩⟩ ?_ ?_ ?_
      · rw [wr_row (by omega), wr_row (by omega), wr_obj (by omega), wr_obj (by omega), wr_obj (by omega)]
      · rw [wr_row (by omega), wr_row (by omega), wr_obj (by omega), wr_obj (by omega), wr_obj (by omega)]; exact d1
      · rw [wr_row (by omega), wr_row (by omega), wr_obj (by omega), wr_obj (by omega), wr_obj (by omega)]; exact d2
      · rw [wr_row (by omega), wr_row (by omega), wr_obj (by omega), wr_obj (by omega), wr_obj (by omega)]; exact d3
      · rw [wr_row (by omega), wr_row (by omega), wr_obj (by omega), wr_obj (by omega), wr_obj (by omega)]; exact d4
      · rw [wr_obj (by omega), wr_obj (by omega), wr_obj (by omega), wr_obj (by omega)]
        unfold afC
        rw [hr]
        by_cases e : i = t
        · subst e; rw [wr_same, if_pos rfl]
        · rw [wr_row e, if_neg (by omega)]; exact (dt i hi).1
      · rw [wr_obj (by omega), wr_obj (by omega), wr_obj (by omega)]
        unfold afH
        rw [hr, if_neg (by omega)]
        by_cases e : i = t
        · subst e; rw [wr_same, if_pos rfl]
        · rw [wr_row e, if_neg (by omega), wr_obj (by omega)]; exact (dt i hi).2.1
      · rw [wr_obj (by omega), wr_obj (by omega)]
        unfold afT
        rw [hr, if_neg (by omega)]
        by_cases e : i = t
        · subst e; rw [wr_same, if_pos rfl]
        · rw [wr_row e, if_neg (by omega), wr_obj (by omega), wr_obj (by omega)]; exact (dt i hi).2.2
      · rw [wr_row (by omega), wr_same, if_neg (by omega)]
      · rw [wr_same, wr_obj (by omega), wr_obj (by omega), wr_obj (by omega), if_neg (by omega)]
      · rw [wr_row (by omega), wr_row (by omega), wr_obj (by omega), wr_obj (by omega), wr_obj (by omega), if_neg (by omega)]
  -- one that does not: on to the next
  have step : ∀ t : Nat, t < 3 → (oneA α f kind one two e0 e1 e2 c hf tr t ≠ -1 → hrA α f kind one two e0 e1 e2 c hf tr = (t : Int)) → (oneA α f kind one two e0 e1 e2 c hf tr t = -1 → V0 E (d + 5) qX0_hear 2 [some (vR o), some (vR 78), some (vI (tp f : Nat)), some (vI ((t : Int) + 1)), none] [] τ Q) → V0 E (d + 5) qX0_hear 2 [some (vR o), some (vR 78), some (vI (tp f : Nat)), some (vI (t : Int)), none] [] τ Q := by
    intro t ht hr nx
    have key : V0 E (d + 5) qX0_hear 26 [some (vR o), some (vR 78), some (vI (tp f : Nat)), some (vI (t : Int)), none] [vI (oneA α f kind one two e0 e1 e2 c hf tr t)] τ Q := by
      by_cases q : oneA α f kind one two e0 e1 e2 c hf tr t = -1
      · rw [q]
        exact bX0_hear_26 kd ⟨⟨by decide, by decide⟩, fun _ => nx q, fun z => absurd rfl z⟩
      · exact good t ht (hr q) q
    refine bX0_hear_2 kd ⟨⟨by omega, by omega⟩, fun q => by omega, fun _ => c_hasEar kd d4 ⟨by omega, by omega⟩ ⟨_, rfl, fun q => ?_, fun q => ?_⟩⟩
    · have e : oneA α f kind one two e0 e1 e2 c hf tr t = -1 := by unfold oneA; rw [if_neg (by rw [q]; decide)]
      rw [e] at key; exact key
    · have e : oneA α f kind one two e0 e1 e2 c hf tr t = opA α f kind one two (c t) (hf t) (tr t) t := by unfold oneA; rw [if_pos q]
      refine c_countIfOpened w G D0 B hof ht (he t q) ⟨_, rfl, ?_⟩
      rw [e] at key; exact key
  refine mX0_hear kd (step 0 (by decide) (fun q => if_pos q) (fun q0 => ?_))
  refine step 1 (by decide) (fun q => by unfold hrA; rw [if_neg (by simp [q0]), if_pos q]; rfl) (fun q1 => ?_)
  refine step 2 (by decide) (fun q => by unfold hrA; rw [if_neg (by simp [q0]), if_neg (by simp [q1]), if_pos q]; rfl) (fun q2 => ?_)
  have hr : hrA α f kind one two e0 e1 e2 c hf tr = -1 := by unfold hrA; rw [if_neg (by simp [q0]), if_neg (by simp [q1]), if_neg (by simp [q2])]
  refine bX0_hear_2 kd ⟨⟨by decide, by decide⟩, fun _ => ⟨⟨by omega, by omega⟩, ?_⟩, fun q => absurd (by decide) q⟩
  have D1 : dS (wr τ o 7 (τ o 7 + 1)) o kind one two e0 e1 e2 c hf tr := by
    refine ⟨⟨kd, ?_, ?_, ?_, ?_⟩, fun i hi => ?_⟩
    · rw [wr_row (by omega)]; exact d1
    · rw [wr_row (by omega)]; exact d2
    · rw [wr_row (by omega)]; exact d3
    · rw [wr_row (by omega)]; exact d4
    · rw [wr_obj (by omega), wr_obj (by omega), wr_obj (by omega)]; exact dt i hi
  refine c_hear91 w hof B he 3 0 _ hf tr rfl (G.keep (fun x _ _ => wr_obj (by omega)) w) D1 (fun i _ => ⟨rfl, rfl⟩) (fun i hi => absurd hi (Nat.not_lt_zero _)) (fun τ' F' D' => ?_)
  have eo : τ' o = wr τ o 7 (τ o 7 + 1) o := F' o (by omega) (by omega)
  rw [hr] at k1
  refine k1 τ' (fun x a1 a2 a3 a4 => by rw [F' x a3 a4, wr_obj a1]) (by rw [eo, wr_row (by omega)]) ?_ (by rw [if_pos rfl, eo, wr_row (by omega)]) (by rw [if_pos rfl, eo, wr_row (by omega)]) (by rw [if_pos rfl, eo, wr_same])
  obtain ⟨D1', D2'⟩ := D'
  refine ⟨D1', fun i hi => ?_⟩
  obtain ⟨x1, x2, x3⟩ := D2' i hi
  unfold afC afH afT
  rw [hr, if_neg (by omega), if_pos rfl, if_pos rfl]
  exact ⟨x1, x2, x3⟩
/-- the trial door takes another's kind and ears -/
theorem c_copyL {o a : Nat} (kd : KD o = some (.inr 0)) (ka : KD a = some (.inr 0)) (hne : a ≠ o) (hap : a + 3 < o ∨ o + 3 < a) : ∀ (n t : Nat) (τ : mm_Mem), t + n = 3 → (∀ τ', (∀ x, x ≠ o + 1 → x ≠ o + 2 → x ≠ o + 3 → τ' x = τ x) → (∀ i, t ≤ i → i < 3 → τ' (o + 1) i = τ (a + 1) i ∧ τ' (o + 2) i = τ (a + 2) i ∧ τ' (o + 3) i = τ (a + 3) i) → (∀ i, i < t → τ' (o + 1) i = τ (o + 1) i ∧ τ' (o + 2) i = τ (o + 2) i ∧ τ' (o + 3) i = τ (o + 3) i) → Q none τ') → V0 E d qX0_copyFrom 34 [some (vR o), some (vR a), some (vI (t : Int))] [] τ Q
  | 0, t, τ, ht, k1 => bX0_copyFrom_34 kd ka ⟨⟨by omega, by omega⟩, fun _ => k1 τ (fun _ _ _ _ => rfl) (fun i h1 h2 => by omega) (fun i _ => ⟨rfl, rfl, rfl⟩), fun q => by omega⟩
  | n + 1, t, τ, ht, k1 => by
    have en : ((t : Int) + 1) = ((t + 1 : Nat) : Int) := by omega
    refine bX0_copyFrom_34 kd ka ⟨⟨by omega, by omega⟩, fun q => by omega, fun _ => ⟨by omega, by omega, by omega, by omega, by omega, by omega, by omega, by omega, by omega, by omega, by omega, by omega, ?_⟩⟩
    rw [en, Int.toNat_natCast]
    refine c_copyL kd ka hne hap n (t + 1) _ (by omega) (fun τ' F' A' B' => k1 τ' (fun x x1 x2 x3 => ?_) (fun i h1 h2 => ?_) (fun i h1 => ?_))
    · rw [F' x x1 x2 x3, wr_obj x3, wr_obj x2, wr_obj x1]
    · by_cases e : i = t
      · subst e
        obtain ⟨b1, b2, b3⟩ := B' i (by omega)
        refine ⟨?_, ?_, ?_⟩
        · rw [b1, wr_obj (by omega), wr_obj (by omega), wr_same]
        · rw [b2, wr_obj (by omega), wr_same, wr_obj (by omega)]
        · rw [b3, wr_same, wr_obj (by omega), wr_obj (by omega)]
      · obtain ⟨b1, b2, b3⟩ := A' i (by omega) h2
        refine ⟨?_, ?_, ?_⟩
        · rw [b1, wr_obj (by omega), wr_obj (by omega), wr_obj (by omega)]
        · rw [b2, wr_obj (by omega), wr_obj (by omega), wr_obj (by omega)]
        · rw [b3, wr_obj (by omega), wr_obj (by omega), wr_obj (by omega)]
    · obtain ⟨b1, b2, b3⟩ := B' i (by omega)
      refine ⟨?_, ?_, ?_⟩
      · rw [b1, wr_obj (by omega), wr_obj (by omega), wr_row (by omega)]
      · rw [b2, wr_obj (by omega), wr_row (by omega), wr_obj (by omega)]
      · rw [b3, wr_row (by omega), wr_obj (by omega), wr_obj (by omega)]
theorem c_copyFrom {o a : Nat} {kind one two : Int} {e0 e1 e2 : Bool} {c hf tr : Nat → Int} (kd : KD o = some (.inr 0)) (D : dS τ a kind one two e0 e1 e2 c hf tr) (hap : a + 3 < o ∨ o + 3 < a) (k1 : ∀ τ', (∀ x, x ≠ o → x ≠ o + 1 → x ≠ o + 2 → x ≠ o + 3 → τ' x = τ x) → τ' o 6 = τ o 6 → τ' o 7 = τ o 7 → dS τ' o kind one two e0 e1 e2 c hf tr → Q none τ') : M0 E d qX0_copyFrom [vR o, vR a] τ Q := by
  obtain ⟨⟨ka, d1, d2, d3, d4⟩, dt⟩ := D
  refine mX0_copyFrom kd ka (c_copyL kd ka (by omega) hap 3 0 _ rfl (fun τ' F' A' _ => ?_))
  have ao : a ≠ o := by omega
  have eo : τ' o = _ := F' o (by omega) (by omega) (by omega)
  refine k1 τ' (fun x x0 x1 x2 x3 => ?_) ?_ ?_ ⟨⟨kd, ?_, ?_, ?_, ?_⟩, fun i hi => ?_⟩
  · rw [F' x x1 x2 x3, wr_obj x0, wr_obj x0, wr_obj x0, wr_obj x0]
  · rw [eo, wr_row (by omega), wr_row (by omega), wr_row (by omega), wr_row (by omega)]
  · rw [eo, wr_row (by omega), wr_row (by omega), wr_row (by omega), wr_row (by omega)]
  · rw [eo, wr_row (by omega), wr_row (by omega), wr_row (by omega), wr_same]; exact d1
  · rw [eo, wr_row (by omega), wr_row (by omega), wr_same, wr_obj ao]; exact d2
  · rw [eo, wr_row (by omega), wr_same, wr_obj ao, wr_obj ao]; exact d3
  · rw [eo, wr_same, wr_obj ao, wr_obj ao, wr_obj ao]; exact d4
  · obtain ⟨b1, b2, b3⟩ := A' i (by omega) hi
    obtain ⟨g1, g2, g3⟩ := dt i hi
    refine ⟨?_, ?_, ?_⟩
    · rw [b1, wr_obj (by omega), wr_obj (by omega), wr_obj (by omega), wr_obj (by omega)]; exact g1
    · rw [b2, wr_obj (by omega), wr_obj (by omega), wr_obj (by omega), wr_obj (by omega)]; exact g2
    · rw [b3, wr_obj (by omega), wr_obj (by omega), wr_obj (by omega), wr_obj (by omega)]; exact g3
end Hear2
