/-! the class reads a house -/
section CRead2
variable {E : mm_Env} {d : Nat} {τ : mm_Mem} {Q : mm_Q0} {r : Nat → Int} {n hh : Nat} {a : Nat} {β : mm_Mem} {cd cd' : List Int}
theorem sa_w {i : Nat} (hi : i = 2 ∨ i = 4 ∨ i = 5 ∨ i = 6 ∨ i = 7 ∨ i = 13 ∨ i = 16) (h : tWb r n a i = true) : saP r n a β cd cd' = if i = 2 then tuP r n a β cd cd' else if i = 4 then ruP r n 0 a β cd cd' else if i = 5 then ruP r n 1 a β cd cd' else if i = 6 then ruP r n 2 a β cd cd' else if i = 7 then doP r n a β cd cd' else if i = 13 then peP r n a β cd cd' else woP r n a β cd cd' := by
  have no : ∀ j, j < 29 → j ≠ i → ¬ tWb r n a j = true := fun j hj ne h2 => ne (tW_u hj (by omega) h2 h)
  unfold saP
  rcases hi with hi | hi | hi | hi | hi | hi | hi <;> subst hi
  · rw [if_pos h, if_pos rfl]
  · rw [if_neg (no 2 (by omega) (by omega)), if_pos h]; rfl
  · rw [if_neg (no 2 (by omega) (by omega)), if_neg (no 4 (by omega) (by omega)), if_pos h]; rfl
  · rw [if_neg (no 2 (by omega) (by omega)), if_neg (no 4 (by omega) (by omega)), if_neg (no 5 (by omega) (by omega)), if_pos h]; rfl
  · rw [if_neg (no 2 (by omega) (by omega)), if_neg (no 4 (by omega) (by omega)), if_neg (no 5 (by omega) (by omega)), if_neg (no 6 (by omega) (by omega)), if_pos h]; rfl
  · rw [if_neg (no 2 (by omega) (by omega)), if_neg (no 4 (by omega) (by omega)), if_neg (no 5 (by omega) (by omega)), if_neg (no 6 (by omega) (by omega)), if_neg (no 7 (by omega) (by omega)), if_pos h]; rfl
  · rw [if_neg (no 2 (by omega) (by omega)), if_neg (no 4 (by omega) (by omega)), if_neg (no 5 (by omega) (by omega)), if_neg (no 6 (by omega) (by omega)), if_neg (no 7 (by omega) (by omega)), if_neg (no 13 (by omega) (by omega)), if_pos h]; rfl
theorem sa_no (h : ∀ i, (i = 2 ∨ i = 4 ∨ i = 5 ∨ i = 6 ∨ i = 7 ∨ i = 13 ∨ i = 16) → ¬ tWb r n a i = true) : saP r n a β cd cd' = .inl (1, tPl r n a) := by
  unfold saP
  rw [if_neg (h 2 (by omega)), if_neg (h 4 (by omega)), if_neg (h 5 (by omega)), if_neg (h 6 (by omega)), if_neg (h 7 (by omega)), if_neg (h 13 (by omega)), if_neg (h 16 (by omega))]
theorem c_readStatement (h4 : hh = 4 ∨ hh = 38) (hn : n ≤ 1600) (hr : ∀ i, 0 ≤ r i ∧ r i ≤ 255) (S : SIn n a β cd cd') (B : HbC hh β τ) (H : RdC r n hh a 0 cd τ) (kT : ∀ a1 β1 c1 c1', stP r n a β cd cd' = .inr (a1, β1, c1, c1') → ∀ τ', RdC r n hh a1 0 c1 τ' → HbC hh β1 τ' → frS hh τ τ' → Q (some (vB true)) τ') (kF : ∀ k p, stP r n a β cd cd' = .inl (k, p) → ∀ τ', RdF hh k p τ' → frS hh τ τ' → Q (some (vB false)) τ') : M0 E (d + 42) qX4_readStatement [vR 77] τ Q := by
  have ha := S.1
  have h7 : hh + 7 < 72 := by omega
  have s := S.2.2.2.1.1
  have w : ∀ i : Nat, i < 29 → ((τ 77 3 = 4 ∧ τ 77 4 = (i : Int)) ↔ tWb r n a i = true) := fun i hi => H.wd ha hr hi
  have sp := si_sa (r := r) hn hr S
  -- behind what was read
  have semi : ∀ a1 β1 c1 c1', saP r n a β cd cd' = .inr (a1, β1, c1, c1') → ∀ τ', RdC r n hh a1 0 c1 τ' → HbC hh β1 τ' → frS hh τ τ' → M0 E (d + 41) qX4_readSign [vR 77, vI 59] τ' (fun v τ9 => ∃ b10 : Bool, v = some (vB b10) ∧ ((b10 = false → Q (some (vB false)) τ9) ∧ (b10 = true → Q (some (vB true)) τ9))) := fun a1 β1 c1 c1' e τ' H1 B1 F1 => by
    rw [e] at sp
    have S1 : SIn n a1 β1 c1 c1' := sp.2
    have s1 := S1.2.2.2.1.1
    refine c_readSign (d := d + 40) h7 S1.1 hr (by decide) H1 (fun z τ2 H2 F2 _ => ⟨true, rfl, fun q => ff_tt q, fun _ => kT _ _ _ _ (by unfold stP; rw [e, bs_r, sg_t z]) τ2 H2 (B1.r h4 (by omega) (by omega) F2) (F1.tr F2.s)⟩) (fun z τ2 R2 F2 => ⟨false, rfl, fun _ => kF 1 _ (by unfold stP; rw [e, bs_r, sg_f z]) τ2 R2 (F1.tr F2.s), fun q => tt_ff q⟩)
  have kF' : ∀ k p, saP r n a β cd cd' = .inl (k, p) → ∀ τ', RdF hh k p τ' → frS hh τ τ' → Q (some (vB false)) τ' := fun k p e τ' R F => kF k p (by unfold stP; rw [e, bs_l]) τ' R F
  have bad : (∀ i, (i = 2 ∨ i = 4 ∨ i = 5 ∨ i = 6 ∨ i = 7 ∨ i = 13 ∨ i = 16) → ¬ tWb r n a i = true) → M0 E (d + 41) qX4_fail [vR 77, vI 1] τ (fun v τ3 => ∃ b4 : Bool, v = some (vB b4) ∧ ((b4 = false → Q (some (vB false)) τ3) ∧ (b4 = true → M0 E (d + 41) qX4_readSign [vR 77, vI 59] τ3 (fun v τ5 => ∃ b6 : Bool, v = some (vB b6) ∧ ((b6 = false → Q (some (vB false)) τ5) ∧ (b6 = true → Q (some (vB true)) τ5)))))) := fun no =>
    c_fail (k := 1) h7 (by omega) H (fun τ' u1 u2 => ⟨false, rfl, fun _ => kF' 1 _ (sa_no no) τ' u1 u2.s, fun q => tt_ff q⟩)
  refine mX4_readStatement (d := d + 41) ⟨fun q => ⟨fun z => ?_, fun z => ?_, fun z => ?_, fun z => ?_, fun z => ?_, fun z => ?_, fun z => ?_, fun z => ?_, fun z => ?_, fun z => ?_, fun z => ?_, fun z => ?_, fun z => ?_, fun z => ?_, fun z => ?_, fun z => ?_⟩, fun q => ?_⟩
  · exact bad (fun i hi y => by have := (w i (by omega)).mpr y; omega)
  · have y := (w 2 (by omega)).mp ⟨q, z⟩
    have e := sa_w (β := β) (cd := cd) (cd' := cd') (by omega) y
    rw [if_pos rfl] at e
    rw [e] at semi kF'
    exact c_readTune (d := d + 38) h4 hr S y B H (fun a1 β1 c1 c1' e1 τ' H1 B1 F1 => ⟨true, rfl, fun q => ff_tt q, fun _ => semi _ _ _ _ e1 τ' H1 B1 F1⟩) (fun k p e1 τ' R1 F1 => ⟨false, rfl, fun _ => kF' k p e1 τ' R1 F1, fun q => tt_ff q⟩)
  · exact bad (fun i hi y => by have := (w i (by omega)).mpr y; omega)
  · have y := (w 4 (by omega)).mp ⟨q, z⟩
    have e := sa_w (β := β) (cd := cd) (cd' := cd') (by omega) y
    rw [if_neg (by omega), if_pos rfl] at e
    rw [e] at semi kF'
    exact c_readRule (d := d) (kd := 0) h4 hn hr S (by omega) rfl (by rw [(tW_k y).1]; omega) B H (fun a1 β1 c1 c1' e1 τ' H1 B1 F1 => ⟨true, rfl, fun q => ff_tt q, fun _ => semi _ _ _ _ e1 τ' H1 B1 F1⟩) (fun k p e1 τ' R1 F1 => ⟨false, rfl, fun _ => kF' k p e1 τ' R1 F1, fun q => tt_ff q⟩)
  · have y := (w 5 (by omega)).mp ⟨q, z⟩
    have e := sa_w (β := β) (cd := cd) (cd' := cd') (by omega) y
    rw [if_neg (by omega), if_neg (by omega), if_pos rfl] at e
    rw [e] at semi kF'
    exact c_readRule (d := d) (kd := 1) h4 hn hr S (by omega) rfl (by rw [(tW_k y).1]; omega) B H (fun a1 β1 c1 c1' e1 τ' H1 B1 F1 => ⟨true, rfl, fun q => ff_tt q, fun _ => semi _ _ _ _ e1 τ' H1 B1 F1⟩) (fun k p e1 τ' R1 F1 => ⟨false, rfl, fun _ => kF' k p e1 τ' R1 F1, fun q => tt_ff q⟩)
  · have y := (w 6 (by omega)).mp ⟨q, z⟩
    have e := sa_w (β := β) (cd := cd) (cd' := cd') (by omega) y
    rw [if_neg (by omega), if_neg (by omega), if_neg (by omega), if_pos rfl] at e
    rw [e] at semi kF'
    exact c_readRule (d := d) (kd := 2) h4 hn hr S (by omega) rfl (by rw [(tW_k y).1]; omega) B H (fun a1 β1 c1 c1' e1 τ' H1 B1 F1 => ⟨true, rfl, fun q => ff_tt q, fun _ => semi _ _ _ _ e1 τ' H1 B1 F1⟩) (fun k p e1 τ' R1 F1 => ⟨false, rfl, fun _ => kF' k p e1 τ' R1 F1, fun q => tt_ff q⟩)
  · have y := (w 7 (by omega)).mp ⟨q, z⟩
    have e := sa_w (β := β) (cd := cd) (cd' := cd') (by omega) y
    rw [if_neg (by omega), if_neg (by omega), if_neg (by omega), if_neg (by omega), if_pos rfl] at e
    rw [e] at semi kF'
    exact c_readDoor (d := d + 38) h4 hr S y B H (fun a1 β1 c1 c1' e1 τ' H1 B1 F1 => ⟨true, rfl, fun q => ff_tt q, fun _ => semi _ _ _ _ e1 τ' H1 B1 F1⟩) (fun k p e1 τ' R1 F1 => ⟨false, rfl, fun _ => kF' k p e1 τ' R1 F1, fun q => tt_ff q⟩)
  · exact bad (fun i hi y => by have := (w i (by omega)).mpr y; omega)
  · exact bad (fun i hi y => by have := (w i (by omega)).mpr y; omega)
  · exact bad (fun i hi y => by have := (w i (by omega)).mpr y; omega)
  · exact bad (fun i hi y => by have := (w i (by omega)).mpr y; omega)
  · exact bad (fun i hi y => by have := (w i (by omega)).mpr y; omega)
  · have y := (w 13 (by omega)).mp ⟨q, z⟩
    have e := sa_w (β := β) (cd := cd) (cd' := cd') (by omega) y
    rw [if_neg (by omega), if_neg (by omega), if_neg (by omega), if_neg (by omega), if_neg (by omega), if_pos rfl] at e
    rw [e] at semi kF'
    exact c_readPerson (d := d + 38) h4 hr S y B H (fun a1 β1 c1 c1' e1 τ' H1 B1 F1 => ⟨true, rfl, fun q => ff_tt q, fun _ => semi _ _ _ _ e1 τ' H1 B1 F1⟩) (fun k p e1 τ' R1 F1 => ⟨false, rfl, fun _ => kF' k p e1 τ' R1 F1, fun q => tt_ff q⟩)
  · exact bad (fun i hi y => by have := (w i (by omega)).mpr y; omega)
  · exact bad (fun i hi y => by have := (w i (by omega)).mpr y; omega)
  · have y := (w 16 (by omega)).mp ⟨q, z⟩
    have e := sa_w (β := β) (cd := cd) (cd' := cd') (by omega) y
    rw [if_neg (by omega), if_neg (by omega), if_neg (by omega), if_neg (by omega), if_neg (by omega), if_neg (by omega)] at e
    rw [e] at semi kF'
    exact c_readWorth (d := d + 39) h4 hr S y B H (fun a1 β1 c1 c1' e1 τ' H1 B1 F1 => ⟨true, rfl, fun q => ff_tt q, fun _ => semi _ _ _ _ e1 τ' H1 B1 F1⟩) (fun k p e1 τ' R1 F1 => ⟨false, rfl, fun _ => kF' k p e1 τ' R1 F1, fun q => tt_ff q⟩)
  · refine c_fail (k := 1) h7 (by omega) H (fun τ' u1 u2 => ⟨_, rfl, kF' 1 _ (sa_no (fun i hi y => ?_)) τ' u1 u2.s⟩)
    have := (w i (by omega)).mpr y; omega
/-- what has been read, at its end -/
def RdE (hh : Nat) (code : List Int) (τ : mm_Mem) : Prop := τ 77 7 = 0 ∧ τ 77 8 = -1 ∧ τ (hh + 6) 1 = (code.length : Int) ∧ ∀ i, i < code.length → τ (hh + 7) i = code.getD i 0
theorem RdC.e {op : Nat} {code : List Int} (H : RdC r n hh a op code τ) : RdE hh code τ := ⟨H.2.2.2.2.2.2.2.1, H.2.2.2.2.2.2.2.2, H.2.2.2.2.2.1, H.2.2.2.2.2.2.1⟩
theorem c_readL (h4 : hh = 4 ∨ hh = 38) (hn : n ≤ 1600) (hr : ∀ i, 0 ≤ r i ∧ r i ≤ 255) : ∀ (f m a : Nat) (β : mm_Mem) (cd cd' : List Int) (τ : mm_Mem), SIn n a β cd cd' → n + 1 ≤ f + a → m ≤ a → HbC hh β τ → RdC r n hh a 0 cd τ → (∀ m1 β1 c1 c1', hoP r n f m a β cd cd' = .inr (m1, β1, c1, c1') → ∀ τ', RdE hh c1 τ' → HbC hh β1 τ' → frS hh τ τ' → Q (some (vI (m1 : Int))) τ') → (∀ k p, hoP r n f m a β cd cd' = .inl (k, p) → ∀ τ', RdF hh k p τ' → frS hh τ τ' → Q (some (vI (-1))) τ') → V0 E (d + 43) qX4_read 43 [some (vR 77), none, some (vB true), some (vI (m : Int))] [] τ Q := by
  intro f
  induction f with
  | zero => intro m a β cd cd' τ S hf; have := S.1; omega
  | succ f ih =>
    intro m a β cd cd' τ S hf hm B H kT kF
    have ha := S.1
    have k0 : τ 77 3 = 0 ↔ (tk r n a).1 = 0 := by rw [H.2.2.1]; exact (ckd_s (tk_r (r := r) (n := n) ha hr).2.1).2.2
    have sp := si_st (r := r) hn hr S
    rw [hoP] at kT kF
    refine bX4_read_43 (d := d + 42) ⟨fun q => ff_tt q, fun _ => ⟨⟨by omega, by omega⟩, fun q => by omega, fun _ => ⟨fun q => ⟨fun q2 => ff_tt q2, fun _ => ?_⟩, fun q => ?_⟩⟩⟩
    · rw [if_pos (k0.mp q)] at kT
      exact kT _ _ _ _ rfl τ H.e B frS.rf
    · rw [if_neg (fun z => q (k0.mpr z))] at kT kF
      refine c_readStatement h4 hn hr S B H (fun a1 β1 c1 c1' e1 τ1 H1 B1 F1 => ⟨true, rfl, ?_⟩) (fun k p e1 τ1 R1 F1 => ⟨false, rfl, ?_⟩)
      · rw [e1] at sp
        rw [e1, bs_r] at kT kF
        rw [show (m : Int) + 1 = ((m + 1 : Nat) : Int) by omega]
        exact ih (m + 1) a1 β1 c1 c1' τ1 sp.2 (by have := sp.1; omega) (by have := sp.1; omega) B1 H1 (fun m2 β2 c2 c2' e2 τ2 h1 h2 h3 => kT m2 β2 c2 c2' e2 τ2 h1 h2 (F1.tr h3)) (fun k p e2 τ2 h1 h2 => kF k p e2 τ2 h1 (F1.tr h2))
      · rw [e1, bs_l] at kF
        have := kF k p rfl τ1 R1 F1
        exact bX4_read_43 (d := d + 42) ⟨fun _ => ⟨fun _ => this, fun q => tt_ff q⟩, fun q => tt_ff q⟩
theorem c_advance0 {op : Nat} {v : Int} (hv : v = (op : Int)) (h7 : hh + 7 < 72) (T : TokC r n τ) (h1 : τ 77 1 = (hh : Int)) (h2 : τ 77 2 = -1) (hs : τ (hh + 6) 1 = 0) (k1 : ∀ τ', (∀ o, o ≠ 77 → τ' o = τ o) → (∀ i, i < 2 → τ' 77 i = τ 77 i) → RdC r n hh 0 op [] (wr (wr (wr τ' 77 5 v) 77 7 0) 77 8 (-1)) → Q none τ') : M0 E d qX4_advance [vR 77] τ Q := by
  subst hv
  obtain ⟨m, m6, t3, tc, t2, tm⟩ := T
  obtain ⟨c1, c2, c3⟩ := tc 0 (by omega)
  refine mX4_advance ?_
  rw [h2, t3, show (-1 : Int) + 1 = 0 from rfl]
  refine ⟨⟨by omega, by omega⟩, fun q => by omega, fun _ => ⟨fun q => by omega, fun _ => bX4_advance_44 ⟨⟨by omega, by omega⟩, fun q => by omega, fun _ => ?_⟩⟩⟩
  rw [wr_same, wr_obj (show 73 ≠ 77 by omega), wr_obj (show 75 ≠ 77 by omega), show (0 : Int).toNat = 0 from rfl, c1, c3]
  refine ⟨by omega, by omega, fun q => by omega, fun _ => ⟨by omega, by omega, k1 _ (fun o ho => by rw [wr_obj ho, wr_obj ho, wr_obj ho]) (fun i hi => by rw [wr_row (by omega), wr_row (by omega), wr_row (by omega)]) ?_⟩⟩
  have O : ∀ o, o ≠ 77 → wr (wr (wr (wr (wr (wr τ 77 2 0) 77 3 (ckd (tk r n (tkE r n 0)))) 77 4 (cvl (tk r n (tkE r n 0)))) 77 5 (op : Int)) 77 7 0) 77 8 (-1) o = τ o := fun o ho => by rw [wr_obj ho, wr_obj ho, wr_obj ho, wr_obj ho, wr_obj ho, wr_obj ho]
  refine ⟨?_, ⟨0, m, by omega, m6, by rw [O 72 (by omega)]; exact t3, fun j hj => ?_, t2, tm, ?_, rfl⟩, ?_, ?_, ?_, by rw [O _ (by omega)]; exact hs, fun j hj => absurd hj (Nat.not_lt_zero _), ?_, wr_same⟩
  · rw [wr_row (by omega), wr_row (by omega), wr_row (by omega), wr_row (by omega), wr_row (by omega), wr_row (by omega)]; exact h1
  · unfold tkC; rw [O 73 (by omega), O 74 (by omega), O 75 (by omega)]; exact tc j hj
  · rw [wr_row (by omega), wr_row (by omega), wr_row (by omega), wr_row (by omega), wr_row (by omega), wr_same]; rfl
  · rw [wr_row (by omega), wr_row (by omega), wr_row (by omega), wr_row (by omega), wr_same]; rfl
  · rw [wr_row (by omega), wr_row (by omega), wr_row (by omega), wr_same]; rfl
  · rw [wr_row (by omega), wr_row (by omega), wr_same]
  · rw [wr_row (by omega), wr_same]
theorem c_clear (h4 : hh = 4 ∨ hh = 38) (k1 : ∀ τ', HbZ hh τ' → τ' (hh + 6) 1 = 0 → (∀ o, ¬ (hh ≤ o ∧ o < hh + 34) → τ' o = τ o) → Q none τ') : M0 E (d + 2) qX2_clear [vR hh] τ Q := by
  have k8 : KD (hh + 6 + 2) = some (.inl (.int, 3)) := by rcases h4 with h | h <;> subst h <;> rfl
  refine mX2_clear (kdR h4).1 (mX5_clear (kdR h4).2 (c_fillW k8 (by omega) (by omega) (by decide) (fun τ1 F1 N1 => ⟨rfl, rfl, k1 τ1 ⟨fun i hi => ?_, ?_, ?_, N1⟩ ?_ (fun o ho => ?_)⟩)))
  · rw [F1 hh (by omega), wr_obj (by omega)]
    have : i = 0 ∨ i = 1 ∨ i = 2 ∨ i = 3 ∨ i = 4 := by omega
    rcases this with h | h | h | h | h <;> subst h <;> simp [wr]
  · rw [F1 hh (by omega), wr_obj (by omega)]; simp [wr]
  · rw [F1 hh (by omega), wr_obj (by omega)]; simp [wr]
  · rw [F1 _ (by omega), wr_same]
  · have oh : o ≠ hh := by omega
    rw [F1 o (by omega), wr_obj (by omega), wr_obj oh, wr_obj oh, wr_obj oh, wr_obj oh, wr_obj oh, wr_obj oh, wr_obj oh]
/-- the reader's cells apart, and the house that it fills, all stays -/
def frB (hh : Nat) (τ τ' : mm_Mem) : Prop := (∀ o, o ≠ 77 → ¬ (hh ≤ o ∧ o < hh + 34) → τ' o = τ o) ∧ τ' 77 0 = τ 77 0
theorem c_read (h4 : hh = 4 ∨ hh = 38) (hn : n ≤ 1600) (hr : ∀ i, 0 ≤ r i ∧ r i ≤ 255) (T : TokC r n τ) (kT : ∀ m1 β1 c1 c1', hsP r n = .inr (m1, β1, c1, c1') → ∀ τ', RdE hh c1 τ' → HbC hh β1 τ' → frB hh τ τ' → Q (some (vI (m1 : Int))) τ') (kF : ∀ k p, hsP r n = .inl (k, p) → ∀ τ', RdF hh k p τ' → frB hh τ τ' → Q (some (vI (-1))) τ') : M0 E (d + 43) qX4_read [vR 77, vR hh] τ Q := by
  have h7 : hh + 7 < 72 := by omega
  refine mX4_read (d := d + 42) (kdR h4).1 ⟨hh, rfl, (kdR h4).1, c_clear (d := d + 40) h4 (fun τ1 Z1 s1 F1 => ⟨rfl, ?_⟩)⟩
  have T1 : TokC r n (wr τ1 77 2 (-1)) := by
    refine T.fr ?_ (fun o a b => ?_)
    · rw [wr_obj (by omega), F1 72 (by omega), wr_obj (by omega)]
    · rw [wr_obj (by omega), F1 o (by omega), wr_obj (by omega)]
  refine c_advance0 (op := 0) (v := 0) rfl h7 T1 (by rw [wr_row (by omega), F1 77 (by omega), wr_same]) wr_same (by rw [wr_obj (by omega)]; exact s1) (fun τ2 F2 G2 H2 => ⟨rfl, ?_⟩)
  generalize hσ : wr (wr (wr τ2 77 5 0) 77 7 0) 77 8 (-1) = σ at H2 ⊢
  have Oσ : ∀ o, o ≠ 77 → σ o = τ1 o := fun o ho => by rw [← hσ, wr_obj ho, wr_obj ho, wr_obj ho, F2 o ho, wr_obj ho]
  have Fσ : frB hh τ σ := ⟨fun o h1 h2 => by rw [Oσ o h1, F1 o h2, wr_obj h1], by rw [← hσ, wr_row (by omega), wr_row (by omega), wr_row (by omega), G2 0 (by omega), wr_row (by omega), F1 77 (by omega), wr_row (by omega)]⟩
  have up : ∀ τ', frS hh σ τ' → frB hh τ τ' := fun τ' F => ⟨fun o h1 h2 => (F.1 o h1 h2).trans (Fσ.1 o h1 h2), (F.2 0 (by omega)).trans Fσ.2⟩
  have Zσ : HbZ hh σ := by unfold HbZ; rw [Oσ hh (by omega), Oσ (hh + 8) (by omega)]; exact Z1
  have sp := si_he (r := r) (n := n) hr
  unfold hsP at kT kF
  refine c_readHead (d := d + 40) h4 hr Zσ H2 (fun a1 β1 c1 c1' e1 τ3 H3 B3 F3 => ⟨true, rfl, ?_⟩) (fun k p e1 τ3 R3 F3 => ⟨false, rfl, ?_⟩)
  · rw [e1] at sp
    rw [e1, bs_r] at kT kF
    exact c_readL (d := d) h4 hn hr (n + 1) 1 a1 β1 c1 c1' τ3 sp.2 (by omega) (by have := sp.1; omega) B3 H3 (fun m2 β2 c2 c2' e2 τ4 h1 h2 h3 => kT m2 β2 c2 c2' e2 τ4 h1 h2 (up τ4 (F3.tr h3))) (fun k p e2 τ4 h1 h2 => kF k p e2 τ4 h1 (up τ4 (F3.tr h2)))
  · rw [e1, bs_l] at kF
    have := kF k p rfl τ3 R3 (up τ3 F3)
    exact bX4_read_43 (d := d + 42) ⟨fun _ => ⟨fun _ => this, fun q => tt_ff q⟩, fun q => tt_ff q⟩
end CRead2
