/-! the reference reads numbers and names -/
theorem V0_rng {E : mm_Env} {d : Nat} {q : mm_Y} {pc : Nat} {ls : List (Option mm_PV)} {st : List mm_PV} {τ : mm_Mem} {Q : mm_Q0} {o k : Nat} {kd : mm_Kd} (h : KD o = some kd) (ho : 2 ≤ o) (hs : mm_slotI kd k = true) (K : inR (τ o k) → V0 E d q pc ls st τ Q) : V0 E d q pc ls st τ Q := by
  intro p l e s m args below meth c H locs la QM hC hR hS hL hret
  have r := hR.2.2.2.2.2 o k kd (KD_SH _ ho h) hs
  rw [fm_none (mm_R0_I h hs)] at r
  exact K r p l e s m args below meth c H locs la QM hC hR hS hL hret
theorem V0_val {E : mm_Env} {d : Nat} {q : mm_Y} {pc : Nat} {ls : List (Option mm_PV)} {st : List mm_PV} {τ : mm_Mem} {Q : mm_Q0} (K : inR (τ 140 6) → V0 E d q pc ls st τ Q) : V0 E d q pc ls st τ Q := V0_rng (o := 140) (k := 6) (kd := .inr 11) rfl (by omega) rfl K
def beP (r : Nat → Int) (n : Nat) (x : PzT) (k p : Nat) : Prop := x = .inl (k, p) ∨ ∃ a1 β1 c1 c1', x = .inr (a1, β1, c1, c1') ∧ tBb r n a1 = true ∧ k = 1 ∧ p = tPl r n a1
def szM (o : Nat) : Nat := if o = 145 ∨ o = 147 ∨ o = 148 then 3 else if o = 146 then 15 else if 149 ≤ o ∧ o ≤ 151 then 18 else if (153 ≤ o ∧ o ≤ 156) ∨ (158 ≤ o ∧ o ≤ 162) then 4 else 1
def frZ (bi : Nat) (τ τ' : mm_Mem) : Prop := (∀ o, (o < 140 ∨ o = 141 ∨ 172 < o) → τ' o = τ o) ∧ (∀ i, (i < 3 ∨ (9 < i ∧ i ≠ 38 ∧ i < 45) ∨ 49 < i) → τ' 140 i = τ 140 i) ∧ ∀ o i, 142 ≤ o → o ≤ 164 → ¬ (szM o * bi ≤ i ∧ i < szM o * bi + szM o) → τ' o i = τ o i
theorem frZ.rf {bi : Nat} {τ : mm_Mem} : frZ bi τ τ := ⟨fun _ _ => rfl, fun _ _ => rfl, fun _ _ _ _ _ => rfl⟩
theorem frZ.tr {bi : Nat} {a b c : mm_Mem} (h : frZ bi a b) (h' : frZ bi b c) : frZ bi a c := ⟨fun o x => (h'.1 o x).trans (h.1 o x), fun i x => (h'.2.1 i x).trans (h.2.1 i x), fun o i x y z => (h'.2.2 o i x y z).trans (h.2.2 o i x y z)⟩
theorem frX.z {bi : Nat} {a b : mm_Mem} (h : frX a b) : frZ bi a b := ⟨fun o x => h.1 o (by omega), h.2, fun o i x y _ => by rw [h.1 o (by omega)]⟩
theorem frA.z {bi : Nat} {a b : mm_Mem} (h : frA a b) : frZ bi a b := h.x.z
theorem frZ.w {bi o i : Nat} {a b : mm_Mem} {v : Int} (h : frZ bi a b) (ho : 142 ≤ o ∧ o ≤ 164) (hi : szM o * bi ≤ i ∧ i < szM o * bi + szM o) : frZ bi a (wr b o i v) := ⟨fun x p => (wr_obj (by omega)).trans (h.1 x p), fun j p => by rw [wr_obj (by omega)]; exact h.2.1 j p, fun x j p q z => by
  by_cases e : x = o
  · subst e
    rw [wr_row (by rintro rfl; exact z hi)]; exact h.2.2 x j p q z
  · rw [wr_obj e]; exact h.2.2 x j p q z⟩
/-- between two tokens -/
def PQ (r : Nat → Int) (n bi a : Nat) (τ : mm_Mem) : Prop := (txM r n τ ∧ τ 140 9 = -1) ∧ TokM r n a τ ∧ τ 140 8 = 0 ∧ τ 140 39 = (bi : Int)
section MName
variable {E : mm_Env} {d : Nat} {τ : mm_Mem} {Q : mm_Q0} {r : Nat → Int} {n bi : Nat} {a : Nat}
theorem PQ.fr {τ' : mm_Mem} (H : PQ r n bi a τ) (e0 : ∀ i, (i < 10 ∨ i = 39) → τ' 140 i = τ 140 i) (e1 : τ' 141 = τ 141) : PQ r n bi a τ' := by
  obtain ⟨X, T, h8, h39⟩ := H
  exact ⟨⟨⟨fun i hi => by rw [e1]; exact X.1.1 i hi, by rw [e0 2 (by omega)]; exact X.1.2⟩, by rw [e0 9 (by omega)]; exact X.2⟩, T.fr (fun i _ _ => e0 i (by omega)), by rw [e0 8 (by omega)]; exact h8, by rw [e0 39 (by omega)]; exact h39⟩
theorem PQ.wo {o i : Nat} {v : Int} (H : PQ r n bi a τ) (ho : 142 ≤ o) : PQ r n bi a (wr τ o i v) := H.fr (fun j _ => by rw [wr_obj (by omega)]) (wr_obj (by omega))
/-- on to the next token -/
theorem m_next (hn : n ≤ 1600) (hr : ∀ i, 0 ≤ r i ∧ r i ≤ 255) (ha : a ≤ n) (k2 : 2 ≤ (tk r n a).1) (H : PQ r n bi a τ) (kg : tBb r n (tN r n a) = false → ∀ τ', PQ r n bi (tN r n a) τ' → frA τ τ' → Q none τ') (kb : tBb r n (tN r n a) = true → ∀ τ', PF 1 (tPl r n (tN r n a)) τ' → frA τ τ' → Q none τ') : M0 E (d + 1) qX11_ahead [vR 140] τ Q := by
  obtain ⟨X, T, h8, h39⟩ := H
  exact m_aheadN hn hr ha k2 X.1 (fun _ => X.2) h8 T (fun z τ' t1 t2 t3 t4 => kg z τ' ⟨⟨X.1.fr t4, t3 t2⟩, t1, t2, by rw [t4.2 39 (by omega)]; exact h39⟩ t4) (fun z τ' t1 _ t3 => kb z τ' t1 t3)
theorem frA.bl {τ' : mm_Mem} (F : ∀ o, o ≠ 140 → τ' o = τ o) (G : ∀ i, i ≠ 8 → i ≠ 9 → τ' 140 i = τ 140 i) : frA τ τ' := ⟨F, fun i x => G i (by omega) (by omega)⟩
theorem m_bl {k : Nat} (hk : k ≤ 9) (hn : n ≤ 1600) (ha : a ≤ n) (hr : ∀ i, 0 ≤ r i ∧ r i ≤ 255) (H : PQ r n bi a τ) (k1 : ∀ τ', PF k (tPl r n a) τ' → τ' 140 6 = τ 140 6 → τ' 140 7 = τ 140 7 → frA τ τ' → Q none τ') : M0 E d qX11_blame [vR 140, vI (k : Int), vI (τ 140 4)] τ Q := by
  obtain ⟨X, T, h8, h39⟩ := H
  have tp := tPl_n ha hr
  refine m_blame (f := (0, τ 140 9)) (by rw [h8]) (Int.le_refl 0) ⟨by omega, by omega⟩ (by rw [T.2.1]; unfold tPl at tp; exact ⟨by omega, by omega⟩) (fun τ2 u1 F G => ?_)
  rw [if_pos rfl, T.2.1] at u1
  exact k1 τ2 ⟨congrArg Prod.fst u1, congrArg Prod.snd u1⟩ (G 6 (by omega) (by omega)) (G 7 (by omega) (by omega)) (frA.bl F G)
theorem TokM.kd (ha : a ≤ n) (hr : ∀ i, 0 ≤ r i ∧ r i ≤ 255) (T : TokM r n a τ) : (τ 140 3 = 2 ↔ tNb r n a = true) ∧ (τ 140 3 = 1 ↔ (tk r n a).1 = 4) ∧ (tNb r n a = true → τ 140 6 = tV r n a) := by
  have tr := tk_r (r := r) (n := n) ha hr
  have s := rf_s tr.2.1
  rw [T.1]
  refine ⟨s.2.2.1.trans decide_eq_true_iff.symm, s.2.1, fun y => ?_⟩
  exact T.2.2.2.1 (Or.inr (of_decide_eq_true y))
theorem m_is2 {x lo hi : Int} (hx : inR x) (hl : inR lo) (hh : inR hi) (k1 : Q (some (vB (decide (lo ≤ x ∧ x ≤ hi)))) τ) : M0 E d qX11_is [vI x, vI lo, vI hi] τ Q := by
  refine mX11_is ⟨hx, hl, fun q => ?_, fun q => ⟨hh, fun q2 => ?_, fun q2 => ?_⟩⟩
  · rw [decide_eq_false (by omega)] at k1; exact k1
  · rw [decide_eq_false (by omega)] at k1; exact k1
  · rw [decide_eq_true (by omega)] at k1; exact k1
theorem m_number {lo hi : Int} (hn : n ≤ 1600) (hr : ∀ i, 0 ≤ r i ∧ r i ≤ 255) (ha : a ≤ n) (hl : inR lo) (hh : inR hi) (H : PQ r n bi a τ) (kT : (∀ K, nuP r n a lo hi K = K (tN r n a) (tV r n a)) → lo ≤ tV r n a → tV r n a ≤ hi → a < tN r n a → tN r n a ≤ n → tBb r n (tN r n a) = false → ∀ τ', PQ r n bi (tN r n a) τ' → frA τ τ' → Q (some (vI (tV r n a))) τ') (kF : ∀ k p, 1 ≤ k → (∀ K, (∀ b v, tBb r n b = true → b ≤ n → beP r n (K b v) 1 (tPl r n b)) → beP r n (nuP r n a lo hi K) k p) → ∀ v τ', inR v → PF k p τ' → frA τ τ' → Q (some (vI v)) τ') : M0 E (d + 2) qX11_number [vR 140, vI lo, vI hi] τ Q := by
  obtain ⟨X, T, h8, h39⟩ := id H
  obtain ⟨n1, -, n2⟩ := T.kd ha hr
  have tr := tk_r (r := r) (n := n) ha hr
  refine mX11_number (d := d + 1) ⟨fun _ => ⟨fun q => ?_, fun q => ?_⟩, fun q => by omega⟩
  · have y := n1.mp q
    have v6 := n2 y
    have vr : 0 ≤ tV r n a ∧ tV r n a ≤ 9999 := tr.2.2.2.2.2.1 (of_decide_eq_true y)
    have k2 : 2 ≤ (tk r n a).1 := by have := of_decide_eq_true y; omega
    have t := tN_lt ha hr k2
    refine bX11_number_26 (d := d + 1) ⟨fun q => absurd h8 q, fun _ => ?_⟩
    rw [v6]
    refine m_is2 ⟨by omega, by omega⟩ hl hh ⟨_, rfl, fun z => ⟨fun q => absurd h8 q, fun _ => ?_⟩, fun z => ?_⟩
    · have z := of_decide_eq_true z
      have ev : ∀ K, nuP r n a lo hi K = K (tN r n a) (tV r n a) := fun K => by unfold nuP; rw [if_pos y, if_pos z]
      refine m_next hn hr ha k2 H (fun nb τ' H' F => ⟨rfl, ?_⟩) (fun b τ' R F => ⟨rfl, ?_⟩)
      · rw [v6]; exact kT ev z.1 z.2 t.1 t.2 nb τ' H' F
      · rw [v6]; exact kF 1 _ (by omega) (fun K hK => by rw [ev]; exact hK _ _ b t.2) _ τ' ⟨by omega, by omega⟩ R F
    · have z := of_decide_eq_false z
      refine m_bl (k := 4) (by omega) hn ha hr H (fun τ' R e6 _ F => ⟨rfl, fun _ => ?_, fun q => by have := R.1; omega⟩)
      rw [e6, v6]
      exact kF 4 _ (by omega) (fun K _ => Or.inl (by unfold nuP; rw [if_pos y, if_neg z])) _ τ' ⟨by omega, by omega⟩ R F
  · have y : ¬ tNb r n a = true := fun z => q (n1.mpr z)
    refine m_bl (k := 1) (by omega) hn ha hr H (fun τ' R e6 _ F => ⟨rfl, V0_val (fun r6 => bX11_number_26 (d := d + 1) ⟨fun _ => ⟨fun _ => ?_, fun q => by have := R.1; omega⟩, fun q => by have := R.1; omega⟩)⟩)
    exact kF 1 _ (by omega) (fun K _ => Or.inl (by unfold nuP; rw [if_neg y])) _ τ' r6 R F
theorem m_numberF {lo hi : Int} {k p : Nat} (hk : 1 ≤ k) (R : PF k p τ) (k1 : Q (some (vI 0)) τ) : M0 E (d + 1) qX11_number [vR 140, vI lo, vI hi] τ Q := mX11_number ⟨fun q => by have := R.1; omega, fun _ => k1⟩
theorem m_mustW {i : Nat} {x : Int} (hn : n ≤ 1600) (hr : ∀ i, 0 ≤ r i ∧ r i ≤ 255) (ha : a ≤ n) (hi : i < 29) (hx : x = owW.getD i 0) (H : PQ r n bi a τ) (kT : (∀ K, wdP r n a i K = K (tN r n a)) → a < tN r n a → tN r n a ≤ n → tBb r n (tN r n a) = false → ∀ τ', PQ r n bi (tN r n a) τ' → frA τ τ' → Q none τ') (kF : ∀ k p, 1 ≤ k → (∀ K, (∀ b, tBb r n b = true → b ≤ n → beP r n (K b) 1 (tPl r n b)) → beP r n (wdP r n a i K) k p) → ∀ τ', PF k p τ' → frA τ τ' → Q none τ') : M0 E (d + 2) qX11_must_ [vR 140, vL x] τ Q := by
  obtain ⟨X, T, h8, h39⟩ := id H
  refine mX11_must_ (d := d + 1) ⟨fun _ => m_isWord ha hr hi hx (fun _ => X.2) T ⟨_, rfl, fun y => ⟨fun q => absurd h8 q, fun _ => ?_⟩, fun y => ?_⟩, fun q => by omega⟩
  · have t := tW_n ha hr y
    exact m_next hn hr ha (by rw [(tW_k y).1]; omega) H (fun nb τ' H' F => ⟨rfl, kT (fun K => wd_t y) t.1 t.2 nb τ' H' F⟩) (fun b τ' R F => ⟨rfl, kF 1 _ (by omega) (fun K hK => by rw [wd_t y]; exact hK _ b t.2) τ' R F⟩)
  · exact m_bl (k := 1) (by omega) hn ha hr H (fun τ' R _ _ F => ⟨rfl, fun _ => kF 1 _ (by omega) (fun K _ => Or.inl (wd_f y)) τ' R F, fun q => by have := R.1; omega⟩)
theorem m_mustF {x : Int} {k p : Nat} (hk : 1 ≤ k) (R : PF k p τ) (k1 : Q none τ) : M0 E (d + 1) qX11_must_ [vR 140, vL x] τ Q := mX11_must_ ⟨fun q => by have := R.1; omega, fun _ => k1⟩
theorem m_mustS {c : Int} (hn : n ≤ 1600) (hr : ∀ i, 0 ≤ r i ∧ r i ≤ 255) (ha : a ≤ n) (hc : inR c) (H : PQ r n bi a τ) (kT : (∀ K, sgP r n a c K = K (tN r n a)) → a < tN r n a → tN r n a ≤ n → tBb r n (tN r n a) = false → ∀ τ', PQ r n bi (tN r n a) τ' → frA τ τ' → Q none τ') (kF : ∀ k p, 1 ≤ k → (∀ K, (∀ b, tBb r n b = true → b ≤ n → beP r n (K b) 1 (tPl r n b)) → beP r n (sgP r n a c K) k p) → ∀ τ', PF k p τ' → frA τ τ' → Q none τ') : M0 E (d + 2) qX11_must [vR 140, vI c] τ Q := by
  obtain ⟨X, T, h8, h39⟩ := id H
  refine mX11_must (d := d + 1) (m_isSign ha hr hc T ⟨_, rfl, fun y => ⟨fun q => absurd h8 q, fun _ => ?_⟩, fun y => ?_⟩)
  · have t := tS_n ha hr y
    exact m_next hn hr ha (by rw [(tS_k y).1]; omega) H (fun nb τ' H' F => ⟨rfl, kT (fun K => sg_t y) t.1 t.2 nb τ' H' F⟩) (fun b τ' R F => ⟨rfl, kF 1 _ (by omega) (fun K hK => by rw [sg_t y]; exact hK _ b t.2) τ' R F⟩)
  · exact m_bl (k := 1) (by omega) hn ha hr H (fun τ' R _ _ F => ⟨rfl, fun _ => kF 1 _ (by omega) (fun K _ => Or.inl (sg_f y)) τ' R F, fun q => by have := R.1; omega⟩)
theorem ow_list {v : Int} : (∀ i, i < 29 → v ≠ owW.getD i 0) ↔ ¬ v ∈ owW := by
  constructor
  · intro h hm
    obtain ⟨i, hi, e⟩ := List.mem_iff_getElem.mp hm
    refine h i hi ?_
    rw [List.getD_eq_getElem?_getD, List.getElem?_eq_getElem hi]; exact e.symm
  · intro h i hi e
    refine h ?_
    have hi' : i < owW.length := hi
    rw [e, List.getD_eq_getElem?_getD, List.getElem?_eq_getElem hi']
    exact List.getElem_mem hi'
theorem m_isOwn {v : Int} (hv : nmW v) (k1 : Q (some (vB (decide (owI (nm5 v) ≠ -1)))) τ) : M0 E d qX11_isOwn [vR 140, vL v] τ Q := by
  have vr := nmW_r hv
  have on := ow_no hv
  rw [ow_list] at on
  have yes : v ∈ owW → Q (some (vB true)) τ := fun h => by rw [decide_eq_true (p := owI (nm5 v) ≠ -1) (fun z => on.mp z h)] at k1; exact k1
  have no : ¬ v ∈ owW → Q (some (vB false)) τ := fun h => by rw [decide_eq_false (p := owI (nm5 v) ≠ -1) (fun z => z (on.mpr h))] at k1; exact k1
  refine mX11_isOwn ⟨⟨by omega, by omega⟩, ?_⟩
  repeat' (first | intro _ | constructor)
  all_goals first
    | exact yes (by subst_vars; decide)
    | exact no (by simp only [owW, List.mem_cons, List.not_mem_nil, or_false]; omega)
end MName
