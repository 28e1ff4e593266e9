/-! the class reads numbers and names; the house that it fills -/
def frS (hh : Nat) (τ τ' : mm_Mem) : Prop := (∀ o, o ≠ 77 → ¬ (hh ≤ o ∧ o < hh + 34) → τ' o = τ o) ∧ ∀ i, i < 2 → τ' 77 i = τ 77 i
theorem frS.rf {hh : Nat} {τ : mm_Mem} : frS hh τ τ := ⟨fun _ _ _ => rfl, fun _ _ => rfl⟩
theorem frS.tr {hh : Nat} {a b c : mm_Mem} (h : frS hh a b) (h' : frS hh b c) : frS hh a c := ⟨fun o x y => (h'.1 o x y).trans (h.1 o x y), fun i x => (h'.2 i x).trans (h.2 i x)⟩
theorem frR.s {hh : Nat} {a b : mm_Mem} (h : frR hh a b) : frS hh a b := ⟨fun o x y => h.1 o x (by omega) (by omega), h.2.2⟩
theorem frS.w {hh o i : Nat} {a b : mm_Mem} {v : Int} (h4 : hh = 4 ∨ hh = 38) (h : frS hh a b) (ho : hh ≤ o ∧ o < hh + 34) : frS hh a (wr b o i v) := ⟨fun x p q => (wr_obj (by rintro rfl; exact q ho)).trans (h.1 x p q), fun j p => by rw [wr_obj (by omega)]; exact h.2 j p⟩
def tlF (β : mm_Mem) (t : Nat) : Nat → Nat := fun i => if (i : Int) < β 0 4 then (β 30 (5 * t + i)).toNat else 0
def hT (hh : Nat) (β τ : mm_Mem) : Prop := ∀ t : Nat, (t : Int) < β 0 5 → τ (hh + 2) t = (tp (tlF β t) : Nat) ∧ τ (hh + 3) t = β 31 t
def hR (hh : Nat) (β τ : mm_Mem) : Prop := ∀ k j : Nat, k < 3 → (j : Int) < β 0 (8 + k) → τ (hh + 9) (6 * k + j) = β 40 (6 * k + j) ∧ τ (hh + 10) (6 * k + j) = β 41 (6 * k + j) ∧ τ (hh + 11) (6 * k + j) = β 42 (6 * k + j)
def HbC (hh : Nat) (β τ : mm_Mem) : Prop := gH hh β τ ∧ gN hh β τ ∧ gD hh β τ ∧ gP hh β τ ∧ hT hh β τ ∧ hR hh β τ
theorem HbC.cg {hh : Nat} {β τ τ' : mm_Mem} (H : HbC hh β τ) (hd : β 0 6 ≤ 4) (hp : β 0 7 ≤ 4) (e : ∀ o, hh ≤ o → o < hh + 34 → o ≠ hh + 6 → o ≠ hh + 7 → τ' o = τ o) : HbC hh β τ' := by
  obtain ⟨⟨a1, a2, a3, a4⟩, ⟨b1, b2, b3⟩, c, d, f, g⟩ := H
  refine ⟨⟨fun i hi => ?_, ?_, ?_, fun j hj => ?_⟩, ⟨fun t q => ?_, fun d q => ?_, fun p q => ?_⟩, fun d q => ?_, fun p q i hi => ?_, fun t q => ?_, fun k j hk q => ?_⟩
  · rw [e hh (by omega) (by omega) (by omega) (by omega)]; exact a1 i hi
  · rw [e hh (by omega) (by omega) (by omega) (by omega)]; exact a2
  · rw [e hh (by omega) (by omega) (by omega) (by omega)]; exact a3
  · rw [e (hh + 8) (by omega) (by omega) (by omega) (by omega)]; exact a4 j hj
  · rw [e (hh + 1) (by omega) (by omega) (by omega) (by omega)]; exact b1 t q
  · rw [e _ (by omega) (by omega) (by omega) (by omega)]; exact b2 d q
  · rw [e _ (by omega) (by omega) (by omega) (by omega)]; exact b3 p q
  · rw [e (hh + 14 + 4 * d) (by omega) (by omega) (by omega) (by omega), e (hh + 14 + 4 * d + 1) (by omega) (by omega) (by omega) (by omega), e (hh + 14 + 4 * d + 2) (by omega) (by omega) (by omega) (by omega), e (hh + 14 + 4 * d + 3) (by omega) (by omega) (by omega) (by omega)]; exact c d q
  · rw [e _ (by omega) (by omega) (by omega) (by omega)]; exact d p q i hi
  · rw [e (hh + 2) (by omega) (by omega) (by omega) (by omega), e (hh + 3) (by omega) (by omega) (by omega) (by omega)]; exact f t q
  · rw [e (hh + 9) (by omega) (by omega) (by omega) (by omega), e (hh + 10) (by omega) (by omega) (by omega) (by omega), e (hh + 11) (by omega) (by omega) (by omega) (by omega)]; exact g k j hk q
theorem HbC.r {hh : Nat} {β τ τ' : mm_Mem} (h4 : hh = 4 ∨ hh = 38) (H : HbC hh β τ) (hd : β 0 6 ≤ 4) (hp : β 0 7 ≤ 4) (F : frR hh τ τ') : HbC hh β τ' := H.cg hd hp (fun o h1 h2 h3 h4 => F.1 o (by omega) h3 h4)
section CName
variable {E : mm_Env} {d : Nat} {τ : mm_Mem} {Q : mm_Q0} {r : Nat → Int} {n hh : Nat} {a op : Nat} {code : List Int}
theorem RdC.cg {τ' : mm_Mem} (H : RdC r n hh a op code τ) (e7 : ∀ i, i ≠ 6 → τ' 77 i = τ 77 i) (e : ∀ o, o = 72 ∨ o = 73 ∨ o = 74 ∨ o = 75 ∨ o = hh + 7 → τ' o = τ o) (e6 : τ' (hh + 6) 1 = τ (hh + 6) 1) : RdC r n hh a op code τ' := by
  obtain ⟨g1, ⟨i, m, im, m6, t3, tc, t2, tm, x2, ea⟩, g3, g4, g5, g6, g7, g8, g9⟩ := H
  refine ⟨by rw [e7 1 (by omega)]; exact g1, ⟨i, m, im, m6, by rw [e 72 (by omega)]; exact t3, fun j hj => ?_, t2, tm, by rw [e7 2 (by omega)]; exact x2, ea⟩, by rw [e7 3 (by omega)]; exact g3, by rw [e7 4 (by omega)]; exact g4, by rw [e7 5 (by omega)]; exact g5, by rw [e6]; exact g6, fun j hj => by rw [e (hh + 7) (by omega)]; exact g7 j hj, by rw [e7 7 (by omega)]; exact g8, by rw [e7 8 (by omega)]; exact g9⟩
  unfold tkC; rw [e 73 (by omega), e 74 (by omega), e 75 (by omega)]; exact tc j hj
theorem RdC.got (h7 : hh + 7 < 72) {v : Int} (H : RdC r n hh a op code τ) : RdC r n hh a op code (wr τ 77 6 v) := H.cg (fun i hi => wr_row (by omega)) (fun o ho => wr_obj (by omega)) (by rw [wr_obj (by omega)])
theorem RdC.ow {o i : Nat} {v : Int} (h4 : hh = 4 ∨ hh = 38) (ho : hh ≤ o ∧ o < hh + 34) (h6 : o ≠ hh + 6 ∧ o ≠ hh + 7) (H : RdC r n hh a op code τ) : RdC r n hh a op code (wr τ o i v) := H.cg (fun j hi => by rw [wr_obj (by omega)]) (fun x hx => wr_obj (by omega)) (by rw [wr_obj (by omega)])
theorem RdC.num (ha : a ≤ n) (hr : ∀ i, 0 ≤ r i ∧ r i ≤ 255) (H : RdC r n hh a op code τ) : (τ 77 3 = 3 ↔ tNb r n a = true) ∧ (tNb r n a = true → τ 77 4 = tV r n a) := by
  obtain ⟨-, -, h3, h4, -⟩ := H
  have tr := tk_r (r := r) (n := n) ha hr
  rw [h3, h4, (ckd_s tr.2.1).2.1]
  unfold tNb
  refine ⟨decide_eq_true_iff.symm, fun y => ?_⟩
  have y := of_decide_eq_true y
  unfold cvl; rw [if_neg (by omega)]; rfl
theorem RdC.nam (ha : a ≤ n) (hr : ∀ i, 0 ≤ r i ∧ r i ≤ 255) (H : RdC r n hh a op code τ) : (τ 77 3 = 5 ↔ nmB r n a = true) ∧ (nmB r n a = true → τ 77 4 = nm5 (tV r n a)) := by
  obtain ⟨-, -, h3, h4, -⟩ := H
  have tr := tk_r (r := r) (n := n) ha hr
  rw [h3, h4]
  unfold nmB
  refine ⟨?_, fun y => ?_⟩
  · rw [decide_eq_true_iff]
    unfold ckd
    by_cases q : (tk r n a).1 = 4
    · rw [if_pos q]
      split
      · rename_i z; exact ⟨fun _ => ⟨q, z⟩, fun _ => rfl⟩
      · rename_i z; exact ⟨fun y => by omega, fun y => absurd y.2 z⟩
    · rw [if_neg q]
      exact ⟨fun y => by omega, fun y => absurd y.1 q⟩
  · have y := of_decide_eq_true y
    unfold cvl; rw [if_pos y.1, if_pos y.2]; rfl
theorem c_readNumber {lo hi : Int} (h7 : hh + 7 < 72) (ha : a ≤ n) (hr : ∀ i, 0 ≤ r i ∧ r i ≤ 255) (hlo : inR lo) (hhi : inR hi) (H : RdC r n hh a op code τ) (kT : (∀ K, nuP r n a lo hi K = K (tN r n a) (tV r n a)) → tNb r n a = true → lo ≤ tV r n a → tV r n a ≤ hi → a < tN r n a → tN r n a ≤ n → ∀ τ', RdC r n hh (tN r n a) op code τ' → τ' 77 6 = tV r n a → frR hh τ τ' → Q (some (vB true)) τ') (kF : ∀ k p, (∀ K, nuP r n a lo hi K = .inl (k, p)) → ∀ τ', RdF hh k p τ' → frR hh τ τ' → Q (some (vB false)) τ') : M0 E (d + 1) qX4_readNumber [vR 77, vI lo, vI hi] τ Q := by
  obtain ⟨n1, n2⟩ := H.num ha hr
  have H2 : ∀ {v : Int}, RdC r n hh a op code (wr τ 77 6 v) := H.got h7
  have F2 : ∀ {v : Int}, frR hh τ (wr τ 77 6 v) := frR.rf.w (by omega) (by omega)
  refine mX4_readNumber ⟨fun q => ⟨hlo, fun q2 => ?_, fun q2 => ⟨hhi, fun q3 => ?_, fun q3 => ?_⟩⟩, fun q => ?_⟩
  · have y := n1.mp q
    rw [n2 y] at q2 ⊢
    exact c_fail (k := 4) h7 (by omega) H2 (fun τ' t1 t2 => ⟨_, rfl, kF 4 _ (fun K => by unfold nuP; rw [if_pos y, if_neg (by omega)]) τ' t1 (F2.tr t2)⟩)
  · have y := n1.mp q
    rw [n2 y] at q2 q3 ⊢
    have t := tN_lt ha hr (by have := of_decide_eq_true y; omega)
    exact c_advance h7 (by have := of_decide_eq_true y; omega) H2 (fun τ' t1 t2 t3 => ⟨rfl, kT (fun K => by unfold nuP; rw [if_pos y, if_pos ⟨by omega, q3⟩]) y (by omega) q3 t.1 t.2 τ' t1 (by rw [t3 6 (by omega), wr_same]) (F2.tr t2)⟩)
  · have y := n1.mp q
    rw [n2 y] at q2 q3 ⊢
    exact c_fail (k := 4) h7 (by omega) H2 (fun τ' t1 t2 => ⟨_, rfl, kF 4 _ (fun K => by unfold nuP; rw [if_pos y, if_neg (by omega)]) τ' t1 (F2.tr t2)⟩)
  · have y : ¬ tNb r n a = true := fun z => q (n1.mpr z)
    exact c_fail (k := 1) h7 (by omega) H (fun τ' t1 t2 => ⟨_, rfl, kF 1 _ (fun K => by unfold nuP; rw [if_neg y]) τ' t1 t2⟩)
theorem nm5_R {v : Int} (h : nmW v) : inR (nm5 v) := by
  obtain ⟨m, f, hf, rfl⟩ := h
  rw [nm5_pk hf]
  have r1 := n5_r hf
  have : (32 : Nat) ^ 6 = 1073741824 := by decide
  exact ⟨by omega, by omega⟩
theorem nm5_iff {v w : Int} (h : nmW v) (h' : nmW w) : nm5 v = nm5 w ↔ v = w := ⟨nm5_inj h h', fun e => by rw [e]⟩
theorem c_tuneNamedL {β : mm_Mem} {v : Int} (kd : KD hh = some (.inr 2)) (N : gN hh β τ) (W : wfNm β) (h2 : τ hh 2 = β 0 5) (h5 : 0 ≤ β 0 5 ∧ β 0 5 ≤ 3) (hv : nmW v) : ∀ (c i : Nat), (i : Int) + c = β 0 5 → Q (some (vI (fsA (fun i => decide (β 2 i = v)) c i))) τ → V0 E d qX2_tuneNamed 2 [some (vR hh), some (vI (nm5 v)), some (vI (i : Int))] [] τ Q
  | 0, i, hi, k1 => bX2_tuneNamed_2 kd ⟨⟨by omega, by omega⟩, fun _ => k1, fun q => by omega⟩
  | c + 1, i, hi, k1 => by
    refine bX2_tuneNamed_2 kd ⟨⟨by omega, by omega⟩, fun q => by omega, fun _ => ⟨fun q => by omega, fun _ => ⟨by omega, by omega, nm5_R hv, ?_⟩⟩⟩
    rw [Int.toNat_natCast, N.1 i (by omega), ne_eq, nm5_iff (W.1 i (by omega)) hv]
    rw [fsA] at k1
    refine ⟨fun q => ?_, fun q => ?_⟩
    · rw [if_neg (by rw [decide_eq_false q]; decide)] at k1
      rw [show (i : Int) + 1 = ((i + 1 : Nat) : Int) by omega]
      exact c_tuneNamedL kd N W h2 h5 hv c (i + 1) (by omega) k1
    · rw [if_pos (decide_eq_true q)] at k1; exact k1
theorem c_doorNamedL {β : mm_Mem} {v : Int} (kd : KD hh = some (.inr 2)) (N : gN hh β τ) (W : wfNm β) (h2 : τ hh 3 = β 0 6) (h5 : 0 ≤ β 0 6 ∧ β 0 6 ≤ 4) (hv : nmW v) : ∀ (c i : Nat), (i : Int) + c = β 0 6 → Q (some (vI (fsA (fun i => decide (β 3 i = v)) c i))) τ → V0 E d qX2_doorNamed 2 [some (vR hh), some (vI (nm5 v)), some (vI (i : Int))] [] τ Q
  | 0, i, hi, k1 => bX2_doorNamed_2 kd ⟨⟨by omega, by omega⟩, fun _ => k1, fun q => by omega⟩
  | c + 1, i, hi, k1 => by
    refine bX2_doorNamed_2 kd ⟨⟨by omega, by omega⟩, fun q => by omega, fun _ => ⟨fun q => by omega, fun _ => ⟨by omega, by omega, nm5_R hv, ?_⟩⟩⟩
    rw [Int.toNat_natCast, N.2.1 i (by omega), ne_eq, nm5_iff (W.2.1 i (by omega)) hv]
    rw [fsA] at k1
    refine ⟨fun q => ?_, fun q => ?_⟩
    · rw [if_neg (by rw [decide_eq_false q]; decide)] at k1
      rw [show (i : Int) + 1 = ((i + 1 : Nat) : Int) by omega]
      exact c_doorNamedL kd N W h2 h5 hv c (i + 1) (by omega) k1
    · rw [if_pos (decide_eq_true q)] at k1; exact k1
theorem c_personNamedL {β : mm_Mem} {v : Int} (kd : KD hh = some (.inr 2)) (N : gN hh β τ) (W : wfNm β) (h2 : τ hh 4 = β 0 7) (h5 : 0 ≤ β 0 7 ∧ β 0 7 ≤ 4) (hv : nmW v) : ∀ (c i : Nat), (i : Int) + c = β 0 7 → Q (some (vI (fsA (fun i => decide (β 4 i = v)) c i))) τ → V0 E d qX2_personNamed 2 [some (vR hh), some (vI (nm5 v)), some (vI (i : Int))] [] τ Q
  | 0, i, hi, k1 => bX2_personNamed_2 kd ⟨⟨by omega, by omega⟩, fun _ => k1, fun q => by omega⟩
  | c + 1, i, hi, k1 => by
    refine bX2_personNamed_2 kd ⟨⟨by omega, by omega⟩, fun q => by omega, fun _ => ⟨fun q => by omega, fun _ => ⟨by omega, by omega, nm5_R hv, ?_⟩⟩⟩
    rw [Int.toNat_natCast, N.2.2 i (by omega), ne_eq, nm5_iff (W.2.2 i (by omega)) hv]
    rw [fsA] at k1
    refine ⟨fun q => ?_, fun q => ?_⟩
    · rw [if_neg (by rw [decide_eq_false q]; decide)] at k1
      rw [show (i : Int) + 1 = ((i + 1 : Nat) : Int) by omega]
      exact c_personNamedL kd N W h2 h5 hv c (i + 1) (by omega) k1
    · rw [if_pos (decide_eq_true q)] at k1; exact k1
/-- the state of a reading -/
theorem c_tuneNamed {β : mm_Mem} {v : Int} (h4 : hh = 4 ∨ hh = 38) (B : HbC hh β τ) (W : wfNm β) (S : siH β) (hv : nmW v) (k1 : Q (some (vI (fnd (β 2) (β 0 5) v))) τ) : M0 E d qX2_tuneNamed [vR hh, vI (nm5 v)] τ Q := by
  have s := S.1
  exact mX2_tuneNamed (kdR h4).1 (c_tuneNamedL (kdR h4).1 B.2.1 W (B.1.1 2 (by omega)) (by omega) hv (β 0 5).toNat 0 (by omega) k1)
theorem c_doorNamed {β : mm_Mem} {v : Int} (h4 : hh = 4 ∨ hh = 38) (B : HbC hh β τ) (W : wfNm β) (S : siH β) (hv : nmW v) (k1 : Q (some (vI (fnd (β 3) (β 0 6) v))) τ) : M0 E d qX2_doorNamed [vR hh, vI (nm5 v)] τ Q := by
  have s := S.1
  exact mX2_doorNamed (kdR h4).1 (c_doorNamedL (kdR h4).1 B.2.1 W (B.1.1 3 (by omega)) (by omega) hv (β 0 6).toNat 0 (by omega) k1)
theorem c_personNamed {β : mm_Mem} {v : Int} (h4 : hh = 4 ∨ hh = 38) (B : HbC hh β τ) (W : wfNm β) (S : siH β) (hv : nmW v) (k1 : Q (some (vI (fnd (β 4) (β 0 7) v))) τ) : M0 E d qX2_personNamed [vR hh, vI (nm5 v)] τ Q := by
  have s := S.1
  exact mX2_personNamed (kdR h4).1 (c_personNamedL (kdR h4).1 B.2.1 W (B.1.1 4 (by omega)) (by omega) hv (β 0 7).toNat 0 (by omega) k1)
theorem fnd_R {f : Nat → Int} {m v : Int} (hm : 0 ≤ m ∧ m ≤ 100) : inR (fnd f m v) ∧ -1 ≤ fnd f m v := by
  have := fs_r (P := fun i => decide (f i = v)) m.toNat 0
  unfold fnd; exact ⟨⟨by omega, by omega⟩, by omega⟩
theorem c_isTaken {β : mm_Mem} {v : Int} (h4 : hh = 4 ∨ hh = 38) (B : HbC hh β τ) (W : wfNm β) (S : siH β) (hv : nmW v) (k1 : Q (some (vB (tkA β v))) τ) : M0 E (d + 1) qX2_isTaken [vR hh, vI (nm5 v)] τ Q := by
  have s := S.1
  unfold tkA at k1
  refine mX2_isTaken (kdR h4).1 (c_tuneNamed h4 B W S hv ⟨_, rfl, (fnd_R (by omega)).1, fun q => ?_, fun q => c_doorNamed h4 B W S hv ⟨_, rfl, (fnd_R (by omega)).1, fun q2 => ?_, fun q2 => c_personNamed h4 B W S hv ⟨_, rfl, (fnd_R (by omega)).1, fun q3 => ?_, fun q3 => ?_⟩⟩⟩)
  · rw [decide_eq_true (Or.inl q)] at k1; exact k1
  · rw [decide_eq_true (Or.inr (Or.inl q2))] at k1; exact k1
  · rw [decide_eq_false (by omega)] at k1; exact k1
  · rw [decide_eq_true (Or.inr (Or.inr q3))] at k1; exact k1
theorem c_readNewName {β : mm_Mem} (h4 : hh = 4 ∨ hh = 38) (ha : a ≤ n) (hr : ∀ i, 0 ≤ r i ∧ r i ≤ 255) (B : HbC hh β τ) (W : wfNm β) (S : siH β) (H : RdC r n hh a op code τ) (kT : (∀ K, nnP r n a β K = K (tN r n a) (tV r n a)) → nmW (tV r n a) → a < tN r n a → tN r n a ≤ n → ∀ τ', RdC r n hh (tN r n a) op code τ' → τ' 77 6 = nm5 (tV r n a) → frR hh τ τ' → Q (some (vB true)) τ') (kF : ∀ k p, (∀ K, nnP r n a β K = .inl (k, p)) → ∀ τ', RdF hh k p τ' → frR hh τ τ' → Q (some (vB false)) τ') : M0 E (d + 2) qX4_readNewName [vR 77] τ Q := by
  obtain ⟨n1, n2⟩ := H.nam ha hr
  have h7 : hh + 7 < 72 := by omega
  have s := S.1
  refine mX4_readNewName ⟨fun q => ?_, fun q => ?_⟩
  · have y := n1.mp q
    obtain ⟨k4, nw, t1, t2, -⟩ := nm_k ha hr y
    rw [n2 y]
    have F2 : frR hh τ (wr τ 77 6 (nm5 (tV r n a))) := frR.rf.w (by omega) (by omega)
    have H2 : RdC r n hh a op code (wr τ 77 6 (nm5 (tV r n a))) := H.got h7
    refine ⟨hh, H.1, (kdR h4).1, c_isTaken h4 (B.r h4 (by omega) (by omega) F2) W S nw ⟨_, rfl, fun z => ?_, fun z => ?_⟩⟩
    · exact c_advance h7 (by omega) H2 (fun τ' u1 u2 u3 => ⟨rfl, kT (fun K => by unfold nnP; rw [if_pos y, if_neg (by rw [z]; decide)]) nw t1 t2 τ' u1 (by rw [u3 6 (by omega), wr_same]) (F2.tr u2)⟩)
    · exact c_fail (k := 2) h7 (by omega) H2 (fun τ' u1 u2 => ⟨_, rfl, kF 2 _ (fun K => by unfold nnP; rw [if_pos y, if_pos z]) τ' u1 (F2.tr u2)⟩)
  · have y : ¬ nmB r n a = true := fun z => q (n1.mpr z)
    exact c_fail (k := 1) h7 (by omega) H (fun τ' u1 u2 => ⟨_, rfl, kF 1 _ (fun K => by unfold nnP; rw [if_neg y]) τ' u1 u2⟩)
theorem c_readKnownName {β : mm_Mem} {f : Nat → Int} {m : Int} {b : Bool} (h4 : hh = 4 ∨ hh = 38) (ha : a ≤ n) (hr : ∀ i, 0 ≤ r i ∧ r i ≤ 255) (B : HbC hh β τ) (W : wfNm β) (S : siH β) (hf : (b = true ∧ f = β 3 ∧ m = β 0 6) ∨ (b = false ∧ f = β 2 ∧ m = β 0 5)) (H : RdC r n hh a op code τ) (kT : (∀ K, knP r n a f m K = K (tN r n a) (fnd f m (tV r n a))) → 0 ≤ fnd f m (tV r n a) → fnd f m (tV r n a) < m → a < tN r n a → tN r n a ≤ n → ∀ τ', RdC r n hh (tN r n a) op code τ' → τ' 77 6 = fnd f m (tV r n a) → frR hh τ τ' → Q (some (vB true)) τ') (kF : ∀ k p, (∀ K, knP r n a f m K = .inl (k, p)) → ∀ τ', RdF hh k p τ' → frR hh τ τ' → Q (some (vB false)) τ') : M0 E (d + 1) qX4_readKnownName [vR 77, vB b] τ Q := by
  obtain ⟨n1, n2⟩ := H.nam ha hr
  have h7 : hh + 7 < 72 := by omega
  have s := S.1
  have hm : 0 ≤ m := by rcases hf with ⟨-, -, e⟩ | ⟨-, -, e⟩ <;> omega
  refine mX4_readKnownName ⟨fun q => ?_, fun q => ?_⟩
  · have y := n1.mp q
    obtain ⟨k4, nw, t1, t2, -⟩ := nm_k ha hr y
    rw [n2 y]
    have go : ∀ v : Int, v = fnd f m (tV r n a) → (v ≠ -1 → M0 E d qX4_advance [vR 77] (wr τ 77 6 v) (fun v τ10 => v = none ∧ Q (some (vB true)) τ10)) ∧ (v = -1 → M0 E d qX4_fail [vR 77, vI 3] (wr τ 77 6 v) (fun v τ11 => ∃ b12 : Bool, v = some (vB b12) ∧ Q (some (vB b12)) τ11)) := fun v ev => by
      subst ev
      have F2 : frR hh τ (wr τ 77 6 (fnd f m (tV r n a))) := frR.rf.w (by omega) (by omega)
      have H2 : RdC r n hh a op code (wr τ 77 6 (fnd f m (tV r n a))) := H.got h7
      refine ⟨fun z => ?_, fun z => ?_⟩
      · have fr := fnd_r z hm
        exact c_advance h7 (by omega) H2 (fun τ' u1 u2 u3 => ⟨rfl, kT (fun K => by unfold knP; rw [if_pos y, if_neg z]) fr.1 fr.2 t1 t2 τ' u1 (by rw [u3 6 (by omega), wr_same]) (F2.tr u2)⟩)
      · exact c_fail (k := 3) h7 (by omega) H2 (fun τ' u1 u2 => ⟨_, rfl, kF 3 _ (fun K => by unfold knP; rw [if_pos y, if_pos z]) τ' u1 (F2.tr u2)⟩)
    refine ⟨fun z => ?_, fun z => ?_⟩
    · rcases hf with ⟨e0, e1, e2⟩ | ⟨e0, e1, e2⟩
      · rw [z] at e0; cases e0
      · have g := go (fnd (β 2) (β 0 5) (tV r n a)) (by rw [e1, e2])
        exact ⟨hh, H.1, (kdR h4).1, c_tuneNamed h4 B W S nw ⟨_, rfl, (fnd_R (by omega)).1, g.1, g.2⟩⟩
    · rcases hf with ⟨e0, e1, e2⟩ | ⟨e0, e1, e2⟩
      · have g := go (fnd (β 3) (β 0 6) (tV r n a)) (by rw [e1, e2])
        exact ⟨hh, H.1, (kdR h4).1, c_doorNamed h4 B W S nw ⟨_, rfl, (fnd_R (by omega)).1, g.1, g.2⟩⟩
      · rw [z] at e0; cases e0
  · have y : ¬ nmB r n a = true := fun z => q (n1.mpr z)
    exact c_fail (k := 1) h7 (by omega) H (fun τ' u1 u2 => ⟨_, rfl, kF 1 _ (fun K => by unfold knP; rw [if_neg y]) τ' u1 u2⟩)
end CName
