/-! the reference's names; the house that it fills -/
def hTm (bi : Nat) (β τ : mm_Mem) : Prop := ∀ t : Nat, (t : Int) < β 0 5 → (∀ i : Nat, (i : Int) < β 0 4 → τ 146 (15 * bi + (5 * t + i)) = β 30 (5 * t + i)) ∧ τ 147 (3 * bi + t) = β 31 t
def hRm (bi : Nat) (β τ : mm_Mem) : Prop := ∀ k j : Nat, k < 3 → (j : Int) < β 0 (8 + k) → τ 149 (18 * bi + (6 * k + j)) = β 43 (6 * k + j) ∧ τ 150 (18 * bi + (6 * k + j)) = β 44 (6 * k + j) ∧ τ 151 (18 * bi + (6 * k + j)) = β 45 (6 * k + j)
def HbM (bi : Nat) (β τ : mm_Mem) : Prop := sH bi β τ ∧ sN bi β τ ∧ sD bi β τ ∧ sP bi β τ ∧ hTm bi β τ ∧ hRm bi β τ
section MName2
variable {E : mm_Env} {d : Nat} {τ : mm_Mem} {Q : mm_Q0} {r : Nat → Int} {n bi : Nat} {a : Nat} {β : mm_Mem}
theorem HbM.cg {τ' : mm_Mem} (H : HbM bi β τ) (e : ∀ o, 142 ≤ o → o ≤ 164 → τ' o = τ o) : HbM bi β τ' := by
  unfold HbM sH sN sD sP hTm hRm
  rw [e 142 (by omega) (by omega), e 143 (by omega) (by omega), e 144 (by omega) (by omega), e 145 (by omega) (by omega), e 146 (by omega) (by omega), e 147 (by omega) (by omega), e 148 (by omega) (by omega), e 149 (by omega) (by omega), e 150 (by omega) (by omega), e 151 (by omega) (by omega), e 152 (by omega) (by omega), e 153 (by omega) (by omega), e 154 (by omega) (by omega), e 155 (by omega) (by omega), e 156 (by omega) (by omega), e 157 (by omega) (by omega), e 158 (by omega) (by omega), e 159 (by omega) (by omega), e 160 (by omega) (by omega), e 161 (by omega) (by omega), e 162 (by omega) (by omega), e 163 (by omega) (by omega), e 164 (by omega) (by omega)]
  exact H
theorem HbM.fa {τ' : mm_Mem} (H : HbM bi β τ) (F : frA τ τ') : HbM bi β τ' := H.cg (fun o h1 h2 => F.1 o (by omega))
theorem HbM.fx {τ' : mm_Mem} (H : HbM bi β τ) (F : frX τ τ') : HbM bi β τ' := H.cg (fun o h1 h2 => F.1 o (by omega))
theorem m_namedL {kd : Nat} {v m : Int} (hb : bi < 2) (hk : kd < 3) (S : siH β) (W : wfNm β) (N : sN bi β τ) (h39 : τ 140 39 = (bi : Int)) (hm : m = β 0 (5 + kd)) (hv : nmW v) : ∀ (c i : Nat), (i : Int) + c = β 0 (5 + kd) → Q (some (vI (fsA (fun i => decide (β (2 + kd) i = v)) c i))) τ → V0 E (d + 1) qX11_named 47 [some (vR 140), some (vI (kd : Int)), some (vL v), none, some (vI m), some (vI (i : Int))] [] τ Q := by
  have s := S.1
  have m4 : β 0 (5 + kd) ≤ 4 ∧ (kd = 0 → β 0 (5 + kd) ≤ 3) := by
    have : kd = 0 ∨ kd = 1 ∨ kd = 2 := by omega
    rcases this with h | h | h <;> subst h
    · exact ⟨by show β 0 5 ≤ 4; omega, fun _ => by show β 0 5 ≤ 3; omega⟩
    · exact ⟨by show β 0 6 ≤ 4; omega, fun y => by omega⟩
    · exact ⟨by show β 0 7 ≤ 4; omega, fun y => by omega⟩
  have vr := nmW_r hv
  intro c
  induction c with
  | zero => intro i hi k1; exact bX11_named_47 ⟨⟨by omega, by omega⟩, ⟨by omega, by omega⟩, fun _ => k1, fun q => by omega⟩
  | succ c ih =>
    intro i hi k1
    have nx : ∀ w : Int, w = β (2 + kd) i → nmW w → inL w ∧ inL v ∧ ((w ≠ v → V0 E (d + 1) qX11_named 47 [some (vR 140), some (vI (kd : Int)), some (vL v), none, some (vI m), some (vI ((i : Int) + 1))] [] τ Q) ∧ (w = v → Q (some (vI (i : Int))) τ)) := fun w ew hw => by
      have wr := nmW_r hw
      rw [fsA] at k1
      refine ⟨⟨by omega, by omega⟩, ⟨by omega, by omega⟩, fun q => ?_, fun q => ?_⟩
      · rw [if_neg (by rw [decide_eq_false (by rw [← ew]; exact q)]; decide)] at k1
        rw [show (i : Int) + 1 = ((i + 1 : Nat) : Int) by omega]
        exact ih (i + 1) (by omega) k1
      · rw [if_pos (decide_eq_true (by rw [← ew]; exact q))] at k1; exact k1
    refine bX11_named_47 ⟨⟨by omega, by omega⟩, ⟨by omega, by omega⟩, fun q => by omega, fun _ => ?_⟩
    rw [h39]
    have : kd = 0 ∨ kd = 1 ∨ kd = 2 := by omega
    rcases this with h | h | h <;> subst h
    · have hi : (i : Int) + (c + 1 : Nat) = β 0 5 := hi
      refine mX11_nameOf ⟨by decide, fun q => absurd rfl q, fun _ => ⟨by omega, by omega, ?_⟩⟩
      rw [show (3 * (bi : Int) + (i : Int)).toNat = 3 * bi + i by omega, N.1 i (by omega)]
      exact ⟨_, rfl, nx _ rfl (W.1 i (by omega))⟩
    · have hi : (i : Int) + (c + 1 : Nat) = β 0 6 := hi
      refine mX11_nameOf ⟨by decide, fun _ => ⟨fun q => absurd rfl q, fun _ => ⟨by omega, by omega, ?_⟩⟩, fun q => absurd q (by decide)⟩
      rw [show (4 * (bi : Int) + (i : Int)).toNat = 4 * bi + i by omega, N.2.1 i (by omega)]
      exact ⟨_, rfl, nx _ rfl (W.2.1 i (by omega))⟩
    · have hi : (i : Int) + (c + 1 : Nat) = β 0 7 := hi
      refine mX11_nameOf ⟨by decide, fun _ => ⟨fun _ => ⟨by omega, by omega, ?_⟩, fun q => absurd q (by decide)⟩, fun q => absurd q (by decide)⟩
      rw [show (4 * (bi : Int) + (i : Int)).toNat = 4 * bi + i by omega, N.2.2 i (by omega)]
      exact ⟨_, rfl, nx _ rfl (W.2.2 i (by omega))⟩
theorem m_named {kd : Nat} {x v : Int} (hb : bi < 2) (hk : kd < 3) (hx : x = (kd : Int)) (S : siH β) (W : wfNm β) (B : HbM bi β τ) (h39 : τ 140 39 = (bi : Int)) (hv : nmW v) (k1 : Q (some (vI (fnd (β (2 + kd)) (β 0 (5 + kd)) v))) τ) : M0 E (d + 1) qX11_named [vR 140, vI x, vL v] τ Q := by
  subst hx
  have s := S.1
  obtain ⟨⟨-, -, b5, b6, b7, -⟩, N, -⟩ := B
  have L := fun (m : Int) (hm : m = β 0 (5 + kd)) (h0 : 0 ≤ m) => m_namedL (E := E) (d := d) (Q := Q) (m := m) hb hk S W N h39 hm hv (β 0 (5 + kd)).toNat 0 (by omega) k1
  refine mX11_named ?_
  rw [h39, Int.toNat_natCast, b5, b6, b7]
  have : kd = 0 ∨ kd = 1 ∨ kd = 2 := by omega
  rcases this with h | h | h <;> subst h
  · exact ⟨by decide, fun q => absurd rfl q, fun _ => ⟨by omega, by omega, L _ rfl (by omega)⟩⟩
  · exact ⟨by decide, fun _ => ⟨fun q => absurd rfl q, fun _ => ⟨by omega, by omega, L _ rfl (by omega)⟩⟩, fun q => absurd q (by decide)⟩
  · exact ⟨by decide, fun _ => ⟨fun _ => ⟨by omega, by omega, L _ rfl (by omega)⟩, fun q => absurd q (by decide)⟩, fun q => absurd q (by decide)⟩
theorem m_fresh39F {x : Int} {k p : Nat} (hx : inR x) (hk : 1 ≤ k) (R : PF k p τ) (k1 : ∀ v, Q (some (vL v)) τ) : V0 E (d + 1) qX11_fresh 39 [some (vR 140), some (vI x), none] [] τ Q :=
  bX11_fresh_39 ⟨hx, fun _ => ⟨fun _ => k1 _, fun q => by have := R.1; omega⟩, fun _ => ⟨fun _ => ⟨fun _ => k1 _, fun q => by have := R.1; omega⟩, fun q => by have := R.1; omega⟩⟩
theorem m_fresh (hn : n ≤ 1600) (hb : bi < 2) (hr : ∀ i, 0 ≤ r i ∧ r i ≤ 255) (ha : a ≤ n) (S : siH β) (W : wfNm β) (B : HbM bi β τ) (H : PQ r n bi a τ) (kT : (∀ K, nnP r n a β K = K (tN r n a) (tV r n a)) → nmW (tV r n a) → a < tN r n a → tN r n a ≤ n → tBb r n (tN r n a) = false → ∀ τ', PQ r n bi (tN r n a) τ' → frA τ τ' → Q (some (vL (tV r n a))) τ') (kF : ∀ k p, 1 ≤ k → (∀ K, (∀ b v, tBb r n b = true → b ≤ n → beP r n (K b v) 1 (tPl r n b)) → beP r n (nnP r n a β K) k p) → ∀ v τ', PF k p τ' → frA τ τ' → Q (some (vL v)) τ') : M0 E (d + 3) qX11_fresh [vR 140] τ Q := by
  obtain ⟨X, T, h8, h39⟩ := id H
  obtain ⟨-, n1, -⟩ := T.kd ha hr
  have no1 : ¬ nmB r n a = true → ∀ v τ', PF 1 (tPl r n a) τ' → frA τ τ' → Q (some (vL v)) τ' := fun y v τ' R F => kF 1 _ (by omega) (fun K _ => Or.inl (by unfold nnP; rw [if_neg y])) v τ' R F
  refine mX11_fresh (d := d + 2) ⟨fun _ => ⟨fun q => ?_, fun q => ?_⟩, fun q => by omega⟩
  · have y : ¬ nmB r n a = true := fun z => q (n1.mpr (of_decide_eq_true z).1)
    exact m_bl (k := 1) (by omega) hn ha hr H (fun τ' R _ _ F => ⟨rfl, m_fresh39F (d := d + 2) (by decide) (Nat.le_refl 1) R (fun v => no1 y v τ' R F)⟩)
  · have k4 := n1.mp q
    have nw : nmW (tV r n a) := (tk_r (r := r) (n := n) ha hr).2.2.2.2.2.2 k4
    have v7 : τ 140 7 = tV r n a := (T.2.2.2.2 k4).1
    rw [v7]
    refine m_isOwn nw ⟨_, rfl, fun z => ?_, fun z => ?_⟩
    · have z : owI (nm5 (tV r n a)) = -1 := by have := of_decide_eq_false z; omega
      have y : nmB r n a = true := decide_eq_true ⟨k4, z⟩
      obtain ⟨-, -, t1, t2, -⟩ := nm_k ha hr y
      -- the three kinds
      have tk2 : tkA β (tV r n a) = true → ∀ v τ', PF 2 (tPl r n a) τ' → frA τ τ' → Q (some (vL v)) τ' := fun c v τ' R F => kF 2 _ (by omega) (fun K _ => Or.inl (by unfold nnP; rw [if_pos y, if_pos c])) v τ' R F
      have step : ∀ (kd : Nat) (x : Int), kd < 3 → x = (kd : Int) → (fnd (β (2 + kd)) (β 0 (5 + kd)) (tV r n a) ≠ -1 → tkA β (tV r n a) = true) → (fnd (β (2 + kd)) (β 0 (5 + kd)) (tV r n a) = -1 → V0 E (d + 3) qX11_fresh 39 [some (vR 140), some (vI (x + 1)), none] [] τ Q) → V0 E (d + 3) qX11_fresh 39 [some (vR 140), some (vI x), none] [] τ Q := fun kd x hk hx hy hnx => by
        refine bX11_fresh_39 (d := d + 2) ⟨⟨by omega, by omega⟩, fun q => by omega, fun _ => ⟨fun q => absurd h8 q, fun _ => ?_⟩⟩
        rw [v7]
        refine m_named (d := d + 1) hb hk hx S W B h39 nw ⟨_, rfl, ?_, hnx, fun c => ?_⟩
        · have s := S.1
          have : kd = 0 ∨ kd = 1 ∨ kd = 2 := by omega
          rcases this with h | h | h <;> subst h
          · exact (fnd_R (m := β 0 5) (by omega)).1
          · exact (fnd_R (m := β 0 6) (by omega)).1
          · exact (fnd_R (m := β 0 7) (by omega)).1
        · exact m_bl (k := 2) (by omega) hn ha hr H (fun τ' R _ _ F => ⟨rfl, m_fresh39F (d := d + 2) ⟨by omega, by omega⟩ (by omega) R (fun v => tk2 (hy c) v τ' R F)⟩)
      have nt : ¬ tkA β (tV r n a) = true → V0 E (d + 3) qX11_fresh 39 [some (vR 140), some (vI 3), none] [] τ Q := fun c => by
        have ev : ∀ K, nnP r n a β K = K (tN r n a) (tV r n a) := fun K => by unfold nnP; rw [if_pos y, if_neg c]
        refine bX11_fresh_39 (d := d + 2) ⟨by decide, fun _ => ⟨fun q => absurd h8 q, fun _ => ?_⟩, fun q => absurd (by decide) q⟩
        rw [v7]
        exact m_next (d := d + 1) hn hr ha (by omega) H (fun nb τ' H' F => ⟨rfl, kT ev nw t1 t2 nb τ' H' F⟩) (fun b τ' R F => ⟨rfl, kF 1 _ (by omega) (fun K hK => by rw [ev]; exact hK _ _ b t2) _ τ' R F⟩)
      refine step 0 0 (by omega) rfl (fun c => decide_eq_true (Or.inl c)) (fun c0 => step 1 1 (by omega) rfl (fun c => decide_eq_true (Or.inr (Or.inl c))) (fun c1 => step 2 2 (by omega) rfl (fun c => decide_eq_true (Or.inr (Or.inr c))) (fun c2 => nt (fun c => ?_))))
      have c := of_decide_eq_true c
      rcases c with c | c | c
      · exact c c0
      · exact c c1
      · exact c c2
    · have z := of_decide_eq_true z
      have y : ¬ nmB r n a = true := fun c => z (of_decide_eq_true c).2
      exact m_bl (k := 1) (by omega) hn ha hr H (fun τ' R _ _ F => ⟨rfl, m_fresh39F (d := d + 2) (by decide) (Nat.le_refl 1) R (fun v => no1 y v τ' R F)⟩)
theorem m_freshF {k p : Nat} (hk : 1 ≤ k) (R : PF k p τ) (k1 : Q (some (vL 0)) τ) : M0 E (d + 1) qX11_fresh [vR 140] τ Q := mX11_fresh ⟨fun q => by have := R.1; omega, fun _ => k1⟩
theorem m_asked57F {y : Int} {k p : Nat} (hk : 1 ≤ k) (R : PF k p τ) (k1 : Q (some (vI 0)) τ) : V0 E (d + 1) qX11_asked 57 [some (vR 140), none, none] [vI y] τ Q :=
  bX11_asked_57 ⟨fun _ => ⟨fun _ => ⟨fun q => by have := R.1; omega, fun _ => k1⟩, fun q => by have := R.1; omega⟩, fun q => by have := R.1; omega⟩
theorem m_asked {kd : Nat} {x : Int} (hn : n ≤ 1600) (hb : bi < 2) (hr : ∀ i, 0 ≤ r i ∧ r i ≤ 255) (ha : a ≤ n) (hk : kd < 3) (hx : x = (kd : Int)) (S : siH β) (W : wfNm β) (B : HbM bi β τ) (H : PQ r n bi a τ) (kT : (∀ K, knP r n a (β (2 + kd)) (β 0 (5 + kd)) K = K (tN r n a) (fnd (β (2 + kd)) (β 0 (5 + kd)) (tV r n a))) → 0 ≤ fnd (β (2 + kd)) (β 0 (5 + kd)) (tV r n a) → fnd (β (2 + kd)) (β 0 (5 + kd)) (tV r n a) < β 0 (5 + kd) → a < tN r n a → tN r n a ≤ n → tBb r n (tN r n a) = false → ∀ τ', PQ r n bi (tN r n a) τ' → frA τ τ' → Q (some (vI (fnd (β (2 + kd)) (β 0 (5 + kd)) (tV r n a)))) τ') (kF : ∀ k p, 1 ≤ k → (∀ K, (∀ b v, tBb r n b = true → b ≤ n → beP r n (K b v) 1 (tPl r n b)) → beP r n (knP r n a (β (2 + kd)) (β 0 (5 + kd)) K) k p) → ∀ τ', PF k p τ' → frA τ τ' → Q (some (vI 0)) τ') : M0 E (d + 3) qX11_asked [vR 140, vI x] τ Q := by
  obtain ⟨X, T, h8, h39⟩ := id H
  obtain ⟨-, n1, -⟩ := T.kd ha hr
  have s := S.1
  have m4 : 0 ≤ β 0 (5 + kd) ∧ β 0 (5 + kd) ≤ 4 := by
    have : kd = 0 ∨ kd = 1 ∨ kd = 2 := by omega
    rcases this with h | h | h <;> subst h
    · show 0 ≤ β 0 5 ∧ β 0 5 ≤ 4; omega
    · show 0 ≤ β 0 6 ∧ β 0 6 ≤ 4; omega
    · show 0 ≤ β 0 7 ∧ β 0 7 ≤ 4; omega
  have no1 : ¬ nmB r n a = true → ∀ τ', PF 1 (tPl r n a) τ' → frA τ τ' → Q (some (vI 0)) τ' := fun y τ' R F => kF 1 _ (by omega) (fun K _ => Or.inl (by unfold knP; rw [if_neg y])) τ' R F
  refine mX11_asked (d := d + 2) ⟨fun _ => ⟨fun q => ?_, fun q => ?_⟩, fun q => by omega⟩
  · have y : ¬ nmB r n a = true := fun z => q (n1.mpr (of_decide_eq_true z).1)
    exact m_bl (k := 1) (by omega) hn ha hr H (fun τ' R _ _ F => ⟨rfl, fun q => by have := R.1; omega, fun _ => m_asked57F (Nat.le_refl 1) R (no1 y τ' R F)⟩)
  · have k4 := n1.mp q
    have nw : nmW (tV r n a) := (tk_r (r := r) (n := n) ha hr).2.2.2.2.2.2 k4
    have v7 : τ 140 7 = tV r n a := (T.2.2.2.2 k4).1
    rw [v7]
    refine m_isOwn nw ⟨_, rfl, fun z => ⟨fun _ => ?_, fun q => by omega⟩, fun z => ?_⟩
    · have z : owI (nm5 (tV r n a)) = -1 := by have := of_decide_eq_false z; omega
      have y : nmB r n a = true := decide_eq_true ⟨k4, z⟩
      obtain ⟨-, -, t1, t2, -⟩ := nm_k ha hr y
      rw [v7]
      refine m_named (d := d + 1) hb hk hx S W B h39 nw ⟨_, rfl, bX11_asked_57 (d := d + 2) ⟨fun q => absurd h8 q, fun _ => ⟨(fnd_R (by omega)).1, fun c => ⟨fun q => absurd h8 q, fun _ => ?_⟩, fun c => ?_⟩⟩⟩
      · have ev : ∀ K, knP r n a (β (2 + kd)) (β 0 (5 + kd)) K = K (tN r n a) (fnd (β (2 + kd)) (β 0 (5 + kd)) (tV r n a)) := fun K => by unfold knP; rw [if_pos y, if_neg c]
        have fr := fnd_r c m4.1
        exact m_next (d := d + 1) hn hr ha (by omega) H (fun nb τ' H' F => ⟨rfl, fun _ => kT ev fr.1 fr.2 t1 t2 nb τ' H' F, fun q => by have := H'.2.2.1; omega⟩) (fun b τ' R F => ⟨rfl, fun q => by have := R.1; omega, fun _ => kF 1 _ (by omega) (fun K hK => by rw [ev]; exact hK _ _ b t2) τ' R F⟩)
      · exact m_bl (k := 3) (by omega) hn ha hr H (fun τ' R _ _ F => ⟨rfl, fun _ => ⟨fun q => by have := R.1; omega, fun _ => kF 3 _ (by omega) (fun K _ => Or.inl (by unfold knP; rw [if_pos y, if_pos c])) τ' R F⟩, fun q => by have := R.1; omega⟩)
    · have z := of_decide_eq_true z
      have y : ¬ nmB r n a = true := fun c => z (of_decide_eq_true c).2
      exact m_bl (k := 1) (by omega) hn ha hr H (fun τ' R _ _ F => ⟨rfl, fun q => by have := R.1; omega, fun _ => m_asked57F (Nat.le_refl 1) R (no1 y τ' R F)⟩)
theorem m_askedF {x : Int} {k p : Nat} (hk : 1 ≤ k) (R : PF k p τ) (k1 : Q (some (vI 0)) τ) : M0 E (d + 1) qX11_asked [vR 140, vI x] τ Q := mX11_asked ⟨fun q => by have := R.1; omega, fun _ => k1⟩
theorem m_counts {b : Bool} (hn : n ≤ 1600) (hr : ∀ i, 0 ≤ r i ∧ r i ≤ 255) (ha : a ≤ n) (k2 : 2 ≤ (tk r n a).1) (H : PQ r n bi a τ) (kT : b = false → tBb r n (tN r n a) = false → ∀ τ', PQ r n bi (tN r n a) τ' → frA τ τ' → Q (some (vB true)) τ') (kB : b = false → tBb r n (tN r n a) = true → ∀ τ', PF 1 (tPl r n (tN r n a)) τ' → frA τ τ' → Q (some (vB false)) τ') (k5 : b = true → ∀ τ', PF 5 (tPl r n a) τ' → frA τ τ' → Q (some (vB false)) τ') : M0 E (d + 2) qX11_counts [vR 140, vB b] τ Q := by
  have h8 := H.2.2.1
  refine mX11_counts (d := d + 1) ⟨fun q => absurd h8 q, fun _ => ⟨fun z => ⟨fun q => absurd h8 q, fun _ => ?_⟩, fun z => ?_⟩⟩
  · exact m_next hn hr ha k2 H (fun nb τ' H' F => ⟨rfl, fun q => absurd H'.2.2.1 q, fun _ => kT z nb τ' H' F⟩) (fun b τ' R F => ⟨rfl, fun _ => kB z b τ' R F, fun q => by have := R.1; omega⟩)
  · exact m_bl (k := 5) (by omega) hn ha hr H (fun τ' R _ _ F => ⟨rfl, fun _ => ⟨fun _ => k5 z τ' R F, fun q => by have := R.1; omega⟩, fun q => by have := R.1; omega⟩)
end MName2
