/-! the reference reads as the parser does -/
def LH (E : mm_Env) (d : Nat) (τ : mm_Mem) (Q : mm_Q0) : Prop := V0 E (d + 4) qX11_reads 43 [some (vR 140), none, some (vI 1)] [] τ Q
theorem tk_w {r : Nat → Int} {n a : Nat} (ha : a ≤ n) (h : (tk r n a).1 = 4) : a ≤ tPl r n a ∧ tPl r n a < tN r n a ∧ tN r n a ≤ tPl r n a + 6 ∧ (∀ i, tPl r n a ≤ i → i < tN r n a → isLt (r i) = true) ∧ ¬ (0 < tPl r n a ∧ isAN (r (tPl r n a - 1)) = true) ∧ tV r n a = (pkN 256 (byF r (tPl r n a)) (tN r n a - tPl r n a) : Nat) := by
  have s := skB_r r (n - a) a
  unfold tPl tN tV tk at *
  generalize skB r (n - a) a = p at s h ⊢
  unfold tk1 at h ⊢
  by_cases q1 : n ≤ p
  · rw [if_pos q1] at h; simp at h
  rw [if_neg q1] at h ⊢
  by_cases q2 : isAN (r p) = false
  · rw [if_pos q2] at h; simp at h
  rw [if_neg q2] at h ⊢
  by_cases q3 : 0 < p ∧ isAN (r (p - 1)) = true
  · rw [if_pos q3] at h; simp at h
  rw [if_neg q3] at h ⊢
  by_cases q4 : isLt (r p) = true
  · rw [if_pos q4] at h ⊢
    by_cases q5 : p + 6 < rnB isLt r (n - p) p
    · rw [if_pos q5] at h; simp at h
    · rw [if_neg q5]
      exact ⟨by show a ≤ p; omega, rnB_pos (by omega) q4, by show rnB isLt r (n - p) p ≤ p + 6; omega, rnB_in isLt r (n - p) p, q3, rfl⟩
  · rw [if_neg q4] at h
    by_cases q5 : p + 4 < rnB isDg r (n - p) p
    · rw [if_pos q5] at h; simp at h
    · rw [if_neg q5] at h; simp at h
theorem not_n {r : Nat → Int} {n a : Nat} (ha : a ≤ n) (h : tWb r n a 20 = true) : a + 3 ≤ tN r n a ∧ isAN (r (tN r n a - 1)) = true ∧ (0 < a → isAN (r (a - 1)) = true → a + 4 ≤ tN r n a) := by
  obtain ⟨k4, v⟩ := tW_k h
  obtain ⟨w1, w2, w3, w4, w5, w6⟩ := tk_w ha k4
  have nf : nmF (byF r (tPl r n a)) (tN r n a - tPl r n a) := ⟨⟨by omega, by omega⟩, fun i hi => by
    have := isLt_t.mp (w4 (tPl r n a + i) (by omega) (by omega))
    unfold byF; omega⟩
  have e3 : tN r n a - tPl r n a = 3 := by
    have e := nmLn_n nf
    rw [← w6] at e
    have : tV r n a = 7237492 := v
    rw [this] at e
    have : nmLn 7237492 = 3 := by decide
    omega
  refine ⟨by omega, isAN_t.mpr (Or.inl (w4 _ (by omega) (by omega))), fun a0 an => ?_⟩
  by_cases q : tPl r n a = a
  · rw [q] at w5; exact absurd ⟨a0, an⟩ w5
  · omega
section MSim
variable {E : mm_Env} {d : Nat} {τ : mm_Mem} {Q : mm_Q0} {r : Nat → Int} {n bi : Nat}
theorem m_lhO (h49 : τ 140 49 = 0) (k : ∀ Qo : mm_Q0, (∀ (b : Bool) (τ6 : mm_Mem), (τ6 140 8 ≠ 0 → Q none (wr τ6 140 49 (bI b))) → (τ6 140 8 = 0 → LH E d (wr τ6 140 49 (bI b)) Q) → Qo (some (vB b)) τ6) → M0 E (d + 3) qX11_operand [vR 140] τ Qo) : LH E d τ Q := by
  refine bX11_reads_43 ⟨⟨by omega, by omega⟩, fun q => by omega, fun _ => ⟨fun q => absurd h49 q, fun _ => k _ (fun b τ6 h1 h2 => ⟨b, rfl, fun q => by omega, fun _ => ⟨fun q => ?_, fun q => h2 q⟩⟩)⟩⟩
  exact bX11_reads_43 ⟨⟨by omega, by omega⟩, fun _ => h1 q, fun q => absurd rfl q⟩
theorem m_lhG (h49 : τ 140 49 = 1) (k : ∀ Qo : mm_Q0, (∀ τ6 : mm_Mem, Q none τ6 → Qo (some (vB false)) τ6) → (∀ τ6 : mm_Mem, (τ6 140 8 ≠ 0 → Q none τ6) → (τ6 140 8 = 0 → LH E d τ6 Q) → Qo (some (vB true)) τ6) → M0 E (d + 3) qX11_goesOn [vR 140] τ Qo) : LH E d τ Q := by
  have fin : ∀ τ6, Q none τ6 → V0 E (d + 3 + 1) qX11_reads 43 [some (vR 140), none, some (vI 0)] [] τ6 Q := fun τ6 h => bX11_reads_43 ⟨⟨by omega, by omega⟩, fun _ => h, fun q => absurd rfl q⟩
  refine bX11_reads_43 ⟨⟨by omega, by omega⟩, fun q => by omega, fun _ => ⟨fun _ => k _ (fun τ6 h => ⟨false, rfl, fun _ => fin τ6 h, fun y => (by cases y)⟩) (fun τ6 h1 h2 => ⟨true, rfl, fun y => (by cases y), fun _ => ⟨fun q => fin τ6 (h1 q), fun q => h2 q⟩⟩), fun q => by omega⟩⟩
theorem PM.od1 {D a : Nat} {K ph bg B od v : Int} (H : PM r n bi D K ph bg B a od τ) : PM r n bi D K ph bg B a v (wr τ 140 49 v) := by
  obtain ⟨-, -, -, -, -, -, -, hk, hp, hb, hB, -⟩ := id H
  exact H.fr (fun i hi => wr_row (by omega)) (wr_obj (by omega)) (by rw [wr_obj (by omega)]; exact hk) (by rw [wr_obj (by omega)]; exact hp) (by rw [wr_obj (by omega)]; exact hb) (by rw [wr_obj (by omega)]; exact hB) wr_same
theorem PF.od1 {k p : Nat} {v : Int} (H : PF k p τ) : PF k p (wr τ 140 49 v) := ⟨by rw [wr_row (by omega)]; exact H.1, by rw [wr_row (by omega)]; exact H.2⟩
theorem frQ.od1 {D m0 zz : Nat} {σ : mm_Mem} {v : Int} (F : frQ D m0 zz σ τ) : frQ D m0 zz σ (wr τ 140 49 v) :=
  F.tr (Nat.le_refl _) (Nat.le_refl _) ⟨frX.rf.w0 (by omega), fun i _ => ⟨by rw [wr_obj (by omega)], by rw [wr_obj (by omega)]⟩, fun i _ => ⟨by rw [wr_obj (by omega)], by rw [wr_obj (by omega)], by rw [wr_obj (by omega)]⟩, fun i _ => by rw [wr_obj (by omega)], fun i _ => ⟨by rw [wr_obj (by omega)], by rw [wr_obj (by omega)]⟩⟩
theorem PSt.weak {m0 zz : Nat} {ρ ρ' : Int} {c : List Int} (h : ρ' ≤ ρ) (P : PSt bi ρ m0 zz c τ) : PSt bi ρ' m0 zz c τ := by
  obtain ⟨em, rp, a, b, c, e⟩ := P
  exact ⟨em, rp, a, fun x hx => ⟨by have := (b x hx).1; omega, (b x hx).2⟩, c, e⟩
/-- nothing held back -/
theorem PSt.nil {m0 zz : Nat} {ρ : Int} {c : List Int} (h48 : τ 140 48 = (m0 : Int)) (h38 : 1600 * (bi : Int) + τ 140 38 = ((zz + c.length : Nat) : Int)) (C : CodeM zz c τ) : PSt bi ρ m0 zz c τ :=
  ⟨c, [], (List.append_nil c).symm, fun x hx => (by cases hx), h48, trivial, h38, C⟩
/-- one operation, and what was read behind it -/
theorem PSt.op {m0 zz : Nat} {ρ ρ1 : Int} {c0 c : List Int} {x : Int} (hx : ρ ≤ rkP x ∧ isO x) (hρ : ρ ≤ ρ1) (C : CodeM zz c0 τ) (ex : τ 172 m0 = opS x) (P : PSt bi ρ1 (m0 + 1) (zz + c0.length) c τ) : PSt bi ρ m0 zz (c0 ++ c ++ [x]) τ := by
  obtain ⟨em, rp, ec, hr, h48, ho, h38, C1⟩ := P
  subst ec
  refine ⟨c0 ++ em, rp ++ [x], by simp, fun y hy => ?_, ?_, ho.app ex, ?_, C.app C1⟩
  · rcases List.mem_append.mp hy with q | q
    · exact ⟨by have := (hr y q).1; omega, (hr y q).2⟩
    · rw [List.mem_singleton] at q; rw [q]; exact hx
  · rw [h48, List.length_append]; show _ = ((m0 + (rp.length + 1) : Nat) : Int); omega
  · rw [h38, List.length_append]; omega
theorem belP.fr {D m0 zz : Nat} {ρ B : Int} {τ' : mm_Mem} (h : belP ρ B m0 τ) (F : frQ D m0 zz τ τ') : belP ρ B m0 τ' := by
  rcases h with h | ⟨h0, x, xo, xr, xe⟩
  · exact Or.inl h
  · exact Or.inr ⟨h0, x, xo, xr, by rw [F.2.2.2.1 _ (by omega)]; exact xe⟩
theorem belP.weak {m0 : Nat} {ρ ρ' B : Int} (h : belP ρ B m0 τ) (hρ : ρ ≤ ρ') : belP ρ' B m0 τ := by
  rcases h with h | ⟨h0, x, xo, xr, xe⟩
  · exact Or.inl h
  · exact Or.inr ⟨h0, x, xo, by omega, xe⟩
end MSim
/-- a part, a product, a sum -/
def mS (E : mm_Env) (d : Nat) (r : Nat → Int) (n bi q : Nat) (ρ : Int) (κ f : Nat) : Prop := ∀ (D a m0 zz : Nat) (K ph bg B : Int) (τ : mm_Mem) (Q : mm_Q0), D ≤ 8 → a ≤ n → tBb r n a = false → inR K → ph < 2 → gdP r n a K bg → 1600 * bi ≤ zz → zz + m0 ≤ 1600 * bi + a → 4 * m0 + κ ≤ a + 24 * (D + 1) + 1 → B ≤ (m0 : Int) → (ρ < 7 → belP ρ B m0 τ) → PM r n bi D K ph bg B a 0 τ → τ 140 48 = (m0 : Int) → 1600 * (bi : Int) + τ 140 38 = (zz : Int) → pz r n true f q a D ≠ .inl (0, 0) → (∀ a' c c', pz r n true f q a D = .inr (a', c, c') → ∀ τ', PM r n bi D K ph 0 B a' 1 τ' → PSt bi ρ m0 zz c' τ' → τ' 140 48 ≤ 500 → frQ D m0 zz τ τ' → LH E d τ' Q) → (∀ k p, pz r n true f q a D = .inl (k, p) → ∀ τ', PF k p τ' → frX τ τ' → Q none τ') → LH E d τ Q
/-- what follows in a product, in a sum -/
def mL (E : mm_Env) (d : Nat) (r : Nat → Int) (n bi q : Nat) (ρ : Int) (κ f : Nat) : Prop := ∀ (D a m0 zz : Nat) (K ph B : Int) (c0 : List Int) (τ : mm_Mem) (Q : mm_Q0), D ≤ 8 → a ≤ n → tBb r n a = false → inR K → ph < 2 → 1600 * bi ≤ zz → zz + c0.length + m0 ≤ 1600 * bi + a → 4 * m0 + κ ≤ a + 24 * (D + 1) + 1 → B ≤ (m0 : Int) → belP ρ B m0 τ → PM r n bi D K ph 0 B a 1 τ → PSt bi ρ m0 zz c0 τ → τ 140 48 ≤ 500 → pz r n true f q a D ≠ .inl (0, 0) → (∀ a' c c', pz r n true f q a D = .inr (a', c, c') → ∀ τ', PM r n bi D K ph 0 B a' 1 τ' → PSt bi ρ m0 zz (c0 ++ c') τ' → τ' 140 48 ≤ 500 → frQ D m0 zz τ τ' → LH E d τ' Q) → (∀ k p, pz r n true f q a D = .inl (k, p) → ∀ τ', PF k p τ' → frX τ τ' → Q none τ') → LH E d τ Q
section MSim2
variable {E : mm_Env} {d : Nat} {r : Nat → Int} {n bi : Nat}
/-- a sum of products, a product of parts -/
theorem m_seq {q p l : Nat} {ρ ρ1 : Int} {κ κ1 f : Nat} (hr : ∀ i, 0 ≤ r i ∧ r i ≤ 255) (hq : p ≤ 10 ∧ l ≤ 10 ∧ p ≠ 10) (hρ : ρ ≤ ρ1 ∧ ρ < 7) (hκ : κ1 ≤ κ) (eq : ∀ a op, pz r n true (f + 1) q a op = bdP (pz r n true f p a op) (fun a1 c c' => bdP (pz r n true f l a1 op) (fun a2 k k' => .inr (a2, c ++ k, c' ++ k')))) (S : mS E d r n bi p ρ1 κ1 f) (L : mL E d r n bi l ρ κ f) : mS E d r n bi q ρ κ (f + 1) := by
  intro D a m0 zz K ph bg B τ Q hD ha hnb hK hp g hz0 hz hm hB bl H h48 h38 ne kT kF
  rw [eq] at ne
  refine S D a m0 zz K ph bg B τ Q hD ha hnb hK hp g hz0 hz (by omega) hB (fun _ => (bl hρ.2).weak hρ.1) H h48 h38 (fun z => ne (by rw [z]; rfl)) (fun a1 c c' e1 τ1 H1 P1 h5 F1 => ?_) (fun k p e1 τ1 R1 F1 => kF k p (by rw [eq, e1]; rfl) τ1 R1 F1)
  rw [e1, bd_r] at ne
  obtain ⟨x1, x2, x3, x4, x5⟩ := pz_ln hr f p a D a1 c c' (by omega) ha e1
  exact L D a1 m0 zz K ph B c' τ1 Q hD x1 (pz_nb f p a D a1 c c' (by omega) hnb e1) hK hp hz0 (by omega) (by omega) hB ((bl hρ.2).fr F1) H1 (P1.weak hρ.1) h5 (fun z => ne (by rw [z]; rfl)) (fun a2 k k' e2 τ2 H2 P2 h52 F2 => kT a2 (c ++ k) (c' ++ k') (by rw [eq, e1, bd_r, e2, bd_r]) τ2 H2 P2 h52 (F1.tr (Nat.le_refl _) (Nat.le_refl _) F2)) (fun k p e2 τ2 R2 F2 => kF k p (by rw [eq, e1, bd_r, e2, bd_l]) τ2 R2 (F1.1.tr F2))
/-- the loop of a product, of a sum -/
theorem m_lop {q p : Nat} {ρ ρ1 : Int} {κ κ1 f : Nat} {x : Nat → Int} (hn : n ≤ 1600) (hb2 : bi < 2) (hr : ∀ i, 0 ≤ r i ∧ r i ≤ 255) (hq : p ≤ 10 ∧ q ≤ 10 ∧ p ≠ 10) (hρ : ρ < ρ1) (hκ : κ1 + 4 ≤ κ) (hx : ∀ a, x a ≠ 0 → (addP r n a ≠ 0 ∧ x a = addP r n a ∧ ρ = 5) ∨ (mulP r n a ≠ 0 ∧ x a = mulP r n a ∧ ρ = 6)) (eq : ∀ a op, pz r n true (f + 1) q a op = (if x a ≠ 0 then avP r n true a (fun a1 => bdP (pz r n true f p a1 op) (fun a2 c c' => bdP (pz r n true f q a2 op) (fun a3 k k' => .inr (a3, c ++ x a :: k, c' ++ x a :: k')))) else .inr (a, [], []))) (S : mS E d r n bi p ρ1 κ1 f) (L : mL E d r n bi q ρ κ f) : mL E d r n bi q ρ κ (f + 1) := by
  intro D a m0 zz K ph B c0 τ Q hD ha hnb hK hp hz0 hz hm hB bl H P h5 ne kT kF
  rw [eq] at ne kT kF
  by_cases y : x a ≠ 0
  · have hxa := hx a y
    have xo : isO (x a) ∧ rkP (x a) = ρ := by
      rcases hxa with ⟨h, e, e2⟩ | ⟨h, e, e2⟩
      · rw [e, e2]; exact add_o h
      · rw [e, e2]; exact mul_o h
    have t : a < tN r n a ∧ tN r n a ≤ n := by
      rcases hxa with ⟨h, -, -⟩ | ⟨h, -, -⟩
      · exact add_n ha hr h
      · exact mul_n ha hr h
    rw [if_pos y] at ne kT kF
    refine m_lhG H.2.2.2.2.2.2.2.2.2.2.2 (fun Qo hF hT => m_goArith (d := d + 1) (x := x a) hn hb2 hD ha hr hK hz0 hB (by omega) (by omega) h5 H hp hxa bl P (fun z τ1 H1 N1 => hT τ1 (fun q => absurd H1.2.2.1 q) (fun _ => ?_)) (fun z τ1 R1 F1 => hT τ1 (fun _ => ?_) (fun q => by have := R1.1; omega)))
    · obtain ⟨n48, n38, nC, n172, nF⟩ := N1
      have av : ∀ K0 : Nat → Sum (Nat × Nat) (Nat × List Int × List Int), avP r n true a K0 = K0 (tN r n a) := fun K0 => by unfold avP; rw [z]; rfl
      rw [av] at ne kT kF
      refine S D _ (m0 + 1) (zz + c0.length) K ph 0 B τ1 Q hD t.2 z hK hp (fun _ y2 => absurd rfl y2) (by omega) (by omega) (by omega) (by omega) (fun _ => Or.inr ⟨by omega, x a, xo.1, by omega, n172⟩) H1 n48 n38 (fun q => ne (by rw [q]; rfl)) (fun a2 c c' e2 τ2 H2 P2 h52 F2 => ?_) (fun k p' e2 τ2 R2 F2 => kF k p' (by rw [e2, bd_l]) τ2 R2 (nF.1.tr F2))
      rw [e2, bd_r] at ne kT kF
      obtain ⟨x1, x2, x3, x4, x5⟩ := pz_ln hr f p _ D a2 c c' (by omega) t.2 e2
      have F12 : frQ D m0 zz τ τ2 := nF.tr (by omega) (by omega) F2
      have C2 : CodeM zz c0 τ2 := nC.fr (fun i _ h => F2.2.2.2.2 i h)
      have P3 : PSt bi ρ m0 zz (c0 ++ c' ++ [x a]) τ2 := PSt.op ⟨by omega, xo.1⟩ (by omega) C2 (by rw [F2.2.2.2.1 m0 (by omega)]; exact n172) P2
      refine L D a2 m0 zz K ph B (c0 ++ c' ++ [x a]) τ2 Q hD x1 (pz_nb f p _ D a2 c c' (by omega) z e2) hK hp hz0 (by rw [List.length_append, List.length_append]; show zz + (c0.length + c'.length + 1) + m0 ≤ _; omega) (by omega) hB (bl.fr F12) H2 P3 h52 (fun q => ne (by rw [q]; rfl)) (fun a3 k k' e3 τ3 H3 P4 h53 F3 => kT a3 _ _ (by rw [e3, bd_r]) τ3 H3 ?_ h53 (F12.tr (Nat.le_refl _) (Nat.le_refl _) F3)) (fun k p' e3 τ3 R3 F3 => kF k p' (by rw [e3, bd_l]) τ3 R3 (F12.1.tr F3))
      rw [List.append_assoc, List.append_assoc] at P4
      exact P4
    · exact kF 1 _ (by unfold avP; rw [z]; rfl) τ1 R1 F1
  · rw [if_neg y] at kT
    exact kT a [] [] rfl τ H (by rw [List.append_nil]; exact P) h5 frQ.rf
end MSim2
