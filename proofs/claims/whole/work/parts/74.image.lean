/-! image, both sides -/
def put1 (α : mm_Mem) (v : Int) : mm_Mem := wr (wr α 25 (α 0 14).toNat v) 0 14 (α 0 14 + 1)
def put2 (α : mm_Mem) (v : Int) : mm_Mem := put1 (put1 α (v / 256)) (v % 256)
def imP : Nat → Nat → mm_Mem → mm_Mem
  | 0, _, β => β
  | c + 1, p, β => imP c (p + 1) (put2 β (β 12 p))
def imE (β : mm_Mem) (e : Nat) : mm_Mem := put1 (put2 (put2 β (β 15 e)) (β 16 e + 1)) (β 17 e)
def imT (dd : Nat) : Nat → Nat → mm_Mem → mm_Mem
  | 0, _, β => β
  | c + 1, t, β => imT dd c (t + 1) (imE β (3 * dd + t))
def imD : Nat → Nat → mm_Mem → mm_Mem
  | 0, _, β => β
  | c + 1, dd, β => imD c (dd + 1) (imT dd (β 0 5).toNat 0 β)
def ckA (r : Nat → Int) : Nat → Nat → Int → Int
  | 0, _, a => a
  | c + 1, i, a => ckA r c (i + 1) ((7 * a + r i) % 241)
def imB (α : mm_Mem) : mm_Mem := imD (α 0 6).toNat 0 (imP (α 0 7).toNat 0 (wr α 0 14 0))
def imgA (α : mm_Mem) : mm_Mem := put1 (imB α) (ckA (imB α 25) (imB α 0 14).toNat 0 33)
def okP (α α' : mm_Mem) : Prop := (∀ j, j ≠ 0 → j ≠ 25 → α' j = α j) ∧ ∀ i, i ≠ 14 → α' 0 i = α 0 i
theorem okP.rf {α : mm_Mem} : okP α α := ⟨fun _ _ _ => rfl, fun _ _ => rfl⟩
theorem okP.tr {α β γ : mm_Mem} (h : okP α β) (h' : okP β γ) : okP α γ := ⟨fun j a b => (h'.1 j a b).trans (h.1 j a b), fun i a => (h'.2 i a).trans (h.2 i a)⟩
theorem okP.p1 {α : mm_Mem} {v : Int} : okP α (put1 α v) := ⟨fun j a b => by rw [put1, wr_obj a, wr_obj b], fun i a => by rw [put1, wr_row a, wr_obj (by omega)]⟩
theorem put1_n {α : mm_Mem} {v : Int} : put1 α v 0 14 = α 0 14 + 1 := by rw [put1, wr_same]
theorem okP.p2 {α : mm_Mem} {v : Int} : okP α (put2 α v) := okP.p1.tr okP.p1
theorem put2_n {α : mm_Mem} {v : Int} : put2 α v 0 14 = α 0 14 + 2 := by rw [put2, put1_n, put1_n]; omega
theorem okP.e {α : mm_Mem} {e : Nat} : okP α (imE α e) := (okP.p2.tr okP.p2).tr okP.p1
theorem imE_n {α : mm_Mem} {e : Nat} : imE α e 0 14 = α 0 14 + 5 := by rw [imE, put1_n, put2_n, put2_n]; omega
theorem imP_ok : ∀ (c p : Nat) (β : mm_Mem), okP β (imP c p β) ∧ imP c p β 0 14 = β 0 14 + 2 * c
  | 0, p, β => ⟨okP.rf, by show β 0 14 = _; omega⟩
  | c + 1, p, β => by
    obtain ⟨a, b⟩ := imP_ok c (p + 1) (put2 β (β 12 p))
    refine ⟨okP.p2.tr a, ?_⟩
    show imP c (p + 1) (put2 β (β 12 p)) 0 14 = _
    rw [b, put2_n]; omega
theorem imT_ok {dd : Nat} : ∀ (c p : Nat) (β : mm_Mem), okP β (imT dd c p β) ∧ imT dd c p β 0 14 = β 0 14 + 5 * c
  | 0, p, β => ⟨okP.rf, by show β 0 14 = _; omega⟩
  | c + 1, p, β => by
    obtain ⟨a, b⟩ := imT_ok c (p + 1) (imE β (3 * dd + p))
    refine ⟨okP.e.tr a, ?_⟩
    show imT dd c (p + 1) (imE β (3 * dd + p)) 0 14 = _
    rw [b, imE_n]; omega
theorem imD_ok : ∀ (c p : Nat) (β : mm_Mem), β 0 5 ≤ 3 → okP β (imD c p β) ∧ imD c p β 0 14 ≤ β 0 14 + 15 * c ∧ β 0 14 ≤ imD c p β 0 14
  | 0, p, β, h => ⟨okP.rf, by show β 0 14 ≤ _; omega, Int.le_refl _⟩
  | c + 1, p, β, h => by
    obtain ⟨x, y⟩ := imT_ok (dd := p) (β 0 5).toNat 0 β
    obtain ⟨a, b, e⟩ := imD_ok c (p + 1) (imT p (β 0 5).toNat 0 β) (by rw [x.2 5 (by omega)]; exact h)
    refine ⟨x.tr a, ?_, ?_⟩
    · show imD c (p + 1) (imT p (β 0 5).toNat 0 β) 0 14 ≤ _
      omega
    · show _ ≤ imD c (p + 1) (imT p (β 0 5).toNat 0 β) 0 14
      omega
theorem ck_r {r : Nat → Int} (h : ∀ i, 0 ≤ r i ∧ r i ≤ 255) : ∀ (c i : Nat) (a : Int), 0 ≤ a ∧ a ≤ 240 → 0 ≤ ckA r c i a ∧ ckA r c i a ≤ 240
  | 0, _, a, ha => ha
  | c + 1, i, a, ha => ck_r h c (i + 1) _ (by omega)
theorem ck_cg {r r' : Nat → Int} : ∀ (c i : Nat) (a : Int), (∀ j, i ≤ j → j < i + c → r j = r' j) → ckA r c i a = ckA r' c i a
  | 0, _, a, h => rfl
  | c + 1, i, a, h => by
    rw [ckA, ckA, h i (by omega) (by omega)]
    exact ck_cg c (i + 1) _ (fun j a b => h j (by omega) (by omega))
section Image
variable {E : mm_Env} {d k h b : Nat} {α β τ : mm_Mem} {Q : mm_Q0}
theorem WF.out (w : WF k α) {β : mm_Mem} (o : okP α β) (hn : 0 ≤ β 0 14 ∧ β 0 14 ≤ 69) (hv : ∀ i, 0 ≤ β 25 i ∧ β 25 i ≤ 255) : WF k β := by
  refine w.most (Nat.le_refl _) (fun i _ _ => o.2 i (by omega)) (fun j _ _ => o.1 j (by omega) (by omega)) ?_ ?_ ⟨hn.1, hn.2, hv⟩ (fun i => ?_)
  · rw [o.2 0 (by omega), o.2 1 (by omega), o.2 2 (by omega), o.1 1 (by omega) (by omega)]; exact w.1
  · rw [o.2 13 (by omega)]; exact w.2.2.2.2.2.2.2.1
  · rw [o.1 24 (by omega) (by omega)]; exact w.2.2.2.2.2.1.2.2 i
theorem WF.w_put1 {v : Int} (w : WF k α) (hn : α 0 14 < 69) (hv : 0 ≤ v ∧ v ≤ 255) : WF k (put1 α v) := by
  obtain ⟨n0, n1, n2⟩ := w.2.2.2.2.2.2.2.2
  refine w.out okP.p1 (by rw [put1_n]; omega) (fun i => ?_)
  rw [put1, wr_obj (by omega)]
  by_cases e : i = (α 0 14).toNat
  · subst e; rw [wr_same]; exact hv
  · rw [wr_row e]; exact n2 i
theorem WF.o14 (w : WF k α) : 0 ≤ α 0 14 := w.2.2.2.2.2.2.2.2.1
theorem RepC.outs {β τ' : mm_Mem} (w : WF k α) (H : RepC k h α τ) (o : okP α β) (F : ∀ x, x ≠ 2 → x ≠ 138 → τ' x = τ x) (F2 : ∀ i, i ≠ 12 → τ' 2 i = τ 2 i) (O : gO β τ') : RepC k h β τ' := by
  have hw := w.le
  refine H.most ⟨hw.1, hw.2.1, hw.2.2.1⟩ (fun i _ _ => o.2 i (by omega)) (fun j _ _ => o.1 j (by omega) (by omega)) ⟨F2 2 (by omega), F2 3 (by omega)⟩ (fun x _ _ => F x (by omega) (by omega)) (fun x _ _ => F x (by omega) (by omega)) ⟨F 76 (by omega) (by omega), by rw [F 133 (by omega) (by omega)], F 134 (by omega) (by omega)⟩ ?_ ?_ ?_ O ?_
  · exact H.1.cg (o.2 0 (by omega)) (o.1 1 (by omega) (by omega)) (F2 1 (by omega)) (F 3 (by omega) (by omega))
  · exact H.2.1.cg (o.2 1 (by omega)) (o.2 2 (by omega)) (by rw [F 77 (by omega) (by omega)]) (by rw [F 77 (by omega) (by omega)])
  · rw [F2 14 (by omega), o.2 13 (by omega)]; exact H.2.2.2.2.2.2.2.2.1
  · exact H.2.2.2.2.2.2.2.2.2.2.1.cg (o.1 24 (by omega) (by omega)) (F 139 (by omega) (by omega))
theorem RepM.outs {β τ' : mm_Mem} (H : RepM b α τ) (o : okP α β) (F : ∀ x, x ≠ 140 → x ≠ 193 → τ' x = τ x) (F2 : ∀ i, i ≠ 73 → τ' 140 i = τ 140 i) (O : τ' 140 73 = β 0 14 ∧ ∀ i : Nat, (i : Int) < β 0 14 → τ' 193 i = β 25 i) : RepM b β τ' := by
  refine H.most (fun i _ _ => o.2 i (by omega)) (fun j _ _ => o.1 j (by omega) (by omega)) (F2 12 (by omega)) (fun x _ _ => F x (by omega) (by omega)) (fun x _ _ => F x (by omega) (by omega)) ⟨?_, fun i hi => ?_⟩ ⟨?_, ?_⟩ ?_ O (fun i hi => ?_)
  · rw [F2 1 (by omega), o.2 0 (by omega)]; exact H.2.1.1
  · rw [F 141 (by omega) (by omega), o.1 1 (by omega) (by omega)]; exact H.2.1.2 i hi
  · rw [F2 10 (by omega), o.2 1 (by omega)]; exact H.2.2.1.1
  · rw [F2 11 (by omega), o.2 2 (by omega)]; exact H.2.2.1.2
  · rw [F2 71 (by omega), o.2 13 (by omega)]; exact H.2.2.2.2.2.2.2.2.2.1
  · rw [F 173 (by omega) (by omega), o.1 24 (by omega) (by omega)]; exact H.2.2.2.2.2.2.2.2.2.2.2 i hi
theorem RepC.r_put1 {v : Int} (w : WF k α) (H : RepC k h α τ) : RepC k h (put1 α v) (wr (wr τ 138 (τ 2 12).toNat v) 2 12 (τ 2 12 + 1)) := by
  have h0 := w.o14
  obtain ⟨o1, o2⟩ := H.2.2.2.2.2.2.2.2.2.1
  refine H.outs w okP.p1 (fun x a b => by rw [wr_obj a, wr_obj b]) (fun i a => by rw [wr_row a, wr_obj (by omega)]) ⟨by rw [wr_same, put1_n, o1], fun i hi => ?_⟩
  rw [put1_n] at hi
  rw [wr_obj (by omega), o1, put1]
  have x25 : ∀ z : Int, wr (wr α 25 (α 0 14).toNat v) 0 14 z 25 = wr α 25 (α 0 14).toNat v 25 := fun z => wr_obj (by omega)
  rw [x25]
  by_cases e : i = (α 0 14).toNat
  · subst e; rw [wr_same, wr_same]
  · rw [wr_row e, wr_row e]; exact o2 i (by omega)
theorem RepM.r_put1 {v : Int} (w : WF k α) (H : RepM b α τ) : RepM b (put1 α v) (wr (wr τ 193 (τ 140 73).toNat v) 140 73 (τ 140 73 + 1)) := by
  have h0 := w.o14
  obtain ⟨o1, o2⟩ := H.2.2.2.2.2.2.2.2.2.2.1
  refine H.outs okP.p1 (fun x a b => by rw [wr_obj a, wr_obj b]) (fun i a => by rw [wr_row a, wr_obj (by omega)]) ⟨by rw [wr_same, put1_n, o1], fun i hi => ?_⟩
  rw [put1_n] at hi
  rw [wr_obj (by omega), o1, put1]
  have x25 : ∀ z : Int, wr (wr α 25 (α 0 14).toNat v) 0 14 z 25 = wr α 25 (α 0 14).toNat v 25 := fun z => wr_obj (by omega)
  rw [x25]
  by_cases e : i = (α 0 14).toNat
  · subst e; rw [wr_same, wr_same]
  · rw [wr_row e, wr_row e]; exact o2 i (by omega)
theorem okP.o0 : okP α (wr α 0 14 0) := ⟨fun j a _ => wr_obj a, fun i a => wr_row a⟩
theorem WF.out0 (w : WF k α) : WF k (wr α 0 14 0) := by
  refine w.out okP.o0 (by rw [wr_same]; omega) (fun i => ?_)
  rw [wr_obj (by omega)]; exact w.2.2.2.2.2.2.2.2.2.2 i
theorem RepC.out0 (w : WF k α) (H : RepC k h α τ) : RepC k h (wr α 0 14 0) (wr τ 2 12 0) :=
  H.outs w okP.o0 (fun x a _ => wr_obj a) (fun i a => wr_row a) ⟨by rw [wr_same, wr_same], fun i hi => by rw [wr_same] at hi; omega⟩
theorem RepM.out0 (H : RepM b α τ) : RepM b (wr α 0 14 0) (wr τ 140 73 0) :=
  H.outs okP.o0 (fun x a _ => wr_obj a) (fun i a => wr_row a) ⟨by rw [wr_same, wr_same], fun i hi => by rw [wr_same] at hi; omega⟩
theorem hi8 {v : Int} (hv : 0 ≤ v ∧ v ≤ 65535) : mm_shr v 8 = v / 256 ∧ mm_and v 255 = v % 256 ∧ mm_and (mm_shr v 8) 255 = v / 256 := by
  obtain ⟨n, rfl⟩ : ∃ n : Nat, v = (n : Int) := ⟨v.toNat, by omega⟩
  have e1 : mm_shr (n : Int) 8 = ((n / 2 ^ 8 : Nat) : Int) := zm_shr (k := 8) (by omega) (by omega)
  have e2 : mm_and (n : Int) 255 = ((n &&& 255 : Nat) : Int) := zm_and (b := 255) (by omega)
  have e3 : n &&& 255 = n % 256 := by rw [show (255 : Nat) = 2 ^ 8 - 1 from rfl, Nat.and_two_pow_sub_one_eq_mod]
  have e4 : mm_and ((n / 2 ^ 8 : Nat) : Int) 255 = (((n / 2 ^ 8) &&& 255 : Nat) : Int) := zm_and (b := 255) (by omega)
  have e5 : (n / 2 ^ 8) &&& 255 = n / 256 := by
    rw [show (255 : Nat) = 2 ^ 8 - 1 from rfl, Nat.and_two_pow_sub_one_eq_mod]; omega
  rw [e1, e2, e3, e4, e5]
  omega
theorem and8 {v : Int} (hv : 0 ≤ v ∧ v ≤ 255) : mm_and v 255 = v := by rw [(hi8 (v := v) (by omega)).2.1]; omega
theorem c_putOctet {v : Int} (w : WF k β) (H : RepC k h β τ) (hn : β 0 14 < 69) (hv : 0 ≤ v ∧ v ≤ 255) (k1 : ∀ τ', RepC k h (put1 β v) τ' → FrC τ τ' → Q none τ') : M0 E d qX10_putOctet [vR 2, vI v] τ Q := by
  have h0 := w.o14
  have o1 := H.2.2.2.2.2.2.2.2.2.1.1
  exact mX10_putOctet ⟨fun q => by omega, fun _ => ⟨by omega, by omega, ⟨by omega, by omega⟩, ⟨by omega, by omega⟩, k1 _ (H.r_put1 w) ((FrC.rf.w1 (by omega)).w1 (by omega))⟩⟩
theorem c_putTwo {v : Int} (w : WF k β) (H : RepC k h β τ) (hn : β 0 14 + 1 < 69) (hv : 0 ≤ v ∧ v ≤ 65535) (k1 : ∀ τ', RepC k h (put2 β v) τ' → FrC τ τ' → Q none τ') : M0 E (d + 1) qX10_putTwo [vR 2, vI v] τ Q := by
  refine mX10_putTwo ?_
  rw [(hi8 hv).1, (hi8 hv).2.1]
  refine c_putOctet w H (by omega) (by omega) (fun τ1 H1 F1 => ⟨rfl, c_putOctet (w.w_put1 (by omega) (by omega)) H1 (by rw [put1_n]; omega) (by omega) (fun τ2 H2 F2 => ⟨rfl, k1 τ2 H2 (F1.tr F2)⟩)⟩)
theorem m_writes {v x : Int} (w : WF k β) (H : RepM b β τ) (hn : β 0 14 < 69) (hv : mm_and x 255 = v) (hr : 0 ≤ v ∧ v ≤ 255) (k1 : ∀ τ', RepM b (put1 β v) τ' → FrM τ τ' → Q none τ') : M0 E d qX11_writes [vR 140, vI x] τ Q := by
  have h0 := w.o14
  have o1 := H.2.2.2.2.2.2.2.2.2.2.1.1
  refine mX11_writes ?_
  rw [hv]
  exact ⟨by omega, by omega, ⟨by omega, by omega⟩, ⟨by omega, by omega⟩, k1 _ (H.r_put1 w) ((FrM.rf.w1 (by omega)).w1 (by omega))⟩
theorem m_writes2 {v : Int} (w : WF k β) (H : RepM b β τ) (hn : β 0 14 + 1 < 69) (hv : 0 ≤ v ∧ v ≤ 65535) (k1 : ∀ τ', RepM b (put2 β v) τ' → FrM τ τ' → Q none τ') : M0 E (d + 1) qX11_writes2 [vR 140, vI v] τ Q := by
  obtain ⟨e1, e2, e3⟩ := hi8 hv
  exact mX11_writes2 (m_writes w H (by omega) e3 (by omega) (fun τ1 H1 F1 => ⟨rfl, m_writes (w.w_put1 (by omega) (by omega)) H1 (by rw [put1_n]; omega) e2 (by omega) (fun τ2 H2 F2 => ⟨rfl, k1 τ2 H2 (F1.tr F2)⟩)⟩))
theorem WF.w_put2 {v : Int} (w : WF k α) (hn : α 0 14 + 1 < 69) (hv : 0 ≤ v ∧ v ≤ 65535) : WF k (put2 α v) := (w.w_put1 (by omega) (by omega)).w_put1 (by rw [put1_n]; omega) (by omega)
theorem WF.eb (w : WF k α) (e : Nat) : 0 ≤ α 15 e ∧ α 15 e ≤ 1000 ∧ -1 ≤ α 16 e ∧ α 16 e ≤ 999 ∧ 0 ≤ α 17 e ∧ α 17 e ≤ 255 := w.2.2.2.2.1 e
theorem WF.w_imE {e : Nat} (w : WF k α) (hn : α 0 14 + 5 ≤ 69) : WF k (imE α e) := by
  have eb := w.eb e
  exact ((w.w_put2 (by omega) (by omega)).w_put2 (by rw [put2_n]; omega) (by omega)).w_put1 (by rw [put2_n, put2_n]; omega) (by omega)
theorem WF.w_imP : ∀ (c p : Nat) (β : mm_Mem), WF k β → (p : Int) + c ≤ β 0 7 → β 0 14 + 2 * c ≤ 69 → WF k (imP c p β)
  | 0, p, β, w, _, _ => w
  | c + 1, p, β, w, h7, hn => by
    have := w.2.2.2.1 p (by omega)
    exact WF.w_imP c (p + 1) _ (w.w_put2 (by omega) (by omega)) (by rw [okP.p2.2 7 (by omega)]; omega) (by rw [put2_n]; omega)
theorem WF.w_imT {dd : Nat} : ∀ (c p : Nat) (β : mm_Mem), WF k β → β 0 14 + 5 * c ≤ 69 → WF k (imT dd c p β)
  | 0, p, β, w, _ => w
  | c + 1, p, β, w, hn => WF.w_imT c (p + 1) _ (w.w_imE (by omega)) (by rw [imE_n]; omega)
theorem WF.w_imD : ∀ (c p : Nat) (β : mm_Mem), WF k β → β 0 14 + 15 * c ≤ 69 → WF k (imD c p β)
  | 0, p, β, w, _ => w
  | c + 1, p, β, w, hn => by
    have hw := w.le
    obtain ⟨x, y⟩ := imT_ok (dd := p) (β 0 5).toNat 0 β
    exact WF.w_imD c (p + 1) _ (w.w_imT _ _ _ (by omega)) (by omega)
theorem WF.w_imB (w : WF k α) : WF k (imB α) ∧ okP α (imB α) ∧ imB α 0 14 ≤ 68 := by
  have hw := w.le
  have w0 := w.out0
  have e0 : wr α 0 14 0 0 14 = 0 := wr_same
  have e7 : wr α 0 14 0 0 7 = α 0 7 := wr_row (by omega)
  obtain ⟨a, a2⟩ := imP_ok (α 0 7).toNat 0 (wr α 0 14 0)
  have w1 := WF.w_imP (α 0 7).toNat 0 _ w0 (by omega) (by omega)
  obtain ⟨c, c2, c3⟩ := imD_ok (α 0 6).toNat 0 (imP (α 0 7).toNat 0 (wr α 0 14 0)) (by rw [a.2 5 (by omega), okP.o0.2 5 (by omega)]; omega)
  have w2 := WF.w_imD (α 0 6).toNat 0 _ w1 (by omega)
  exact ⟨w2, (okP.o0.tr a).tr c, by unfold imB; omega⟩
theorem WF.img (w : WF k α) : WF k (imgA α) := by
  obtain ⟨a, b, c⟩ := w.w_imB
  have r := ck_r (r := imB α 25) a.2.2.2.2.2.2.2.2.2.2 (imB α 0 14).toNat 0 33 (by omega)
  exact a.w_put1 (by omega) (by omega)
end Image
