/-! house(), by the class -/
def hsA (α β : mm_Mem) (cd : List Int) : mm_Mem := fun o k => if o = 0 then (if k = 0 then 0 else if k = 1 then 0 else if k = 2 then -1 else if 3 ≤ k ∧ k ≤ 12 then β 0 k else α 0 k) else if 2 ≤ o ∧ o ≤ 20 then β o k else if o = 21 then (wsP β cd (k / 5 / 1000) (k / 5 % 1000)).1 (k % 5) else if o = 22 then (wsP β cd (k / 1000) (k % 1000)).2 else if o = 23 then numA (β 0 3) (wsP β cd (k / 1000) (k % 1000)).1 (β 0 4).toNat else α o k
def hsF (α : mm_Mem) (k p : Nat) : mm_Mem := refA (wr (wr (wr α 0 0 0) 0 1 (k : Int)) 0 2 (p : Int)) 1
def houseX (α : mm_Mem) : PzT := hsP (α 1) (α 0 0).toNat
def houseA (α : mm_Mem) : mm_Mem := match houseX α with
  | .inl (k, p) => hsF α k p
  | .inr (_, β, cd, _) => hsA α β cd
def houseR (α : mm_Mem) : Int := match houseX α with
  | .inl _ => -1
  | .inr (m, _, _, _) => (m : Int)
section HsA
variable {α β : mm_Mem} {cd cd' : List Int}
theorem hs_0 {i : Nat} (h : 3 ≤ i ∧ i ≤ 12) : hsA α β cd 0 i = β 0 i := by unfold hsA; rw [if_pos rfl, if_neg (by omega), if_neg (by omega), if_neg (by omega), if_pos h]
theorem hs_0' {i : Nat} (h : 12 < i) : hsA α β cd 0 i = α 0 i := by unfold hsA; rw [if_pos rfl, if_neg (by omega), if_neg (by omega), if_neg (by omega), if_neg (by omega)]
theorem hs_o {o : Nat} (h : 2 ≤ o ∧ o ≤ 20) : hsA α β cd o = β o := by funext k; unfold hsA; rw [if_neg (by omega), if_pos h]
theorem hs_o' {o : Nat} (h : o = 1 ∨ 24 ≤ o) : hsA α β cd o = α o := by funext k; unfold hsA; rw [if_neg (by omega), if_neg (by omega), if_neg (by omega), if_neg (by omega), if_neg (by omega)]
theorem hs_21 {t n i : Nat} (hn : n < 1000) (hi : i < 5) : hsA α β cd 21 (5 * (1000 * t + n) + i) = (wsP β cd t n).1 i := by
  unfold hsA
  rw [if_neg (by omega), if_neg (by omega), if_pos rfl, show (5 * (1000 * t + n) + i) / 5 / 1000 = t by omega, show (5 * (1000 * t + n) + i) / 5 % 1000 = n by omega, show (5 * (1000 * t + n) + i) % 5 = i by omega]
theorem hs_22 {t n : Nat} (hn : n < 1000) : hsA α β cd 22 (1000 * t + n) = (wsP β cd t n).2 := by
  unfold hsA
  rw [if_neg (by omega), if_neg (by omega), if_neg (by omega), if_pos rfl, show (1000 * t + n) / 1000 = t by omega, show (1000 * t + n) % 1000 = n by omega]
theorem hs_23 {t n : Nat} (hn : n < 1000) : hsA α β cd 23 (1000 * t + n) = numA (β 0 3) (wsP β cd t n).1 (β 0 4).toNat := by
  unfold hsA
  rw [if_neg (by omega), if_neg (by omega), if_neg (by omega), if_neg (by omega), if_pos rfl, show (1000 * t + n) / 1000 = t by omega, show (1000 * t + n) % 1000 = n by omega]
theorem hs_wn {t n i : Nat} (hn : n < 1000) (hi : i < 5) : wnA (hsA α β cd) t n i = (wsP β cd t n).1 i := hs_21 hn hi
/-- the new state is one -/
theorem WF.hs {k n a : Nat} (w : WF k α) (S : SIn n a β cd cd') : WF (k + 1) (hsA α β cd) ∧ wfNm (hsA α β cd) ∧ wfZ (hsA α β cd) := by
  obtain ⟨-, -, -, H, N, D, P, C, T, R⟩ := S
  have h := H.1
  obtain ⟨⟨a1, a2, a3, a4, a5, a6, a7⟩, w2, w3, w4, w5, ⟨c1, c2, c3⟩, w7, w8, w9⟩ := w
  refine ⟨⟨⟨Int.le_refl 0, show (0 : Int) ≤ 1600 by omega, ?_, Int.le_refl 0, show (0 : Int) ≤ 5 by omega, Int.le_refl (-1), show (-1 : Int) ≤ 1600 by omega⟩, ⟨?_, ?_, ?_⟩, ?_, ?_, ?_, ⟨fun p => ?_, fun d => ?_, fun i => ?_⟩, ?_, ?_, ?_, ?_, ?_⟩, ?_, ?_⟩
  · rw [hs_o' (Or.inl rfl)]; exact a3
  · rw [hs_0 (by omega), hs_0 (by omega), hs_0 (by omega), hs_0 (by omega), hs_0 (by omega)]; right; exact H.1
  · rw [hs_0 (by omega), hs_0 (by omega), hs_0 (by omega)]; exact H.2.1
  · rw [hs_0 (by omega), hs_0 (by omega)]; exact H.2.2
  · intro d hd
    rw [hs_0 (by omega)] at hd
    rw [hs_o (by omega), hs_o (by omega), hs_o (by omega)]; exact D d hd
  · intro p hp
    rw [hs_0 (by omega)] at hp
    rw [hs_o (o := 8) (by omega), hs_o (o := 9) (by omega), hs_o (o := 10) (by omega), hs_o (o := 11) (by omega), hs_o (o := 12) (by omega), hs_0 (i := 6) (by omega), hs_0 (i := 5) (by omega)]
    obtain ⟨p1, p2, p3, p4, p5, p6, p7, p8⟩ := P p hp
    have := (C p).1
    exact ⟨p1, p2, p3, p4, p5, p6, p7, p8, by omega, by omega⟩
  · intro e
    rw [hs_o (by omega), hs_o (by omega), hs_o (by omega)]
    obtain ⟨-, -, -, y4, y5, y6, -⟩ := C e
    omega
  · rw [hs_o (by omega), hs_o (by omega)]
    obtain ⟨-, y2, y3, -⟩ := C p
    omega
  · rw [hs_o (by omega), hs_o (by omega), hs_o (by omega)]
    obtain ⟨-, -, -, -, -, -, y7, y8, y9⟩ := C d
    omega
  · rw [hs_o' (by omega)]
    have := c3 i
    omega
  · intro t ht
    rw [hs_0 (by omega)] at ht
    refine ⟨fun n hn => ?_, fun m n hm hn al => ?_⟩
    · have ok := ws_ok (cd := cd) H T ht n
      rw [hs_0 (by omega), hs_0 (by omega), hs_22 hn, hs_23 hn]
      refine ⟨fun i hi => by rw [hs_wn hn (by omega)]; exact ok.1 i hi, ok.2.1, ok.2.2, num_congr _ (fun i hi => by rw [hs_wn hn (by omega)])⟩
    · unfold alA at al ⊢
      rw [hs_23 (by omega), hs_23 (by omega), hs_22 (by omega), hs_22 (by omega)] at al
      rw [hs_23 (by omega), hs_23 (by omega), hs_22 (by omega), hs_22 (by omega)]
      have okm := ws_ok (cd := cd) H T ht m
      have okn := ws_ok (cd := cd) H T ht n
      have al1 : alW β (wsP β cd t m) (wsP β cd t n) := ⟨fun i hi => num_inj (nt := β 0 3) (by omega) (β 0 4).toNat (fun i hi => okm.1 i (by omega)) (fun i hi => okn.1 i (by omega)) al.1 i (by omega), al.2⟩
      have a2 := nx_al (cd := cd) H al1
      exact ⟨num_congr _ (fun i hi => a2.1 i (by omega)), a2.2⟩
  · rw [hs_0' (by omega)]; exact w8
  · rw [hs_0' (by omega)]; exact w9.1
  · rw [hs_0' (by omega)]; exact w9.2.1
  · intro i
    rw [hs_o' (by omega)]; exact w9.2.2 i
  · refine ⟨fun t ht => ?_, fun t ht => ?_, fun t ht => ?_⟩
    · rw [hs_0 (by omega)] at ht; rw [hs_o (by omega)]; exact N.1 t ht
    · rw [hs_0 (by omega)] at ht; rw [hs_o (by omega)]; exact N.2.1 t ht
    · rw [hs_0 (by omega)] at ht; rw [hs_o (by omega)]; exact N.2.2 t ht
  · intro dd t _ _ _
    rw [hs_o (by omega), hs_o (by omega), hs_o (by omega)]
    obtain ⟨-, -, -, y4, y5, y6, -⟩ := C (3 * dd + t)
    exact ⟨y4, y5, y6⟩
end HsA
section CHouse
variable {E : mm_Env} {d : Nat} {τ : mm_Mem} {Q : mm_Q0} {α β : mm_Mem} {cd cd' : List Int} {k h hh : Nat}
theorem HbC.cg3 {τ' : mm_Mem} (H : HbC hh β τ) (hd : β 0 6 ≤ 4) (hp : β 0 7 ≤ 4) (e : ∀ o, hh ≤ o → o < hh + 34 → o ≠ hh + 6 → o ≠ hh + 7 → o ≠ hh + 12 → o ≠ hh + 13 → τ' o = τ o) : HbC hh β τ' := by
  obtain ⟨⟨a1, a2, a3, a4⟩, ⟨b1, b2, b3⟩, c, d, f, g⟩ := H
  refine ⟨⟨fun i hi => ?_, ?_, ?_, fun j hj => ?_⟩, ⟨fun t q => ?_, fun d q => ?_, fun p q => ?_⟩, fun d q => ?_, fun p q i hi => ?_, fun t q => ?_, fun k j hk q => ?_⟩
  · rw [e hh (by omega) (by omega) (by omega) (by omega) (by omega) (by omega)]; exact a1 i hi
  · rw [e hh (by omega) (by omega) (by omega) (by omega) (by omega) (by omega)]; exact a2
  · rw [e hh (by omega) (by omega) (by omega) (by omega) (by omega) (by omega)]; exact a3
  · rw [e (hh + 8) (by omega) (by omega) (by omega) (by omega) (by omega) (by omega)]; exact a4 j hj
  · rw [e (hh + 1) (by omega) (by omega) (by omega) (by omega) (by omega) (by omega)]; exact b1 t q
  · rw [e _ (by omega) (by omega) (by omega) (by omega) (by omega) (by omega)]; exact b2 d q
  · rw [e _ (by omega) (by omega) (by omega) (by omega) (by omega) (by omega)]; exact b3 p q
  · rw [e (hh + 14 + 4 * d) (by omega) (by omega) (by omega) (by omega) (by omega) (by omega), e (hh + 14 + 4 * d + 1) (by omega) (by omega) (by omega) (by omega) (by omega) (by omega), e (hh + 14 + 4 * d + 2) (by omega) (by omega) (by omega) (by omega) (by omega) (by omega), e (hh + 14 + 4 * d + 3) (by omega) (by omega) (by omega) (by omega) (by omega) (by omega)]; exact c d q
  · rw [e _ (by omega) (by omega) (by omega) (by omega) (by omega) (by omega)]; exact d p q i hi
  · rw [e (hh + 2) (by omega) (by omega) (by omega) (by omega) (by omega) (by omega), e (hh + 3) (by omega) (by omega) (by omega) (by omega) (by omega) (by omega)]; exact f t q
  · rw [e (hh + 9) (by omega) (by omega) (by omega) (by omega) (by omega) (by omega), e (hh + 10) (by omega) (by omega) (by omega) (by omega) (by omega) (by omega), e (hh + 11) (by omega) (by omega) (by omega) (by omega) (by omega) (by omega)]; exact g k j hk q
theorem c_house (hk : k ≤ 600) (w : WF k α) (H : RepC k h α τ) (k1 : ∀ h' τ', RepC k h' (houseA α) τ' → FrC τ τ' → Q (some (vI (houseR α))) τ') : M0 E (d + 44) qX10_house [vR 2] τ Q := by
  obtain ⟨h1, h2, h3, h4, h5, h6, h7, h8, h9, h10, h11, h12, h13⟩ := id H
  obtain ⟨⟨a1, a2, a3, a4, a5, a6, a7⟩, -, -, -, -, ⟨-, -, c24⟩, -⟩ := id w
  have le := w.le
  have hr : ∀ i, 0 ≤ α 1 i ∧ α 1 i ≤ 255 := a3
  have hn : (α 0 0).toNat ≤ 1600 := by omega
  have h4x : h = 4 ∨ h = 38 := h3.1
  have hh4 : 42 - h = 4 ∨ 42 - h = 38 := by omega
  refine mX10_house (d := d + 43) (mX10_takeTape ⟨_, rfl, ?_⟩)
  rw [h1.1]
  refine c_split (d := d + 40) (n := (α 0 0).toNat) (r := α 1) hn hr (by omega) (fun i hi => by rw [wr_obj (by omega)]; exact h1.2 i hi) (fun i hi => by rw [wr_obj (by omega)]; exact h12.1 i hi) (fun τ2 T2 F2 => ⟨rfl, ?_⟩)
  have O2 : ∀ o, o ≠ 2 → ¬ (72 ≤ o ∧ o ≤ 75) → τ2 o = τ o := fun o p q => by rw [F2.1 o (by omega) (by omega) (by omega) (by omega), wr_obj p]
  have e2 : ∀ i, i ≠ 1 → τ2 2 i = τ 2 i := fun i hi => by rw [F2.1 2 (by omega) (by omega) (by omega) (by omega), wr_row hi]
  have e21 : τ2 2 1 = 0 := by rw [F2.1 2 (by omega) (by omega) (by omega) (by omega), wr_same]
  refine ⟨42 - h, by rw [e2 3 (by omega)]; exact h3.2.2, (kdR hh4).1, ?_⟩
  have FrC2 : ∀ {τ' : mm_Mem}, frB (42 - h) τ2 τ' → FrC τ τ' := fun {τ'} F o ho => by rw [F.1 o (by omega) (by omega), O2 o (by omega) (by omega)]
  refine c_read (d := d) hh4 hn hr T2 (fun m1 β c1 c1' e1 τ3 R3 B3 F3 => ⟨_, rfl, ⟨by omega, ?_⟩, fun q => ?_, fun q => by omega⟩) (fun kk p e1 τ3 R3 F3 => ⟨_, rfl, by decide, fun q => absurd rfl q, fun _ => ?_⟩)
  · have sp := si_hs (r := α 1) hn hr
    rw [e1] at sp
    have := sp.1; omega
  · have sp := si_hs (r := α 1) hn hr
    rw [e1] at sp
    obtain ⟨m6, a, S⟩ := sp
    have eX : houseX α = .inr (m1, β, c1, c1') := e1
    have eA : houseA α = hsA α β c1 := by unfold houseA; rw [eX]
    have eR : houseR α = (m1 : Int) := by unfold houseR; rw [eX]
    obtain ⟨sa, sl, sl', sH', sN', sD', sP', sC', sT', sR'⟩ := id S
    have s0 := sH'.1
    have e3 : ∀ i, i ≠ 1 → τ3 2 i = τ 2 i := fun i hi => by rw [F3.1 2 (by omega) (by omega)]; exact e2 i hi
    refine ⟨42 - h, by rw [e3 3 (by omega)]; exact h3.2.2, (kdR hh4).1, h, by rw [e3 2 (by omega)]; exact h3.2.1, (kdR h4x).1, 42 - h, rfl, (kdR hh4).1, ?_⟩
    have O4 : ∀ o, o ≠ 2 → wr (wr τ3 2 3 (h : Int)) 2 2 ((42 - h : Nat) : Int) o = τ3 o := fun o ho => by rw [wr_obj ho, wr_obj ho]
    have B4 : HbC (42 - h) β (wr (wr τ3 2 3 (h : Int)) 2 2 ((42 - h : Nat) : Int)) := B3.cg (by omega) (by omega) (fun o p q _ _ => O4 o (by omega))
    have S4 : RuS (42 - h) β c1 (wr (wr τ3 2 3 (h : Int)) 2 2 ((42 - h : Nat) : Int)) := by
      refine ⟨B4.1.2.2.2, B4.2.2.2.2.2, ?_, fun i hi => ?_⟩
      · rw [O4 _ (by omega)]; exact R3.2.2.1
      · rw [O4 _ (by omega)]; exact R3.2.2.2 i hi
    refine c_make (d := d + 36) hh4 sH' sT' sR' (by omega) S4 B4 (fun τ5 W5 g3 g4 g5 F5 => ⟨rfl, ?_⟩)
    have O5 : ∀ o, o ≠ 2 → o ≠ 42 - h + 6 → o ≠ 42 - h + 12 → o ≠ 42 - h + 13 → ¬ (78 ≤ o ∧ o < 91) → τ5 o = τ3 o := fun o p q r s u => by rw [F5.1 o q r s u, O4 o p]
    have e5 : ∀ i, i ≠ 2 → i ≠ 3 → τ5 2 i = τ3 2 i := fun i p q => by rw [F5.1 2 (by omega) (by omega) (by omega) (by omega), wr_row p, wr_row q]
    have e52 : τ5 2 2 = ((42 - h : Nat) : Int) := by rw [F5.1 2 (by omega) (by omega) (by omega) (by omega), wr_same]
    have e53 : τ5 2 3 = (h : Int) := by rw [F5.1 2 (by omega) (by omega) (by omega) (by omega), wr_row (by omega), wr_same]
    have B5 : HbC (42 - h) β τ5 := B4.cg3 (by omega) (by omega) (fun o p q r s u v => F5.1 o r u v (by omega))
    have OT : ∀ o, o ≠ 2 → o ≠ 77 → ¬ (4 ≤ o ∧ o < 76) → ¬ (78 ≤ o ∧ o < 91) → τ5 o = τ o := fun o p q r s => by rw [O5 o p (by omega) (by omega) (by omega) s, F3.1 o q (by omega), O2 o p (by omega)]
    have e2T : ∀ i, i ≠ 1 → i ≠ 2 → i ≠ 3 → τ5 2 i = τ 2 i := fun i p q r => by rw [e5 i q r, e3 i p]
    have e21T : τ5 2 1 = 0 := by rw [e5 1 (by omega) (by omega), F3.1 2 (by omega) (by omega)]; exact e21
    have K := k1 (42 - h) τ5
    rw [eA, eR] at K
    obtain ⟨⟨b1, b2, b3, b4⟩, bN, bD, bP, bT, bR⟩ := B5
    refine K ⟨⟨by rw [e21T]; rfl, fun i hi => ?_⟩, ⟨?_, ?_⟩, ⟨hh4, e52, by rw [e53]; omega⟩, ⟨fun i hi => ?_, ?_, ?_, fun j hj => ?_⟩, bN.cb ⟨hs_0 (by omega), hs_0 (by omega), hs_0 (by omega)⟩ (hs_o (by omega)) (hs_o (by omega)) (hs_o (by omega)), bD.cb ⟨hs_0 (by omega), hs_0 (by omega)⟩ (fun o p q => hs_o (by omega)), bP.cb (hs_0 (by omega)) (fun o p q => hs_o (by omega)), ⟨⟨?_, ?_, fun q => ?_⟩, fun t m q1 q2 => ?_⟩, ?_, ⟨?_, fun i q => ?_⟩, fun i hi => ?_, ⟨fun i hi => ?_, ?_, ?_, fun i hi => ?_⟩, ?_⟩ (fun o ho => OT o (by omega) (by omega) (by omega) (by omega))
    · rw [OT 3 (by omega) (by omega) (by omega) (by omega), hs_o' (Or.inl rfl)]; exact h1.2 i hi
    · rw [O5 77 (by omega) (by omega) (by omega) (by omega) (by omega)]; exact R3.1
    · rw [O5 77 (by omega) (by omega) (by omega) (by omega) (by omega)]; exact R3.2.1
    · rw [hs_0 (by omega)]; exact b1 i hi
    · rw [hs_0 (by omega)]; exact b2
    · rw [hs_0 (by omega)]; exact b3
    · rw [hs_0 (by omega)]; exact b4 j hj
    · rw [hs_0 (by omega)]; exact g3
    · rw [hs_0 (by omega)]; exact g4
    · rw [hs_0 (by omega), hs_0 (by omega)]; exact g5
    · rw [hs_0 (by omega)] at q1
      obtain ⟨r1, r2, r3⟩ := W5 t m q1 q2
      have ep : tp (wpA (hsA α β c1) t m) = tp (pkW β (wsP β c1 t m)) := tp_congr (fun i hi => by
        unfold wpA pkW
        rw [hs_0 (by omega), hs_wn q2 hi])
      rw [ep, hs_23 q2, hs_22 q2, show 80 + t = 79 + 1 + t by omega, show 84 + t = 83 + 1 + t by omega, show 88 + t = 87 + 1 + t by omega]
      exact ⟨r1, r2, r3⟩
    · rw [e2T 14 (by omega) (by omega) (by omega), hs_0' (by omega)]; exact h9
    · rw [e2T 12 (by omega) (by omega) (by omega), hs_0' (by omega)]; exact h10.1
    · rw [hs_0' (by omega)] at q
      rw [OT 138 (by omega) (by omega) (by omega) (by omega), hs_o' (by omega)]; exact h10.2 i q
    · rw [OT 139 (by omega) (by omega) (by omega) (by omega), hs_o' (by omega)]; exact h11 i hi
    · rw [OT 76 (by omega) (by omega) (by omega) (by omega)]; exact h12.1 i hi
    · rw [OT 133 (by omega) (by omega) (by omega) (by omega)]; exact h12.2.1
    · rw [OT 133 (by omega) (by omega) (by omega) (by omega)]; exact h12.2.2.1
    · rw [OT 134 (by omega) (by omega) (by omega) (by omega), OT 133 (by omega) (by omega) (by omega) (by omega)]; exact h12.2.2.2 i hi
    · exact h13.cg (fun o p q => OT o (by omega) (by omega) (by omega) (by omega)) kdD_133
  · have eX : houseX α = .inl (kk, p) := e1
    have eA : houseA α = hsF α kk p := by unfold houseA; rw [eX]
    have eR : houseR α = -1 := by unfold houseR; rw [eX]
    have O3 : ∀ o, o ≠ 2 → o ≠ 77 → ¬ (72 ≤ o ∧ o ≤ 75) → ¬ (42 - h ≤ o ∧ o < 42 - h + 34) → τ3 o = τ o := fun o p q r s => by rw [F3.1 o q s, O2 o p r]
    have e9 : τ3 139 1 = α 24 1 := by rw [O3 139 (by omega) (by omega) (by omega) (by omega)]; exact h11 1 (by omega)
    have c1 := c24 1
    rw [e9]
    have OT : ∀ o, o ≠ 2 → o ≠ 77 → o ≠ 139 → ¬ (72 ≤ o ∧ o ≤ 75) → ¬ (42 - h ≤ o ∧ o < 42 - h + 34) → wr τ3 139 1 (α 24 1 + 1) o = τ o := fun o p q r s u => by rw [wr_obj r]; exact O3 o p q s u
    have e2T : ∀ i, i ≠ 1 → wr τ3 139 1 (α 24 1 + 1) 2 i = τ 2 i := fun i hi => by rw [wr_obj (by omega), F3.1 2 (by omega) (by omega)]; exact e2 i hi
    have A0 : ∀ i, 3 ≤ i → hsF α kk p 0 i = α 0 i := fun i hi => by unfold hsF refA; rw [wr_obj (by omega), wr_row (by omega), wr_row (by omega), wr_row (by omega)]
    have Ao : ∀ o, o ≠ 0 → o ≠ 24 → hsF α kk p o = α o := fun o p q => by unfold hsF refA; rw [wr_obj q, wr_obj p, wr_obj p, wr_obj p]
    have A1 : hsF α kk p 0 0 = 0 := by unfold hsF refA; rw [wr_obj (by omega), wr_row (by omega), wr_row (by omega), wr_same]
    have A2 : hsF α kk p 0 1 = (kk : Int) := by unfold hsF refA; rw [wr_obj (by omega), wr_row (by omega), wr_same]
    have A3 : hsF α kk p 0 2 = (p : Int) := by unfold hsF refA; rw [wr_obj (by omega), wr_same]
    have A24 : ∀ i, hsF α kk p 24 i = if i = 1 then α 24 1 + 1 else α 24 i := fun i => by
      unfold hsF refA
      by_cases q : i = 1
      · subst q; rw [wr_same, if_pos rfl, wr_obj (by omega), wr_obj (by omega), wr_obj (by omega)]
      · rw [wr_row q, if_neg q, wr_obj (by omega), wr_obj (by omega), wr_obj (by omega)]
    have K := k1 h (wr τ3 139 1 (α 24 1 + 1))
    rw [eA, eR] at K
    have eH : ∀ o, h ≤ o → o < h + 34 → wr τ3 139 1 (α 24 1 + 1) o = τ o := fun o p q => OT o (by omega) (by omega) (by omega) (by omega) (by omega)
    refine ⟨⟨by omega, by omega⟩, K ⟨⟨?_, fun i hi => ?_⟩, ⟨?_, ?_⟩, h3.cg (e2T 2 (by omega)) (e2T 3 (by omega)), h4.cg (fun i p q => A0 i p) eH, h5.cg (by omega) (by omega) (fun i p q => A0 i p) (Ao 2 (by omega) (by omega)) (Ao 3 (by omega) (by omega)) (Ao 4 (by omega) (by omega)) eH, h6.cg (by omega) (fun i p q => A0 i p) (fun j p q => Ao j (by omega) (by omega)) (fun j p q => Ao j (by omega) (by omega)) eH, h7.cg (by omega) (fun i p q => A0 i p) (fun j p q => Ao j (by omega) (by omega)) eH, h8.cg (by omega) (fun i p q => A0 i p) (fun j p q => Ao j (by omega) (by omega)) (fun o p q => OT o (by omega) (by omega) (by omega) (by omega) (by omega)), ?_, ⟨?_, fun i q => ?_⟩, fun i hi => ?_, h12.cg (OT 76 (by omega) (by omega) (by omega) (by omega) (by omega)) (by rw [OT 133 (by omega) (by omega) (by omega) (by omega) (by omega)]) (OT 134 (by omega) (by omega) (by omega) (by omega) (by omega)), h13.cg (fun o p q => OT o (by omega) (by omega) (by omega) (by omega) (by omega)) kdD_133⟩ (fun o ho => OT o (by omega) (by omega) (by omega) (by omega) (by omega))⟩
    · rw [A1, wr_obj (by omega), F3.1 2 (by omega) (by omega)]; exact e21
    · rw [OT 3 (by omega) (by omega) (by omega) (by omega) (by omega), Ao 1 (by omega) (by omega)]; exact h1.2 i hi
    · rw [A2, wr_obj (by omega)]; exact R3.1
    · rw [A3, wr_obj (by omega)]; exact R3.2.1
    · rw [e2T 14 (by omega), A0 13 (by omega)]; exact h9
    · rw [e2T 12 (by omega), A0 14 (by omega)]; exact h10.1
    · rw [A0 14 (by omega)] at q
      rw [OT 138 (by omega) (by omega) (by omega) (by omega) (by omega), Ao 25 (by omega) (by omega)]; exact h10.2 i q
    · rw [A24]
      by_cases q : i = 1
      · subst q; rw [wr_same, if_pos rfl]
      · rw [wr_row q, if_neg q, O3 139 (by omega) (by omega) (by omega) (by omega)]; exact h11 i hi
end CHouse
