/-! image, the methods -/
def wfZ (α : mm_Mem) : Prop := ∀ dd t : Nat, (dd : Int) < α 0 6 → t < 3 → earA α dd t = false → α 15 (3 * dd + t) = 0 ∧ α 16 (3 * dd + t) = -1 ∧ α 17 (3 * dd + t) = 0
theorem wfZ.ok {α β : mm_Mem} (z : wfZ α) (o : okP α β) : wfZ β := by
  intro dd t hd ht he
  rw [o.2 6 (by omega)] at hd
  rw [earA_cg (o.2 7 (by omega)) (o.1 8 (by omega) (by omega)) (o.1 9 (by omega) (by omega))] at he
  rw [o.1 15 (by omega) (by omega), o.1 16 (by omega) (by omega), o.1 17 (by omega) (by omega)]
  exact z dd t hd ht he
section Image2
variable {E : mm_Env} {d k h b : Nat} {α β τ : mm_Mem} {Q : mm_Q0}
theorem c_checkL {o n lim : Nat} {r : Nat → Int} (kd : KD o = some (.inl (.int, n))) (ho : 2 ≤ o) (hn : n ≤ 100000) (hl : lim ≤ n) (hr : ∀ i, 0 ≤ r i ∧ r i ≤ 255) (er : ∀ i, i < lim → τ o i = r i) : ∀ (c i : Nat) (a : Int), i + c = lim → 0 ≤ a ∧ a ≤ 240 → Q (some (vI (ckA r c i a))) τ → V0 E d qX10_checkOf 5 [some (vR o), some (vI (lim : Int)), some (vI a), some (vI (i : Int))] [] τ Q
  | 0, i, a, hi, ha, k1 => bX10_checkOf_5 kd ho (by omega) ⟨⟨by omega, by omega⟩, ⟨by omega, by omega⟩, fun _ => k1, fun q => by omega⟩
  | c + 1, i, a, hi, ha, k1 => by
    have h1 := hr i
    refine bX10_checkOf_5 kd ho (by omega) ⟨⟨by omega, by omega⟩, ⟨by omega, by omega⟩, fun q => by omega, fun _ => ⟨⟨by omega, by omega⟩, fun q => by omega, fun _ => ⟨by omega, by omega, ?_⟩⟩⟩
    rw [Int.toNat_natCast, er i (by omega), tm_pos (show 0 ≤ 7 * a + r i by omega), show (i : Int) + 1 = ((i + 1 : Nat) : Int) by omega]
    exact ⟨⟨by omega, by omega⟩, c_checkL kd ho hn hl hr er c (i + 1) _ (by omega) (by omega) k1⟩
theorem c_checkOf {o n lim : Nat} {r : Nat → Int} {x : Int} (kd : KD o = some (.inl (.int, n))) (ho : 2 ≤ o) (hn : n ≤ 100000) (hl : lim ≤ n) (hx : x = (lim : Int)) (hr : ∀ i, 0 ≤ r i ∧ r i ≤ 255) (er : ∀ i, i < lim → τ o i = r i) (k1 : Q (some (vI (ckA r lim 0 33))) τ) : M0 E d qX10_checkOf [vR o, vI x] τ Q := by
  subst hx
  exact mX10_checkOf kd ho (by omega) (c_checkL kd ho hn hl hr er lim 0 33 (by omega) (by omega) k1)
theorem c_im7 : ∀ (c p : Nat) (β τ : mm_Mem), (p : Int) + c = β 0 7 → WF k β → RepC k h β τ → β 0 14 + 2 * c ≤ 60 → (∀ τ', RepC k h (imP c p β) τ' → FrC τ τ' → V0 E (d + 2) qX10_image 48 [some (vR 2), some (vI 0), none, none] [] τ' Q) → V0 E (d + 2) qX10_image 7 [some (vR 2), some (vI (p : Int)), none, none] [] τ Q
  | 0, p, β, τ, hp, w, H, hn, k1 => by
    obtain ⟨l1, l2⟩ := H.live
    obtain ⟨s1, s2, s3, s4, s5, -⟩ := H.hs
    have hw := w.le
    refine bX10_image_7 ⟨h, l1, l2, ⟨by omega, by omega⟩, fun _ => k1 τ H FrC.rf, fun q => ?_⟩
    rw [s5] at q; omega
  | c + 1, p, β, τ, hp, w, H, hn, k1 => by
    obtain ⟨l1, l2⟩ := H.live
    obtain ⟨s1, s2, s3, s4, s5, -⟩ := H.hs
    have hw := w.le
    have wp := w.2.2.2.1 p (by omega)
    refine bX10_image_7 ⟨h, l1, l2, ⟨by omega, by omega⟩, fun q => ?_, fun _ => c_personAt w H ⟨by omega, by omega⟩ (fun _ _ kd => ⟨_, rfl, fun _ => ⟨kd, ?_⟩, fun q => by omega⟩) (fun q => by omega)⟩
    · rw [s5] at q; omega
    · have g := (H.pers (a := (p : Int)) (by omega) (by omega)).2.2.2.2.1
      rw [Int.toNat_natCast] at g
      rw [Int.toNat_natCast, g, show (p : Int) + 1 = ((p + 1 : Nat) : Int) by omega]
      exact c_putTwo (d := d) w H (by omega) (by omega) (fun τ1 H1 F1 => ⟨rfl, c_im7 c (p + 1) _ τ1 (by rw [okP.p2.2 7 (by omega)]; omega) (w.w_put2 (by omega) (by omega)) H1 (by rw [put2_n]; omega) (fun τ2 H2 F2 => k1 τ2 H2 (F1.tr F2))⟩)
theorem c_im67 {dd : Nat} : ∀ (c t : Nat) (β τ : mm_Mem), (t : Int) + c = β 0 5 → (dd : Int) < β 0 6 → WF k β → RepC k h β τ → β 0 14 + 5 * c ≤ 69 → (∀ τ', RepC k h (imT dd c t β) τ' → FrC τ τ' → V0 E (d + 2) qX10_image 48 [some (vR 2), some (vI ((dd : Int) + 1)), none, none] [] τ' Q) → V0 E (d + 2) qX10_image 67 [some (vR 2), some (vI (dd : Int)), some (vR (h + 14 + 4 * dd)), some (vI (t : Int))] [] τ Q
  | 0, t, β, τ, ht, d1, w, H, hn, k1 => by
    obtain ⟨l1, l2⟩ := H.live
    obtain ⟨s1, s2, s3, s4, s5, -⟩ := H.hs
    have hw := w.le
    refine bX10_image_67 ⟨h, l1, l2, ⟨by omega, by omega⟩, fun _ => k1 τ H FrC.rf, fun q => ?_⟩
    rw [s3] at q; omega
  | c + 1, t, β, τ, ht, d1, w, H, hn, k1 => by
    obtain ⟨l1, l2⟩ := H.live
    obtain ⟨s1, s2, s3, s4, s5, -⟩ := H.hs
    have hw := w.le
    have hh := H.2.2.1.1
    have eb := w.eb (3 * dd + t)
    have g1 := (H.2.2.2.2.2.1 dd d1).2 t (by omega)
    refine bX10_image_67 ⟨h, l1, l2, ⟨by omega, by omega⟩, fun q => ?_, fun _ => ⟨fun q => by omega, fun _ => ⟨kdDoor hh (by omega), by omega, by omega, ?_⟩⟩⟩
    · rw [s3] at q; omega
    · rw [Int.toNat_natCast, g1.1]
      refine c_putTwo (d := d) w H (by omega) (by omega) (fun τ1 H1 F1 => ⟨rfl, by omega, by omega, ?_⟩)
      have d2 : (dd : Int) < put2 β (β 15 (3 * dd + t)) 0 6 := by rw [okP.p2.2 6 (by omega)]; exact d1
      have g2 := (H1.2.2.2.2.2.1 dd d2).2 t (by omega)
      rw [okP.p2.1 16 (by omega) (by omega)] at g2
      rw [g2.2.1]
      have w1 := w.w_put2 (v := β 15 (3 * dd + t)) (by omega) (by omega)
      refine c_putTwo (d := d) w1 H1 (by rw [put2_n]; omega) (by omega) (fun τ2 H2 F2 => ⟨rfl, by omega, by omega, ?_⟩)
      have g3 := (H2.2.2.2.2.2.1 dd (by rw [okP.p2.2 6 (by omega)]; exact d2)).2 t (by omega)
      rw [okP.p2.1 17 (by omega) (by omega), okP.p2.1 17 (by omega) (by omega)] at g3
      rw [g3.2.2]
      have w2 := w1.w_put2 (v := β 16 (3 * dd + t) + 1) (by rw [put2_n]; omega) (by omega)
      refine c_putOctet w2 H2 (by rw [put2_n, put2_n]; omega) (by omega) (fun τ3 H3 F3 => ⟨rfl, ?_⟩)
      rw [show (t : Int) + 1 = ((t + 1 : Nat) : Int) by omega]
      exact c_im67 c (t + 1) (imE β (3 * dd + t)) τ3 (by rw [okP.e.2 5 (by omega)]; omega) (by rw [okP.e.2 6 (by omega)]; exact d1) (w.w_imE (by omega)) H3 (by rw [imE_n]; omega) (fun τ4 H4 F4 => k1 τ4 H4 (((F1.tr F2).tr F3).tr F4))
theorem c_im48 : ∀ (c dd : Nat) (β τ : mm_Mem), (dd : Int) + c = β 0 6 → WF k β → RepC k h β τ → β 0 14 + 15 * c ≤ 68 → (∀ τ', RepC k h (put1 (imD c dd β) (ckA (imD c dd β 25) (imD c dd β 0 14).toNat 0 33)) τ' → FrC τ τ' → Q (some (vI (put1 (imD c dd β) (ckA (imD c dd β 25) (imD c dd β 0 14).toNat 0 33) 0 14))) τ') → V0 E (d + 2) qX10_image 48 [some (vR 2), some (vI (dd : Int)), none, none] [] τ Q
  | 0, dd, β, τ, hd, w, H, hn, k1 => by
    obtain ⟨l1, l2⟩ := H.live
    obtain ⟨s1, s2, s3, s4, s5, -⟩ := H.hs
    have hw := w.le
    have o0 := w.o14
    have O := H.2.2.2.2.2.2.2.2.2.1
    have br := w.2.2.2.2.2.2.2.2.2.2
    have r := ck_r (r := β 25) br (β 0 14).toNat 0 33 (by omega)
    refine bX10_image_48 ⟨h, l1, l2, ⟨by omega, by omega⟩, fun _ => ?_, fun q => ?_⟩
    · refine c_checkOf (r := β 25) (n := 69) (lim := (β 0 14).toNat) rfl (by omega) (by omega) (by omega) (by rw [O.1]; omega) br (fun i hi => O.2 i (by omega)) ⟨_, rfl, ?_⟩
      refine c_putOctet w H (by omega) (by omega) (fun τ1 H1 F1 => ⟨rfl, ?_⟩)
      have := k1 τ1 H1 F1
      rw [H1.2.2.2.2.2.2.2.2.2.1.1]
      exact this
    · rw [s4] at q; omega
  | c + 1, dd, β, τ, hd, w, H, hn, k1 => by
    obtain ⟨l1, l2⟩ := H.live
    obtain ⟨s1, s2, s3, s4, s5, -⟩ := H.hs
    have hw := w.le
    refine bX10_image_48 ⟨h, l1, l2, ⟨by omega, by omega⟩, fun q => ?_, fun _ => c_doorAt w H ⟨by omega, by omega⟩ (fun _ _ kd => ⟨_, rfl, ?_⟩) (fun q => by omega)⟩
    · rw [s4] at q; omega
    · rw [Int.toNat_natCast]
      obtain ⟨x, y⟩ := imT_ok (dd := dd) (β 0 5).toNat 0 β
      refine c_im67 (β 0 5).toNat 0 β τ (by omega) (by omega) w H (by omega) (fun τ1 H1 F1 => ?_)
      rw [show (dd : Int) + 1 = ((dd + 1 : Nat) : Int) by omega]
      exact c_im48 c (dd + 1) _ τ1 (by rw [x.2 6 (by omega)]; omega) (w.w_imT _ _ _ (by omega)) H1 (by omega) (fun τ2 H2 F2 => k1 τ2 H2 (F1.tr F2))
theorem c_image (w : WF k α) (H : RepC k h α τ) (k1 : ∀ τ', RepC k h (imgA α) τ' → FrC τ τ' → Q (some (vI (imgA α 0 14))) τ') : M0 E (d + 2) qX10_image [vR 2] τ Q := by
  have hw := w.le
  have e0 : wr α 0 14 0 0 14 = 0 := wr_same
  have e7 : wr α 0 14 0 0 7 = α 0 7 := wr_row (by omega)
  have w0 := w.out0
  obtain ⟨a, a2⟩ := imP_ok (α 0 7).toNat 0 (wr α 0 14 0)
  refine mX10_image (c_im7 (α 0 7).toNat 0 _ _ (by rw [e7]; omega) w0 (H.out0 w) (by omega) (fun τ1 H1 F1 => ?_))
  have e6 : imP (α 0 7).toNat 0 (wr α 0 14 0) 0 6 = α 0 6 := by rw [a.2 6 (by omega)]; exact wr_row (by omega)
  refine c_im48 (α 0 6).toNat 0 _ τ1 (by rw [e6]; omega) (WF.w_imP _ _ _ w0 (by omega) (by omega)) H1 (by omega) (fun τ2 H2 F2 => k1 τ2 H2 ?_)
  exact FrC.tr (FrC.tr (FrC.rf.w1 (by omega)) F1) F2
theorem m_im7 : ∀ (c p : Nat) (β τ : mm_Mem), (p : Int) + c = β 0 7 → WF k β → RepM b β τ → β 0 14 + 2 * c ≤ 60 → (∀ τ', RepM b (imP c p β) τ' → FrM τ τ' → V0 E (d + 2) qX11_image 38 [some (vR 140), some (vI 0), none, none, none] [] τ' Q) → V0 E (d + 2) qX11_image 7 [some (vR 140), some (vI (p : Int)), none, none, none] [] τ Q
  | 0, p, β, τ, hp, w, H, hn, k1 => by
    obtain ⟨b1, b2, b3⟩ := H.bk
    obtain ⟨e1, e2, e3, e4, e5, -⟩ := H.hs
    have hw := w.le
    refine bX11_image_7 ?_
    rw [b3, b1, e5]
    exact ⟨by omega, by omega, ⟨by omega, by omega⟩, fun _ => k1 τ H FrM.rf, fun q => by omega⟩
  | c + 1, p, β, τ, hp, w, H, hn, k1 => by
    obtain ⟨b1, b2, b3⟩ := H.bk
    obtain ⟨e1, e2, e3, e4, e5, -⟩ := H.hs
    have hw := w.le
    have wp := w.2.2.2.1 p (by omega)
    have g := (H.cnt (p := (p : Int)) (by omega) (by omega)).1
    rw [Int.toNat_natCast] at g
    refine bX11_image_7 ?_
    rw [b3, b1, e5, Int.toNat_natCast, g, show (p : Int) + 1 = ((p + 1 : Nat) : Int) by omega]
    exact ⟨by omega, by omega, ⟨by omega, by omega⟩, fun q => by omega, fun _ => ⟨by omega, by omega, m_writes2 (d := d) w H (by omega) (by omega) (fun τ1 H1 F1 => ⟨rfl, m_im7 c (p + 1) _ τ1 (by rw [okP.p2.2 7 (by omega)]; omega) (w.w_put2 (by omega) (by omega)) H1 (by rw [put2_n]; omega) (fun τ2 H2 F2 => k1 τ2 H2 (F1.tr F2))⟩)⟩⟩
theorem m_im53 {dd : Nat} : ∀ (c t : Nat) (β τ : mm_Mem), (t : Int) + c = β 0 5 → (dd : Int) < β 0 6 → WF k β → wfZ β → RepM b β τ → β 0 14 + 5 * c ≤ 69 → (∀ τ', RepM b (imT dd c t β) τ' → FrM τ τ' → V0 E (d + 2) qX11_image 38 [some (vR 140), some (vI ((dd : Int) + 1)), none, none, none] [] τ' Q) → V0 E (d + 2) qX11_image 53 [some (vR 140), some (vI (dd : Int)), some (vI (t : Int)), none, none] [] τ Q
  | 0, t, β, τ, ht, d1, w, z, H, hn, k1 => by
    obtain ⟨b1, b2, b3⟩ := H.bk
    obtain ⟨e1, e2, e3, e4, e5, -⟩ := H.hs
    have hw := w.le
    refine bX11_image_53 ?_
    rw [b3, b1, e3]
    exact ⟨by omega, by omega, ⟨by omega, by omega⟩, fun _ => k1 τ H FrM.rf, fun q => by omega⟩
  | c + 1, t, β, τ, ht, d1, w, z, H, hn, k1 => by
    obtain ⟨b1, b2, b3⟩ := H.bk
    obtain ⟨e1, e2, e3, e4, e5, -⟩ := H.hs
    have hw := w.le
    have eb := w.eb (3 * dd + t)
    have w1 := w.w_put2 (v := β 15 (3 * dd + t)) (by omega) (by omega)
    have w2 := w1.w_put2 (v := β 16 (3 * dd + t) + 1) (by rw [put2_n]; omega) (by omega)
    have fin : ∀ τ3, RepM b (imE β (3 * dd + t)) τ3 → FrM τ τ3 → V0 E (d + 2) qX11_image 53 [some (vR 140), some (vI (dd : Int)), some (vI ((t : Int) + 1)), none, none] [] τ3 Q := fun τ3 H3 F3 => by
      rw [show (t : Int) + 1 = ((t + 1 : Nat) : Int) by omega]
      exact m_im53 c (t + 1) (imE β (3 * dd + t)) τ3 (by rw [okP.e.2 5 (by omega)]; omega) (by rw [okP.e.2 6 (by omega)]; exact d1) (w.w_imE (by omega)) (z.ok okP.e) H3 (by rw [imE_n]; omega) (fun τ4 H4 F4 => k1 τ4 H4 (F3.tr F4))
    have en : 3 * (dd : Int) + (t : Int) = ((3 * dd + t : Nat) : Int) := by omega
    refine bX11_image_53 ?_
    rw [b3, b1, e3]
    refine ⟨by omega, by omega, ⟨by omega, by omega⟩, fun q => by omega, fun _ => m_isEar w H ⟨by omega, by omega⟩ ⟨by omega, by omega⟩ ⟨_, rfl, fun q => ?_, fun q => ?_⟩⟩
    · obtain ⟨z1, z2, z3⟩ := z dd t d1 (by omega) q
      rw [q]
      rw [z1] at w1 w2
      rw [z2] at w2
      refine bX11_image_96 (m_writes2 (d := d) w H (by omega) (by omega) (fun τ1 H1 F1 => ⟨rfl, fun _ => ?_, fun y => by cases y⟩))
      refine m_writes2 (d := d) w1 H1 (by rw [put2_n]; omega) (by omega) (fun τ2 H2 F2 => ⟨rfl, fun _ => ?_, fun y => by cases y⟩)
      refine m_writes (v := 0) w2 H2 (by rw [put2_n, put2_n]; omega) (by decide) (by omega) (fun τ3 H3 F3 => ⟨rfl, fin τ3 ?_ ((F1.tr F2).tr F3)⟩)
      unfold imE
      rw [z1, z2, z3]
      exact H3
    · rw [q]
      refine ⟨by omega, by omega, ?_⟩
      rw [(H.ear (e := 3 * (dd : Int) + t) (by omega) (by omega)).1, show (3 * (dd : Int) + (t : Int)).toNat = 3 * dd + t by omega]
      refine bX11_image_96 (m_writes2 (d := d) w H (by omega) (by omega) (fun τ1 H1 F1 => ⟨rfl, fun y => (by cases y), fun _ => ⟨by omega, by omega, ?_⟩⟩))
      rw [(H1.ear (e := 3 * (dd : Int) + t) (by omega) (by omega)).2.1, show (3 * (dd : Int) + (t : Int)).toNat = 3 * dd + t by omega, okP.p2.1 16 (by omega) (by omega)]
      refine m_writes2 (d := d) w1 H1 (by rw [put2_n]; omega) (by omega) (fun τ2 H2 F2 => ⟨rfl, fun y => (by cases y), fun _ => ⟨by omega, by omega, ?_⟩⟩)
      have g3 := (H2.ear (e := 3 * (dd : Int) + t) (by omega) (by omega)).2.2
      rw [show (3 * (dd : Int) + (t : Int)).toNat = 3 * dd + t by omega, okP.p2.1 17 (by omega) (by omega), okP.p2.1 17 (by omega) (by omega)] at g3
      rw [g3]
      exact m_writes w2 H2 (by rw [put2_n, put2_n]; omega) (and8 (by omega)) (by omega) (fun τ3 H3 F3 => ⟨rfl, fin τ3 H3 ((F1.tr F2).tr F3)⟩)
theorem m_im156 (w : WF k β) (H : RepM b β τ) (hn : β 0 14 ≤ 68) : ∀ (c i : Nat) (a : Int), (i : Int) + c = β 0 14 → 0 ≤ a ∧ a ≤ 240 → (∀ τ', RepM b (put1 β (ckA (β 25) c i a)) τ' → FrM τ τ' → Q (some (vI (put1 β (ckA (β 25) c i a) 0 14))) τ') → V0 E (d + 2) qX11_image 156 [some (vR 140), some (vI a), some (vI (i : Int)), none, none] [] τ Q
  | 0, i, a, hi, ha, k1 => by
    have o1 := H.2.2.2.2.2.2.2.2.2.2.1
    refine bX11_image_156 ⟨⟨by omega, by omega⟩, fun _ => m_writes w H (by omega) (and8 (by omega)) (by omega) (fun τ1 H1 F1 => ⟨rfl, ?_⟩), fun q => by omega⟩
    rw [H1.2.2.2.2.2.2.2.2.2.2.1.1]
    exact k1 τ1 H1 F1
  | c + 1, i, a, hi, ha, k1 => by
    have o1 := H.2.2.2.2.2.2.2.2.2.2.1
    have br := w.2.2.2.2.2.2.2.2.2.2 i
    refine bX11_image_156 ⟨⟨by omega, by omega⟩, fun q => by omega, fun _ => ⟨by omega, by omega, ?_⟩⟩
    rw [Int.toNat_natCast, o1.2 i (by omega), tm_pos (show 0 ≤ 7 * a + β 25 i by omega), show (i : Int) + 1 = ((i + 1 : Nat) : Int) by omega]
    exact ⟨⟨by omega, by omega⟩, m_im156 w H hn c (i + 1) _ (by omega) (by omega) k1⟩
theorem m_im38 : ∀ (c dd : Nat) (β τ : mm_Mem), (dd : Int) + c = β 0 6 → WF k β → wfZ β → RepM b β τ → β 0 14 + 15 * c ≤ 68 → (∀ τ', RepM b (put1 (imD c dd β) (ckA (imD c dd β 25) (imD c dd β 0 14).toNat 0 33)) τ' → FrM τ τ' → Q (some (vI (put1 (imD c dd β) (ckA (imD c dd β 25) (imD c dd β 0 14).toNat 0 33) 0 14))) τ') → V0 E (d + 2) qX11_image 38 [some (vR 140), some (vI (dd : Int)), none, none, none] [] τ Q
  | 0, dd, β, τ, hd, w, z, H, hn, k1 => by
    obtain ⟨b1, b2, b3⟩ := H.bk
    obtain ⟨e1, e2, e3, e4, e5, -⟩ := H.hs
    have hw := w.le
    have o0 := w.o14
    refine bX11_image_38 ?_
    rw [b3, b1, e4]
    exact ⟨by omega, by omega, ⟨by omega, by omega⟩, fun _ => m_im156 w H (by omega) (β 0 14).toNat 0 33 (by omega) (by omega) k1, fun q => by omega⟩
  | c + 1, dd, β, τ, hd, w, z, H, hn, k1 => by
    obtain ⟨b1, b2, b3⟩ := H.bk
    obtain ⟨e1, e2, e3, e4, e5, -⟩ := H.hs
    have hw := w.le
    obtain ⟨x, y⟩ := imT_ok (dd := dd) (β 0 5).toNat 0 β
    refine bX11_image_38 ?_
    rw [b3, b1, e4]
    refine ⟨by omega, by omega, ⟨by omega, by omega⟩, fun q => by omega, fun _ => m_im53 (β 0 5).toNat 0 β τ (by omega) (by omega) w z H (by omega) (fun τ1 H1 F1 => ?_)⟩
    rw [show (dd : Int) + 1 = ((dd + 1 : Nat) : Int) by omega]
    exact m_im38 c (dd + 1) _ τ1 (by rw [x.2 6 (by omega)]; omega) (w.w_imT _ _ _ (by omega)) (z.ok x) H1 (by omega) (fun τ2 H2 F2 => k1 τ2 H2 (F1.tr F2))
theorem m_image (w : WF k α) (z : wfZ α) (H : RepM b α τ) (k1 : ∀ τ', RepM b (imgA α) τ' → FrM τ τ' → Q (some (vI (imgA α 0 14))) τ') : M0 E (d + 2) qX11_image [vR 140] τ Q := by
  have hw := w.le
  have e0 : wr α 0 14 0 0 14 = 0 := wr_same
  have e7 : wr α 0 14 0 0 7 = α 0 7 := wr_row (by omega)
  have w0 := w.out0
  obtain ⟨a, a2⟩ := imP_ok (α 0 7).toNat 0 (wr α 0 14 0)
  refine mX11_image (m_im7 (α 0 7).toNat 0 _ _ (by rw [e7]; omega) w0 H.out0 (by omega) (fun τ1 H1 F1 => ?_))
  have e6 : imP (α 0 7).toNat 0 (wr α 0 14 0) 0 6 = α 0 6 := by rw [a.2 6 (by omega)]; exact wr_row (by omega)
  refine m_im38 (α 0 6).toNat 0 _ τ1 (by rw [e6]; omega) (WF.w_imP _ _ _ w0 (by omega) (by omega)) (z.ok (okP.o0.tr a)) H1 (by omega) (fun τ2 H2 F2 => k1 τ2 H2 ?_)
  exact FrM.tr (FrM.tr (FrM.rf.w1 (by omega)) F1) F2
end Image2
