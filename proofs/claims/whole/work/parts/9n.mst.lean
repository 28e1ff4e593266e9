/-! the reference reads statements: worth, tune, rule -/
section MStr
variable {r : Nat → Int} {n : Nat}
theorem bz_r {b : Nat} {β : mm_Mem} {c c' : List Int} (h : tBb r n b = true) : beP r n (.inr (b, β, c, c')) 1 (tPl r n b) := Or.inr ⟨b, β, c, c', rfl, h, rfl, rfl⟩
theorem bz_wd {b i : Nat} {K : Nat → PzT} (h : tBb r n b = true) : beP r n (wdP r n b i K) 1 (tPl r n b) := Or.inl (wd_f (bad_W h))
theorem bz_sg {b : Nat} {c : Int} {K : Nat → PzT} (h : tBb r n b = true) : beP r n (sgP r n b c K) 1 (tPl r n b) := Or.inl (sg_f (bad_S h))
theorem bz_nu {b : Nat} {lo hi : Int} {K : Nat → Int → PzT} (h : tBb r n b = true) : beP r n (nuP r n b lo hi K) 1 (tPl r n b) := Or.inl (by unfold nuP; rw [if_neg (by rw [bad_N h]; decide)])
theorem bad_nm {b : Nat} (h : tBb r n b = true) : ¬ nmB r n b = true := fun y => by have := (of_decide_eq_true y).1; rw [tB_k h] at this; omega
theorem bz_nn {b : Nat} {β : mm_Mem} {K : Nat → Int → PzT} (h : tBb r n b = true) : beP r n (nnP r n b β K) 1 (tPl r n b) := Or.inl (by unfold nnP; rw [if_neg (bad_nm h)])
theorem bz_kn {b : Nat} {f : Nat → Int} {m : Int} {K : Nat → Int → PzT} (h : tBb r n b = true) : beP r n (knP r n b f m K) 1 (tPl r n b) := Or.inl (by unfold knP; rw [if_neg (bad_nm h)])
theorem bz_ns {hi : Int} {t c i b : Nat} {β : mm_Mem} {K : Nat → mm_Mem → PzT} (h : tBb r n b = true) (hK : ∀ β, beP r n (K b β) 1 (tPl r n b)) : beP r n (nsP r n hi t c i b β K) 1 (tPl r n b) := by
  cases c with
  | zero => exact hK β
  | succ c => exact bz_nu h
end MStr
def CdM (bi : Nat) (cd' : List Int) (τ : mm_Mem) : Prop := τ 140 38 = (cd'.length : Int) ∧ CodeM (1600 * bi) cd' τ
section MSt
variable {E : mm_Env} {d : Nat} {τ : mm_Mem} {Q : mm_Q0} {r : Nat → Int} {n bi : Nat} {a : Nat} {β : mm_Mem} {cd cd' : List Int}
theorem CdM.cg {τ' : mm_Mem} (C : CdM bi cd' τ) (e0 : τ' 140 38 = τ 140 38) (e5 : τ' 165 = τ 165) (e6 : τ' 166 = τ 166) : CdM bi cd' τ' := ⟨by rw [e0]; exact C.1, C.2.fr (fun i _ _ => ⟨by rw [e5], by rw [e6]⟩)⟩
theorem CdM.fa {τ' : mm_Mem} (C : CdM bi cd' τ) (F : frA τ τ') : CdM bi cd' τ' := C.cg (F.2 38 (by omega)) (F.1 165 (by omega)) (F.1 166 (by omega))
theorem CdM.wo {o i : Nat} {v : Int} (C : CdM bi cd' τ) (ho : 142 ≤ o ∧ o ≤ 164) : CdM bi cd' (wr τ o i v) := C.cg (by rw [wr_obj (by omega)]) (wr_obj (by omega)) (wr_obj (by omega))
theorem m_worths (hn : n ≤ 1600) (hb : bi < 2) (hr : ∀ i, 0 ≤ r i ∧ r i ≤ 255) (S : SIn n a β cd cd') (hw : tWb r n a 16 = true) (B : HbM bi β τ) (H : PQ r n bi a τ) (C : CdM bi cd' τ) (kT : ∀ a1 β1 c1 c1', woP r n a β cd cd' = .inr (a1, β1, c1, c1') → tBb r n a1 = false → ∀ τ', PQ r n bi a1 τ' → HbM bi β1 τ' → CdM bi c1' τ' → frZ bi τ τ' → Q none τ') (kF : ∀ k p, 1 ≤ k → beP r n (woP r n a β cd cd') k p → ∀ τ', PF k p τ' → frZ bi τ τ' → Q none τ') : M0 E (d + 3) qX11_worths [vR 140] τ Q := by
  have ha := S.1
  have t0 := tW_n ha hr hw
  unfold woP at kT kF
  refine mX11_worths (d := d + 2) (m_counts (b := false) (d := d) hn hr ha (by rw [(tW_k hw).1]; omega) H (fun _ nb τ1 H1 F1 => ⟨true, rfl, fun _ => ?_, fun q => ff_tt q⟩) (fun _ z τ1 R1 F1 => ⟨false, rfl, fun q => tt_ff q, fun _ => kF 1 _ (by omega) (bz_nu z) τ1 R1 F1.z⟩) (fun q => tt_ff q))
  refine m_number hn hr t0.2 (by decide) (by decide) H1 (fun ev l1 l2 t1 t2 nb2 τ2 H2 F2 => ⟨_, rfl, ?_⟩) (fun k p hk ev v τ2 hv R2 F2 => ⟨_, rfl, ?_⟩)
  · rw [ev] at kT kF
    refine m_number hn hr t2 (by decide) (by decide) H2 (fun ev3 m1 m2 t3 t4 nb3 τ3 H3 F3 => ⟨_, rfl, fun _ => ?_, fun q => by have := H3.2.2.1; omega⟩) (fun k p hk ev3 v τ3 hv R3 F3 => ⟨_, rfl, fun q => by have := R3.1; omega, fun _ => kF k p hk (ev3 _ (fun b v z _ => bz_r z)) τ3 R3 (F1.tr (F2.tr F3)).z⟩)
    rw [ev3] at kT
    have h39 := H3.2.2.2
    rw [h39, Int.toNat_natCast]
    refine ⟨by omega, by omega, ⟨by omega, by omega⟩, by omega, by omega, ⟨by omega, by omega⟩, kT _ _ _ _ rfl nb3 _ ((H3.wo (by omega)).wo (by omega)) (wo_finM (B.fa (F1.tr (F2.tr F3))) (fun o h1 h2 => by rw [wr_obj (by omega), wr_obj (by omega)]) (by rw [wr_obj (by omega), wr_same]) wr_same) (((C.fa (F1.tr (F2.tr F3))).wo (by omega)).wo (by omega)) (((F1.tr (F2.tr F3)).z.w (by omega) (by show 1 * bi ≤ bi ∧ bi < 1 * bi + 1; omega)).w (by omega) (by show 1 * bi ≤ bi ∧ bi < 1 * bi + 1; omega))⟩
  · have := kF k p hk (ev _ (fun b v z _ => bz_nu z)) τ2 R2 (F1.tr F2).z
    exact m_numberF hk R2 ⟨_, rfl, fun q => by have := R2.1; omega, fun _ => this⟩
/-- the rest of a tune behind a fault -/
theorem m_tuneF {t k p : Nat} {L : Int} (hb : bi < 2) (hk : 1 ≤ k) (hL : 2 ≤ L ∧ L ≤ 5) (ht : t < 3) : ∀ (c i : Nat) (τ : mm_Mem), (i : Int) + c = L → PF k p τ → τ 140 39 = (bi : Int) → τ 143 bi = L → (∀ τ', PF k p τ' → frZ bi τ τ' → Q none τ') → V0 E (d + 2) qX11_tune 55 [some (vR 140), some (vI ((3 * bi + t : Nat) : Int)), some (vI (i : Int))] [] τ Q := by
  intro c
  induction c with
  | zero =>
    intro i τ hi R h39 hl kk
    refine bX11_tune_55 (d := d + 1) ?_
    rw [h39, Int.toNat_natCast, hl]
    refine ⟨by omega, by omega, ⟨by omega, by omega⟩, fun _ => m_mustF hk R ⟨rfl, m_numberF hk R ⟨_, rfl, by omega, by omega, by decide, fun _ => ?_, fun q => by have := R.1; omega⟩⟩, fun q => by omega⟩
    rw [Int.toNat_natCast]
    exact kk _ ⟨by rw [wr_obj (by omega)]; exact R.1, by rw [wr_obj (by omega)]; exact R.2⟩ (frZ.rf.w (by omega) (by show 3 * bi ≤ 3 * bi + t ∧ 3 * bi + t < 3 * bi + 3; omega))
  | succ c ih =>
    intro i τ hi R h39 hl kk
    refine bX11_tune_55 (d := d + 1) ?_
    rw [h39, Int.toNat_natCast, hl]
    refine ⟨by omega, by omega, ⟨by omega, by omega⟩, fun q => by omega, fun _ => ⟨by omega, by omega, m_numberF hk R ⟨_, rfl, by omega, by omega, by decide, ?_⟩⟩⟩
    rw [show (5 * ((3 * bi + t : Nat) : Int) + (i : Int)).toNat = 15 * bi + (5 * t + i) by omega, show (i : Int) + 1 = ((i + 1 : Nat) : Int) by omega]
    have F : frZ bi τ (wr τ 146 (15 * bi + (5 * t + i)) 0) := frZ.rf.w (by omega) (by show 15 * bi ≤ 15 * bi + (5 * t + i) ∧ 15 * bi + (5 * t + i) < 15 * bi + 15; omega)
    exact ih (i + 1) _ (by omega) ⟨by rw [wr_obj (by omega)]; exact R.1, by rw [wr_obj (by omega)]; exact R.2⟩ (by rw [wr_obj (by omega)]; exact h39) (by rw [wr_obj (by omega)]; exact hl) (fun τ' R' F' => kk τ' R' (F.tr F'))
theorem m_tuneL {t : Nat} {w : Int} {τ0 : mm_Mem} (hn : n ≤ 1600) (hb : bi < 2) (hr : ∀ i, 0 ≤ r i ∧ r i ≤ 255) (sh : siH β) (et : β 0 5 = (t : Int)) (ht : t < 3) (B : HbM bi β τ0) : ∀ (c i a : Nat) (βk : mm_Mem) (τ : mm_Mem), (i : Int) + c = β 0 4 → a ≤ n → PQ r n bi a τ → CdM bi cd' τ → (∀ o, 142 ≤ o → o ≤ 164 → o ≠ 145 → o ≠ 146 → τ o = τ0 o) → (∀ i, i ≠ 3 * bi + t → τ 145 i = τ0 145 i) → τ 145 (3 * bi + t) = w → (∀ i, i < 15 * bi + 5 * t → τ 146 i = τ0 146 i) → (∀ j : Nat, j < i → τ 146 (15 * bi + (5 * t + j)) = βk 30 (5 * t + j)) → frZ bi τ0 τ → (∀ o, o ≠ 30 → o ≠ 2 → βk o = β o) → (∀ i, βk 2 i = if i = t then w else β 2 i) → (∀ j, j < 5 * t → βk 30 j = β 30 j) → (∀ a1 β1 c1 c1', nsP r n (β 0 3 - 1) t c i a βk (fun a2 β2 => wdP r n a2 3 (fun a3 => nuP r n a3 0 99 (fun a4 v => .inr (a4, tuE β2 t v, cd, cd')))) = .inr (a1, β1, c1, c1') → tBb r n a1 = false → ∀ τ', PQ r n bi a1 τ' → HbM bi β1 τ' → CdM bi c1' τ' → frZ bi τ0 τ' → Q none τ') → (∀ k p, 1 ≤ k → beP r n (nsP r n (β 0 3 - 1) t c i a βk (fun a2 β2 => wdP r n a2 3 (fun a3 => nuP r n a3 0 99 (fun a4 v => .inr (a4, tuE β2 t v, cd, cd'))))) k p → ∀ τ', PF k p τ' → frZ bi τ0 τ' → Q none τ') → V0 E (d + 3) qX11_tune 55 [some (vR 140), some (vI ((3 * bi + t : Nat) : Int)), some (vI (i : Int))] [] τ Q := by
  have s := sh.1
  intro c
  induction c with
  | zero =>
    intro i a βk τ hi ha H C e e1 x5 e6 x6 FZ f0 f2 f3 kT kF
    have h39 := H.2.2.2
    have eL : τ 143 bi = β 0 4 := by rw [e 143 (by omega) (by omega) (by omega) (by omega)]; exact B.1.2.1
    rw [nsP] at kT kF
    refine bX11_tune_55 (d := d + 2) ?_
    rw [h39, Int.toNat_natCast, eL]
    refine ⟨by omega, by omega, ⟨by omega, by omega⟩, fun _ => ?_, fun q => by omega⟩
    refine m_mustW (i := 3) hn hr ha (by omega) rfl H (fun ev t1 t2 nb τ1 H1 F1 => ⟨rfl, ?_⟩) (fun k p hk ev τ1 R1 F1 => ⟨rfl, m_numberF hk R1 ⟨_, rfl, by omega, by omega, by decide, fun _ => ?_, fun q => by have := R1.1; omega⟩⟩)
    · rw [ev] at kT kF
      refine m_number hn hr t2 (by decide) (by decide) H1 (fun ev2 l1 l2 t3 t4 nb2 τ2 H2 F2 => ⟨_, rfl, by omega, by omega, ⟨by omega, by omega⟩, fun q => absurd H2.2.2.1 q, fun _ => ?_⟩) (fun k p hk ev2 v τ2 hv R2 F2 => ⟨_, rfl, by omega, by omega, hv, fun _ => ?_, fun q => by have := R2.1; omega⟩)
      · rw [ev2] at kT
        have h392 := H2.2.2.2
        have F12 := F1.tr F2
        have e4 : τ2 144 bi = (t : Int) := by rw [F12.1 144 (by omega), e 144 (by omega) (by omega) (by omega) (by omega)]; exact B.1.2.2.1.trans et
        rw [h392, Int.toNat_natCast, Int.toNat_natCast, e4]
        refine ⟨by omega, by omega, by omega, by omega, ⟨by omega, by omega⟩, kT _ _ _ _ rfl nb2 _ ((H2.wo (by omega)).wo (by omega)) ?_ (((C.fa F12).wo (by omega)).wo (by omega)) (((FZ.tr F12.z).w (by omega) (by show 3 * bi ≤ 3 * bi + t ∧ 3 * bi + t < 3 * bi + 3; omega)).w (by omega) (by show 1 * bi ≤ bi ∧ bi < 1 * bi + 1; omega))⟩
        refine tu_finM (w := w) B sh et (fun o a1 a2 a3 a4 a5 a6 => ?_) (fun j hj => ⟨?_, ?_⟩) (fun j hj => ?_) wr_same ?_ (fun j hj => ?_) ?_ f0 f2 f3
        · rw [wr_obj a3, wr_obj a6, F12.1 o (by omega)]; exact e o a1 a2 a4 a5
        · rw [wr_obj (by omega), wr_obj (by omega), F12.1 145 (by omega)]; exact e1 j hj
        · rw [wr_obj (by omega), wr_row hj, F12.1 147 (by omega), e 147 (by omega) (by omega) (by omega) (by omega)]
        · rw [wr_obj (by omega), wr_obj (by omega), F12.1 146 (by omega)]; exact e6 j hj
        · rw [wr_obj (by omega), wr_obj (by omega), F12.1 145 (by omega)]; exact x5
        · rw [wr_obj (by omega), wr_obj (by omega), F12.1 146 (by omega)]; exact x6 j (by omega)
        · rw [wr_obj (by omega), wr_same]
      · rw [Int.toNat_natCast]
        exact kF k p hk (ev2 _ (fun b v z _ => bz_r z)) _ ⟨by rw [wr_obj (by omega)]; exact R2.1, by rw [wr_obj (by omega)]; exact R2.2⟩ ((FZ.tr (F1.tr F2).z).w (by omega) (by show 3 * bi ≤ 3 * bi + t ∧ 3 * bi + t < 3 * bi + 3; omega))
    · rw [Int.toNat_natCast]
      exact kF k p hk (ev _ (fun b z _ => bz_nu z)) _ ⟨by rw [wr_obj (by omega)]; exact R1.1, by rw [wr_obj (by omega)]; exact R1.2⟩ ((FZ.tr F1.z).w (by omega) (by show 3 * bi ≤ 3 * bi + t ∧ 3 * bi + t < 3 * bi + 3; omega))
  | succ c ih =>
    intro i a βk τ hi ha H C e e1 x5 e6 x6 FZ f0 f2 f3 kT kF
    have h39 := H.2.2.2
    have eL : τ 143 bi = β 0 4 := by rw [e 143 (by omega) (by omega) (by omega) (by omega)]; exact B.1.2.1
    have eN : τ 142 bi = β 0 3 := by rw [e 142 (by omega) (by omega) (by omega) (by omega)]; exact B.1.1
    rw [nsP] at kT kF
    refine bX11_tune_55 (d := d + 2) ?_
    rw [h39, Int.toNat_natCast, eL, eN]
    refine ⟨by omega, by omega, ⟨by omega, by omega⟩, fun q => by omega, fun _ => ⟨by omega, by omega, ?_⟩⟩
    have ix : (5 * ((3 * bi + t : Nat) : Int) + (i : Int)).toNat = 15 * bi + (5 * t + i) := by omega
    have fz : ∀ {σ : mm_Mem} {v : Int}, frZ bi τ0 σ → frZ bi τ0 (wr σ 146 (15 * bi + (5 * t + i)) v) := fun F => F.w (by omega) (by show 15 * bi ≤ 15 * bi + (5 * t + i) ∧ 15 * bi + (5 * t + i) < 15 * bi + 15; omega)
    refine m_number hn hr ha (by decide) ⟨by omega, by omega⟩ H (fun ev l1 l2 t1 t2 nb τ1 H1 F1 => ⟨_, rfl, by omega, by omega, ⟨by omega, by omega⟩, ?_⟩) (fun k p hk ev v τ1 hv R1 F1 => ⟨_, rfl, by omega, by omega, hv, ?_⟩)
    · rw [ev] at kT kF
      rw [ix, show (i : Int) + 1 = ((i + 1 : Nat) : Int) by omega]
      refine ih (i + 1) (tN r n a) (wr βk 30 (5 * t + i) (tV r n a)) _ (by omega) t2 (H1.wo (by omega)) ((C.fa F1).wo (by omega)) (fun o a1 a2 a3 a4 => by rw [wr_obj a4, F1.1 o (by omega)]; exact e o a1 a2 a3 a4) (fun j hj => by rw [wr_obj (by omega), F1.1 145 (by omega)]; exact e1 j hj) (by rw [wr_obj (by omega), F1.1 145 (by omega)]; exact x5) (fun j hj => by rw [wr_row (by omega), F1.1 146 (by omega)]; exact e6 j hj) (fun j hj => ?_) (fz (FZ.tr F1.z)) (fun o a1 a2 => by rw [wr_obj a1]; exact f0 o a1 a2) (fun j => by rw [wr_obj (by omega)]; exact f2 j) (fun j hj => by rw [wr_row (by omega)]; exact f3 j hj) kT kF
      by_cases q : j = i
      · subst q; rw [wr_same, wr_same]
      · rw [wr_row (by omega), wr_row (by omega), F1.1 146 (by omega)]; exact x6 j (by omega)
    · rw [ix, show (i : Int) + 1 = ((i + 1 : Nat) : Int) by omega]
      have K := kF k p hk (ev _ (fun b v z _ => bz_ns z (fun β => bz_wd z)))
      exact m_tuneF (d := d + 1) hb hk (L := β 0 4) (by omega) ht c (i + 1) _ (by omega) ⟨by rw [wr_obj (by omega)]; exact R1.1, by rw [wr_obj (by omega)]; exact R1.2⟩ (by rw [wr_obj (by omega), F1.2 39 (by omega)]; exact h39) (by rw [wr_obj (by omega), F1.1 143 (by omega)]; exact eL) (fun τ' R' F' => K τ' R' ((fz (FZ.tr F1.z)).tr F'))
theorem m_tune (hn : n ≤ 1600) (hb : bi < 2) (hr : ∀ i, 0 ≤ r i ∧ r i ≤ 255) (S : SIn n a β cd cd') (hw : tWb r n a 2 = true) (B : HbM bi β τ) (H : PQ r n bi a τ) (C : CdM bi cd' τ) (kT : ∀ a1 β1 c1 c1', tuP r n a β cd cd' = .inr (a1, β1, c1, c1') → tBb r n a1 = false → ∀ τ', PQ r n bi a1 τ' → HbM bi β1 τ' → CdM bi c1' τ' → frZ bi τ τ' → Q none τ') (kF : ∀ k p, 1 ≤ k → beP r n (tuP r n a β cd cd') k p → ∀ τ', PF k p τ' → frZ bi τ τ' → Q none τ') : M0 E (d + 4) qX11_tune [vR 140] τ Q := by
  obtain ⟨ha, hc, hc', sh, sn, -⟩ := id S
  have s := sh.1
  have t0 := tW_n ha hr hw
  have k2 : 2 ≤ (tk r n a).1 := by rw [(tW_k hw).1]; omega
  obtain ⟨t, et⟩ : ∃ t : Nat, β 0 5 = (t : Int) := ⟨(β 0 5).toNat, by omega⟩
  have h39 := H.2.2.2
  have e4 : τ 144 bi = (t : Int) := B.1.2.2.1.trans et
  unfold tuP at kT kF
  rw [et] at kT kF
  rw [Int.toNat_natCast] at kT kF
  refine mX11_tune (d := d + 3) ?_
  rw [h39, Int.toNat_natCast, e4]
  refine ⟨by omega, by omega, fun q => ?_, fun q => ?_⟩
  · rw [if_neg (by omega)] at kT kF
    refine m_counts (b := false) (d := d + 1) hn hr ha k2 H (fun _ nb τ1 H1 F1 => ⟨true, rfl, fun _ => ?_, fun q => ff_tt q⟩) (fun _ z τ1 R1 F1 => ⟨false, rfl, fun q => tt_ff q, fun _ => kF 1 _ (by omega) (bz_nn z) τ1 R1 F1.z⟩) (fun q => tt_ff q)
    have h391 := H1.2.2.2
    have e41 : τ1 144 bi = (t : Int) := by rw [F1.1 144 (by omega)]; exact e4
    rw [h391, Int.toNat_natCast, e41, show 3 * (bi : Int) + (t : Int) = ((3 * bi + t : Nat) : Int) by omega, Int.toNat_natCast]
    refine ⟨by omega, by omega, m_fresh (d := d) hn hb hr t0.2 sh sn (B.fa F1) H1 (fun ev w1 t1 t2 nb2 τ2 H2 F2 => ⟨_, rfl, by omega, by omega, ?_⟩) (fun k p hk ev v τ2 R2 F2 => ⟨_, rfl, by omega, by omega, ?_⟩)⟩
    · rw [ev] at kT kF
      have F12 := F1.tr F2
      refine m_tuneL (d := d + 1) (w := tV r n (tN r n a)) (τ0 := τ) hn hb hr sh et (by omega) B (β 0 4).toNat 0 _ (wr β 2 t (tV r n (tN r n a))) _ (by omega) t2 (H2.wo (by omega)) ((C.fa F12).wo (by omega)) (fun o a1 a2 a3 a4 => by rw [wr_obj a3]; exact F12.1 o (by omega)) (fun j hj => by rw [wr_row hj, F12.1 145 (by omega)]) wr_same (fun j hj => by rw [wr_obj (by omega), F12.1 146 (by omega)]) (fun j hj => by omega) (F12.z.w (by omega) (by show 3 * bi ≤ 3 * bi + t ∧ 3 * bi + t < 3 * bi + 3; omega)) (fun o a1 a2 => wr_obj a2) (fun i => ?_) (fun j hj => by rw [wr_obj (by omega)]) kT kF
      by_cases q : i = t
      · subst q; rw [wr_same, if_pos rfl]
      · rw [wr_row q, if_neg q]
    · have K := kF k p hk (ev _ (fun b v z _ => bz_ns z (fun β => bz_wd z)))
      have F12 := F1.tr F2
      have fz : frZ bi τ (wr τ2 145 (3 * bi + t) v) := F12.z.w (by omega) (by show 3 * bi ≤ 3 * bi + t ∧ 3 * bi + t < 3 * bi + 3; omega)
      exact m_tuneF (d := d + 2) hb hk (L := β 0 4) (by omega) (by omega) (β 0 4).toNat 0 _ (by omega) ⟨by rw [wr_obj (by omega)]; exact R2.1, by rw [wr_obj (by omega)]; exact R2.2⟩ (by rw [wr_obj (by omega), F2.2 39 (by omega)]; exact h391) (by rw [wr_obj (by omega), F12.1 143 (by omega)]; exact B.1.2.1) (fun τ' R' F' => K τ' R' (fz.tr F'))
  · rw [if_pos (by omega)] at kF
    exact m_counts (b := true) (d := d + 1) hn hr ha k2 H (fun q => ff_tt q) (fun q => ff_tt q) (fun _ τ1 R1 F1 => ⟨false, rfl, fun q => tt_ff q, fun _ => kF 5 _ (by omega) (Or.inl rfl) τ1 R1 F1.z⟩)
end MSt
