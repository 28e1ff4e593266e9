/-! the law: every call keeps both sides alike -/
theorem RepM.fc {b : Nat} {α τ τ' : mm_Mem} (M : RepM b α τ) (F : FrC τ τ') : RepM b α τ' := M.frame (fun o j r => by
  rw [F o (by
    by_cases q : 140 ≤ o
    · exact Or.inr q
    · exfalso
      simp [relM] at r
      omega)])
theorem RepC.fm {k h : Nat} {α τ τ' : mm_Mem} (w : WF k α) (H : RepC k h α τ) (F : FrM τ τ') : RepC k h α τ' := by
  have le := w.le
  refine H.frame (by omega) (by omega) (by omega) (fun o j r => ?_) (Nat.le_refl k) (H.2.2.2.2.2.2.2.2.2.2.2.2.cg (fun o p q => F o (by omega)) kdD_133)
  rw [F o (by
    by_cases q : o < 140
    · exact Or.inl q
    · exfalso
      simp [relC] at r
      omega)]
theorem RepC.fm' {k k' h : Nat} {α τ τ' : mm_Mem} (w : WF k' α) (hk : k ≤ k') (H : RepC k h α τ) (F : FrM τ τ') : RepC k' h α τ' := (H.up hk).fm w F
def LJ (k : Nat) (τ : mm_Mem) : Prop := ∃ h b α, IV k α ∧ RepC k h α τ ∧ RepM b α τ ∧ ∀ j, inR (τ 1 j)
theorem LJ.mk {k h b : Nat} {α τ τ1 τ2 : mm_Mem} (I : IV (k + 1) α) (H : RepC (k + 1) h α τ1) (M : RepM b α τ2) (F1 : FrC τ τ1) (F2 : FrM τ1 τ2) (S : ∀ j, inR (τ 1 j)) : LJ (k + 1) τ2 := ⟨h, b, α, I, H.fm I.1 F2, M, fun j => by rw [F2 1 (by omega), F1 1 (by omega)]; exact S j⟩
section Loop
variable {E : mm_Env} {k : Nat} {τ : mm_Mem} {Q : mm_Q0} {x3 : Int}
theorem L_200 (hL : E.2.2.2.2 ≤ 2147483647) (hx : 0 ≤ x3) (hy : x3 + 5 < (E.2.2.2.2 : Int)) (hk9 : k ≤ 599) (L : LJ k τ) (K : ∀ τ', LJ (k + 1) τ' → VL E qL_law 1417 [some (vR 1), some (vR 2), some (vR 140), some (vI x3)] [] τ' Q) : VL E qL_law 200 [some (vR 1), some (vR 2), some (vR 140), some (vI x3)] [] τ Q := by
  obtain ⟨h, b, α, I, H, M, S⟩ := L
  have w := I.1
  have hk : k ≤ 600 := by omega
  refine bL_law_200 hL ⟨by omega, by omega, by omega, by omega, by omega, by omega, by omega, by omega, by omega, by omega, ?_⟩
  refine c_feed (d := 99) hk w H (fun τ1 H1 F1 => ⟨_, rfl, by omega, by omega, by omega, by omega, by omega, by omega, by omega, by omega, by omega, by omega, ?_⟩)
  rw [F1 1 (by omega)]
  exact m_feed (d := 99) hk w (M.fc F1) (fun τ2 M2 F2 => ⟨_, rfl, rfl, K _ (LJ.mk I.feed (H1.up (by omega)) M2 F1 F2 S)⟩)
theorem L_263 (hL : E.2.2.2.2 ≤ 2147483647) (hx : 0 ≤ x3) (hy : x3 + 5 < (E.2.2.2.2 : Int)) (hk9 : k ≤ 599) (L : LJ k τ) (K : ∀ τ', LJ (k + 1) τ' → VL E qL_law 1417 [some (vR 1), some (vR 2), some (vR 140), some (vI x3)] [] τ' Q) : VL E qL_law 263 [some (vR 1), some (vR 2), some (vR 140), some (vI x3)] [] τ Q := by
  obtain ⟨h, b, α, I, H, M, S⟩ := L
  have w := I.1
  have hk : k ≤ 600 := by omega
  refine bL_law_263 hL ⟨by omega, by omega, ?_⟩
  refine c_end (d := 100) hk w H (S _) (fun τ1 H1 F1 => ⟨_, rfl, by omega, by omega, ?_⟩)
  rw [F1 1 (by omega)]
  exact m_end (d := 99) hk w (M.fc F1) (S _) (fun τ2 M2 F2 => ⟨_, rfl, rfl, K _ (LJ.mk I.end_ (H1.up (by omega)) M2 F1 F2 S)⟩)
theorem L_286 (hL : E.2.2.2.2 ≤ 2147483647) (hx : 0 ≤ x3) (hy : x3 + 5 < (E.2.2.2.2 : Int)) (hk9 : k ≤ 599) (L : LJ k τ) (K : ∀ τ', LJ (k + 1) τ' → VL E qL_law 1417 [some (vR 1), some (vR 2), some (vR 140), some (vI x3)] [] τ' Q) : VL E qL_law 286 [some (vR 1), some (vR 2), some (vR 140), some (vI x3)] [] τ Q := by
  obtain ⟨h, b, α, I, H, M, S⟩ := L
  have w := I.1
  have hk : k ≤ 600 := by omega
  refine bL_law_286 hL ?_
  refine c_house (d := 56) hk w H (fun h1 τ1 H1 F1 => ⟨_, rfl, ?_⟩)
  exact m_house (d := 93) hk w (M.fc F1) (fun b2 τ2 M2 F2 => ⟨_, rfl, rfl, K _ (LJ.mk I.house (H1.up (by omega)) M2 F1 F2 S)⟩)
theorem L_299 (hL : E.2.2.2.2 ≤ 2147483647) (hx : 0 ≤ x3) (hy : x3 + 5 < (E.2.2.2.2 : Int)) (hk9 : k ≤ 599) (L : LJ k τ) (K : ∀ τ', LJ (k + 1) τ' → VL E qL_law 1417 [some (vR 1), some (vR 2), some (vR 140), some (vI x3)] [] τ' Q) : VL E qL_law 299 [some (vR 1), some (vR 2), some (vR 140), some (vI x3)] [] τ Q := by
  obtain ⟨h, b, α, I, H, M, S⟩ := L
  have w := I.1
  have hk : k ≤ 600 := by omega
  refine bL_law_299 hL ⟨by omega, by omega, ?_⟩
  refine c_fault (d := 100) H (S _) (⟨_, rfl, by omega, by omega, ?_⟩)
  exact m_fault (d := 100) M (S _) (⟨_, rfl, rfl, K _ (LJ.mk (I.up (by omega)) (H.up (by omega)) M FrC.rf FrM.rf S)⟩)
theorem L_322 (hL : E.2.2.2.2 ≤ 2147483647) (hx : 0 ≤ x3) (hy : x3 + 5 < (E.2.2.2.2 : Int)) (hk9 : k ≤ 599) (L : LJ k τ) (K : ∀ τ', LJ (k + 1) τ' → VL E qL_law 1417 [some (vR 1), some (vR 2), some (vR 140), some (vI x3)] [] τ' Q) : VL E qL_law 322 [some (vR 1), some (vR 2), some (vR 140), some (vI x3)] [] τ Q := by
  obtain ⟨h, b, α, I, H, M, S⟩ := L
  have w := I.1
  have hk : k ≤ 600 := by omega
  refine bL_law_322 hL ⟨by omega, by omega, ?_⟩
  refine c_has (d := 99) H (S _) (⟨_, rfl, by omega, by omega, ?_⟩)
  exact m_has (d := 100) M (S _) (⟨_, rfl, rfl, K _ (LJ.mk (I.up (by omega)) (H.up (by omega)) M FrC.rf FrM.rf S)⟩)
theorem L_345 (hL : E.2.2.2.2 ≤ 2147483647) (hx : 0 ≤ x3) (hy : x3 + 5 < (E.2.2.2.2 : Int)) (hk9 : k ≤ 599) (L : LJ k τ) (K : ∀ τ', LJ (k + 1) τ' → VL E qL_law 1417 [some (vR 1), some (vR 2), some (vR 140), some (vI x3)] [] τ' Q) : VL E qL_law 345 [some (vR 1), some (vR 2), some (vR 140), some (vI x3)] [] τ Q := by
  obtain ⟨h, b, α, I, H, M, S⟩ := L
  have w := I.1
  have hk : k ≤ 600 := by omega
  refine bL_law_345 hL ⟨by omega, by omega, by omega, by omega, by omega, by omega, ?_⟩
  refine c_letter (d := 98) w I.2.1 H (S _) (S _) (S _) (⟨_, rfl, by omega, by omega, by omega, by omega, by omega, by omega, ?_⟩)
  exact m_letter (d := 99) w I.2.1 M (S _) (S _) (S _) (⟨_, rfl, rfl, K _ (LJ.mk (I.up (by omega)) (H.up (by omega)) M FrC.rf FrM.rf S)⟩)
theorem L_388 (hL : E.2.2.2.2 ≤ 2147483647) (hx : 0 ≤ x3) (hy : x3 + 5 < (E.2.2.2.2 : Int)) (hk9 : k ≤ 599) (L : LJ k τ) (K : ∀ τ', LJ (k + 1) τ' → VL E qL_law 1417 [some (vR 1), some (vR 2), some (vR 140), some (vI x3)] [] τ' Q) : VL E qL_law 388 [some (vR 1), some (vR 2), some (vR 140), some (vI x3)] [] τ Q := by
  obtain ⟨h, b, α, I, H, M, S⟩ := L
  have w := I.1
  have hk : k ≤ 600 := by omega
  refine bL_law_388 hL ⟨by omega, by omega, by omega, by omega, ?_⟩
  refine c_door (d := 99) w H (S _) (S _) (⟨_, rfl, by omega, by omega, by omega, by omega, ?_⟩)
  exact m_door_ (d := 98) w M (S _) (S _) (⟨_, rfl, rfl, K _ (LJ.mk (I.up (by omega)) (H.up (by omega)) M FrC.rf FrM.rf S)⟩)
theorem L_421 (hL : E.2.2.2.2 ≤ 2147483647) (hx : 0 ≤ x3) (hy : x3 + 5 < (E.2.2.2.2 : Int)) (hk9 : k ≤ 599) (L : LJ k τ) (K : ∀ τ', LJ (k + 1) τ' → VL E qL_law 1417 [some (vR 1), some (vR 2), some (vR 140), some (vI x3)] [] τ' Q) : VL E qL_law 421 [some (vR 1), some (vR 2), some (vR 140), some (vI x3)] [] τ Q := by
  obtain ⟨h, b, α, I, H, M, S⟩ := L
  have w := I.1
  have hk : k ≤ 600 := by omega
  refine bL_law_421 hL ⟨by omega, by omega, by omega, by omega, ?_⟩
  refine c_person (d := 99) w H (S _) (S _) (⟨_, rfl, by omega, by omega, by omega, by omega, ?_⟩)
  exact m_person_ (d := 98) w M (S _) (S _) (⟨_, rfl, rfl, K _ (LJ.mk (I.up (by omega)) (H.up (by omega)) M FrC.rf FrM.rf S)⟩)
theorem L_454 (hL : E.2.2.2.2 ≤ 2147483647) (hx : 0 ≤ x3) (hy : x3 + 5 < (E.2.2.2.2 : Int)) (hk9 : k ≤ 599) (L : LJ k τ) (K : ∀ τ', LJ (k + 1) τ' → VL E qL_law 1417 [some (vR 1), some (vR 2), some (vR 140), some (vI x3)] [] τ' Q) : VL E qL_law 454 [some (vR 1), some (vR 2), some (vR 140), some (vI x3)] [] τ Q := by
  obtain ⟨h, b, α, I, H, M, S⟩ := L
  have w := I.1
  have hk : k ≤ 600 := by omega
  refine bL_law_454 hL ⟨by omega, by omega, by omega, by omega, by omega, by omega, ?_⟩
  refine c_note (d := 98) w H (S _) (S _) (S _) (⟨_, rfl, by omega, by omega, by omega, by omega, by omega, by omega, ?_⟩)
  exact m_note (d := 98) w M (S _) (S _) (S _) (⟨_, rfl, rfl, K _ (LJ.mk (I.up (by omega)) (H.up (by omega)) M FrC.rf FrM.rf S)⟩)
theorem L_497 (hL : E.2.2.2.2 ≤ 2147483647) (hx : 0 ≤ x3) (hy : x3 + 5 < (E.2.2.2.2 : Int)) (hk9 : k ≤ 599) (L : LJ k τ) (K : ∀ τ', LJ (k + 1) τ' → VL E qL_law 1417 [some (vR 1), some (vR 2), some (vR 140), some (vI x3)] [] τ' Q) : VL E qL_law 497 [some (vR 1), some (vR 2), some (vR 140), some (vI x3)] [] τ Q := by
  obtain ⟨h, b, α, I, H, M, S⟩ := L
  have w := I.1
  have hk : k ≤ 600 := by omega
  refine bL_law_497 hL ⟨by omega, by omega, by omega, by omega, ?_⟩
  refine c_round (d := 98) w H (S _) (S _) (fun v1 u1 => ⟨_, rfl, by omega, by omega, by omega, by omega, ?_⟩)
  exact m_round (d := 98) w M (S _) (S _) (fun v2 u2 => ⟨_, rfl, isRound_u u1 u2, K _ (LJ.mk (I.up (by omega)) (H.up (by omega)) M FrC.rf FrM.rf S)⟩)
theorem L_530 (hL : E.2.2.2.2 ≤ 2147483647) (hx : 0 ≤ x3) (hy : x3 + 5 < (E.2.2.2.2 : Int)) (hk9 : k ≤ 599) (L : LJ k τ) (K : ∀ τ', LJ (k + 1) τ' → VL E qL_law 1417 [some (vR 1), some (vR 2), some (vR 140), some (vI x3)] [] τ' Q) : VL E qL_law 530 [some (vR 1), some (vR 2), some (vR 140), some (vI x3)] [] τ Q := by
  obtain ⟨h, b, α, I, H, M, S⟩ := L
  have w := I.1
  have hk : k ≤ 600 := by omega
  refine bL_law_530 hL ⟨by omega, by omega, by omega, by omega, by omega, by omega, ?_⟩
  refine c_find (d := 98) w H (S _) (S _) (S _) (⟨_, rfl, by omega, by omega, by omega, by omega, by omega, by omega, ?_⟩)
  exact m_find (d := 98) w M (S _) (S _) (S _) (⟨_, rfl, rfl, K _ (LJ.mk (I.up (by omega)) (H.up (by omega)) M FrC.rf FrM.rf S)⟩)
theorem L_573 (hL : E.2.2.2.2 ≤ 2147483647) (hx : 0 ≤ x3) (hy : x3 + 5 < (E.2.2.2.2 : Int)) (hk9 : k ≤ 599) (L : LJ k τ) (K : ∀ τ', LJ (k + 1) τ' → VL E qL_law 1417 [some (vR 1), some (vR 2), some (vR 140), some (vI x3)] [] τ' Q) : VL E qL_law 573 [some (vR 1), some (vR 2), some (vR 140), some (vI x3)] [] τ Q := by
  obtain ⟨h, b, α, I, H, M, S⟩ := L
  have w := I.1
  have hk : k ≤ 600 := by omega
  refine bL_law_573 hL ⟨by omega, by omega, by omega, by omega, by omega, by omega, ?_⟩
  refine c_ear (d := 99) w H (S _) (S _) (S _) (⟨_, rfl, by omega, by omega, by omega, by omega, by omega, by omega, ?_⟩)
  exact m_ear (d := 98) w M (S _) (S _) (S _) (⟨_, rfl, rfl, K _ (LJ.mk (I.up (by omega)) (H.up (by omega)) M FrC.rf FrM.rf S)⟩)
theorem L_616 (hL : E.2.2.2.2 ≤ 2147483647) (hx : 0 ≤ x3) (hy : x3 + 5 < (E.2.2.2.2 : Int)) (hk9 : k ≤ 599) (L : LJ k τ) (K : ∀ τ', LJ (k + 1) τ' → VL E qL_law 1417 [some (vR 1), some (vR 2), some (vR 140), some (vI x3)] [] τ' Q) : VL E qL_law 616 [some (vR 1), some (vR 2), some (vR 140), some (vI x3)] [] τ Q := by
  obtain ⟨h, b, α, I, H, M, S⟩ := L
  have w := I.1
  have hk : k ≤ 600 := by omega
  refine bL_law_616 hL ⟨by omega, by omega, ?_⟩
  refine c_come (d := 93) w hk H (S _) (fun τ1 H1 F1 => ⟨_, rfl, by omega, by omega, ?_⟩)
  rw [F1 1 (by omega)]
  exact m_come (d := 93) w hk (M.fc F1) (S _) (fun τ2 M2 F2 => ⟨_, rfl, rfl, K _ (LJ.mk I.come (H1.up (by omega)) M2 F1 F2 S)⟩)
theorem L_639 (hL : E.2.2.2.2 ≤ 2147483647) (hx : 0 ≤ x3) (hy : x3 + 5 < (E.2.2.2.2 : Int)) (hk9 : k ≤ 599) (L : LJ k τ) (K : ∀ τ', LJ (k + 1) τ' → VL E qL_law 1417 [some (vR 1), some (vR 2), some (vR 140), some (vI x3)] [] τ' Q) : VL E qL_law 639 [some (vR 1), some (vR 2), some (vR 140), some (vI x3)] [] τ Q := by
  obtain ⟨h, b, α, I, H, M, S⟩ := L
  have w := I.1
  have hk : k ≤ 600 := by omega
  refine bL_law_639 hL ⟨by omega, by omega, by omega, by omega, by omega, by omega, ?_⟩
  refine c_slip (d := 93) w hk H (S _) (S _) (S _) (fun τ1 H1 F1 => ⟨_, rfl, by omega, by omega, by omega, by omega, by omega, by omega, ?_⟩)
  rw [F1 1 (by omega)]
  exact m_slip (d := 93) w hk (M.fc F1) (S _) (S _) (S _) (fun τ2 M2 F2 => ⟨_, rfl, rfl, K _ (LJ.mk I.slip (H1.up (by omega)) M2 F1 F2 S)⟩)
theorem L_682 (hL : E.2.2.2.2 ≤ 2147483647) (hx : 0 ≤ x3) (hy : x3 + 5 < (E.2.2.2.2 : Int)) (hk9 : k ≤ 599) (L : LJ k τ) (K : ∀ τ', LJ (k + 1) τ' → VL E qL_law 1417 [some (vR 1), some (vR 2), some (vR 140), some (vI x3)] [] τ' Q) : VL E qL_law 682 [some (vR 1), some (vR 2), some (vR 140), some (vI x3)] [] τ Q := by
  obtain ⟨h, b, α, I, H, M, S⟩ := L
  have w := I.1
  have hk : k ≤ 600 := by omega
  refine bL_law_682 hL ⟨by omega, by omega, by omega, by omega, ?_⟩
  refine c_waste (d := 93) w hk H (S _) (S _) (fun τ1 H1 F1 => ⟨_, rfl, by omega, by omega, by omega, by omega, ?_⟩)
  rw [F1 1 (by omega)]
  exact m_waste (d := 93) w hk (M.fc F1) (S _) (S _) (fun τ2 M2 F2 => ⟨_, rfl, rfl, K _ (LJ.mk I.waste (H1.up (by omega)) M2 F1 F2 S)⟩)
theorem L_715 (hL : E.2.2.2.2 ≤ 2147483647) (hx : 0 ≤ x3) (hy : x3 + 5 < (E.2.2.2.2 : Int)) (hk9 : k ≤ 599) (L : LJ k τ) (K : ∀ τ', LJ (k + 1) τ' → VL E qL_law 1417 [some (vR 1), some (vR 2), some (vR 140), some (vI x3)] [] τ' Q) : VL E qL_law 715 [some (vR 1), some (vR 2), some (vR 140), some (vI x3)] [] τ Q := by
  obtain ⟨h, b, α, I, H, M, S⟩ := L
  have w := I.1
  have hk : k ≤ 600 := by omega
  refine bL_law_715 hL ⟨by omega, by omega, ?_⟩
  refine c_listen (d := 93) w hk H (S _) (fun τ1 H1 F1 => ⟨_, rfl, by omega, by omega, ?_⟩)
  rw [F1 1 (by omega)]
  exact m_listen (d := 94) w hk (M.fc F1) (S _) (fun τ2 M2 F2 => ⟨_, rfl, rfl, K _ (LJ.mk I.lis (H1.up (by omega)) M2 F1 F2 S)⟩)
theorem L_738 (hL : E.2.2.2.2 ≤ 2147483647) (hx : 0 ≤ x3) (hy : x3 + 5 < (E.2.2.2.2 : Int)) (hk9 : k ≤ 599) (L : LJ k τ) (K : ∀ τ', LJ (k + 1) τ' → VL E qL_law 1417 [some (vR 1), some (vR 2), some (vR 140), some (vI x3)] [] τ' Q) : VL E qL_law 738 [some (vR 1), some (vR 2), some (vR 140), some (vI x3)] [] τ Q := by
  obtain ⟨h, b, α, I, H, M, S⟩ := L
  have w := I.1
  have hk : k ≤ 600 := by omega
  refine bL_law_738 hL ⟨by omega, by omega, by omega, by omega, ?_⟩
  refine c_opened (d := 99) w H (S _) (S _) (⟨_, rfl, by omega, by omega, by omega, by omega, ?_⟩)
  exact m_opened (d := 98) w M (S _) (S _) (⟨_, rfl, rfl, K _ (LJ.mk (I.up (by omega)) (H.up (by omega)) M FrC.rf FrM.rf S)⟩)
theorem L_771 (hL : E.2.2.2.2 ≤ 2147483647) (hx : 0 ≤ x3) (hy : x3 + 5 < (E.2.2.2.2 : Int)) (hk9 : k ≤ 599) (L : LJ k τ) (K : ∀ τ', LJ (k + 1) τ' → VL E qL_law 1417 [some (vR 1), some (vR 2), some (vR 140), some (vI x3)] [] τ' Q) : VL E qL_law 771 [some (vR 1), some (vR 2), some (vR 140), some (vI x3)] [] τ Q := by
  obtain ⟨h, b, α, I, H, M, S⟩ := L
  have w := I.1
  have hk : k ≤ 600 := by omega
  refine bL_law_771 hL ⟨by omega, by omega, ?_⟩
  refine c_apart (d := 99) w H (S _) (⟨_, rfl, by omega, by omega, ?_⟩)
  exact m_apart (d := 98) w M (S _) (⟨_, rfl, rfl, K _ (LJ.mk (I.up (by omega)) (H.up (by omega)) M FrC.rf FrM.rf S)⟩)
theorem L_794 (hL : E.2.2.2.2 ≤ 2147483647) (hx : 0 ≤ x3) (hy : x3 + 5 < (E.2.2.2.2 : Int)) (hk9 : k ≤ 599) (L : LJ k τ) (K : ∀ τ', LJ (k + 1) τ' → VL E qL_law 1417 [some (vR 1), some (vR 2), some (vR 140), some (vI x3)] [] τ' Q) : VL E qL_law 794 [some (vR 1), some (vR 2), some (vR 140), some (vI x3)] [] τ Q := by
  obtain ⟨h, b, α, I, H, M, S⟩ := L
  have w := I.1
  have hk : k ≤ 600 := by omega
  refine bL_law_794 hL ⟨by omega, by omega, ?_⟩
  refine c_mend (d := 93) w hk9 H (S _) (fun τ1 H1 F1 => ⟨_, rfl, by omega, by omega, ?_⟩)
  rw [F1 1 (by omega)]
  exact m_mend (d := 93) w (M.fc F1) (S _) (fun τ2 M2 F2 => ⟨_, rfl, rfl, K _ (LJ.mk (I.up (by omega)) H1 M2 F1 F2 S)⟩)
theorem L_817 (hL : E.2.2.2.2 ≤ 2147483647) (hx : 0 ≤ x3) (hy : x3 + 5 < (E.2.2.2.2 : Int)) (hk9 : k ≤ 599) (L : LJ k τ) (K : ∀ τ', LJ (k + 1) τ' → VL E qL_law 1417 [some (vR 1), some (vR 2), some (vR 140), some (vI x3)] [] τ' Q) : VL E qL_law 817 [some (vR 1), some (vR 2), some (vR 140), some (vI x3)] [] τ Q := by
  obtain ⟨h, b, α, I, H, M, S⟩ := L
  have w := I.1
  have hk : k ≤ 600 := by omega
  refine bL_law_817 hL ⟨by omega, by omega, ?_⟩
  refine c_would (d := 93) w hk9 H (S _) (fun τ1 H1 F1 => ⟨_, rfl, by omega, by omega, ?_⟩)
  rw [F1 1 (by omega)]
  exact m_would (d := 93) w (M.fc F1) (S _) (fun τ2 M2 F2 => ⟨_, rfl, rfl, K _ (LJ.mk (I.up (by omega)) H1 M2 F1 F2 S)⟩)
theorem L_840 (hL : E.2.2.2.2 ≤ 2147483647) (hx : 0 ≤ x3) (hy : x3 + 5 < (E.2.2.2.2 : Int)) (hk9 : k ≤ 599) (L : LJ k τ) (K : ∀ τ', LJ (k + 1) τ' → VL E qL_law 1417 [some (vR 1), some (vR 2), some (vR 140), some (vI x3)] [] τ' Q) : VL E qL_law 840 [some (vR 1), some (vR 2), some (vR 140), some (vI x3)] [] τ Q := by
  obtain ⟨h, b, α, I, H, M, S⟩ := L
  have w := I.1
  have hk : k ≤ 600 := by omega
  refine bL_law_840 hL ⟨by omega, by omega, by omega, by omega, ?_⟩
  refine c_likely (d := 83) w hk9 H (S _) (S _) (fun τ1 H1 F1 => ⟨_, rfl, by omega, by omega, by omega, by omega, ?_⟩)
  rw [F1 1 (by omega)]
  exact m_likely (d := 92) w (M.fc F1) (S _) (S _) (fun τ2 M2 F2 => ⟨_, rfl, rfl, K _ (LJ.mk (I.up (by omega)) H1 M2 F1 F2 S)⟩)
theorem L_874 (hL : E.2.2.2.2 ≤ 2147483647) (hx : 0 ≤ x3) (hy : x3 + 5 < (E.2.2.2.2 : Int)) (hk9 : k ≤ 599) (L : LJ k τ) (K : ∀ τ', LJ (k + 1) τ' → VL E qL_law 1417 [some (vR 1), some (vR 2), some (vR 140), some (vI x3)] [] τ' Q) : VL E qL_law 874 [some (vR 1), some (vR 2), some (vR 140), some (vI x3)] [] τ Q := by
  obtain ⟨h, b, α, I, H, M, S⟩ := L
  have w := I.1
  have hk : k ≤ 600 := by omega
  refine bL_law_874 hL ⟨by omega, by omega, by omega, by omega, ?_⟩
  refine c_lost (d := 83) w hk9 H (S _) (S _) (fun τ1 H1 F1 => ⟨_, rfl, by omega, by omega, by omega, by omega, ?_⟩)
  rw [F1 1 (by omega)]
  exact m_lost (d := 92) w (M.fc F1) (S _) (S _) (fun τ2 M2 F2 => ⟨_, rfl, rfl, K _ (LJ.mk (I.up (by omega)) H1 M2 F1 F2 S)⟩)
theorem L_908 (hL : E.2.2.2.2 ≤ 2147483647) (hx : 0 ≤ x3) (hy : x3 + 5 < (E.2.2.2.2 : Int)) (hk9 : k ≤ 599) (L : LJ k τ) (K : ∀ τ', LJ (k + 1) τ' → VL E qL_law 1417 [some (vR 1), some (vR 2), some (vR 140), some (vI x3)] [] τ' Q) : VL E qL_law 908 [some (vR 1), some (vR 2), some (vR 140), some (vI x3)] [] τ Q := by
  obtain ⟨h, b, α, I, H, M, S⟩ := L
  have w := I.1
  have hk : k ≤ 600 := by omega
  refine bL_law_908 hL ⟨by omega, by omega, ?_⟩
  refine c_bears (d := 93) w hk9 H (S _) (fun τ1 H1 F1 => ⟨_, rfl, by omega, by omega, ?_⟩)
  rw [F1 1 (by omega)]
  exact m_bears (d := 93) w (M.fc F1) (S _) (fun τ2 M2 F2 => ⟨_, rfl, rfl, K _ (LJ.mk (I.up (by omega)) H1 M2 F1 F2 S)⟩)
theorem L_931 (hL : E.2.2.2.2 ≤ 2147483647) (hx : 0 ≤ x3) (hy : x3 + 5 < (E.2.2.2.2 : Int)) (hk9 : k ≤ 599) (L : LJ k τ) (K : ∀ τ', LJ (k + 1) τ' → VL E qL_law 1417 [some (vR 1), some (vR 2), some (vR 140), some (vI x3)] [] τ' Q) : VL E qL_law 931 [some (vR 1), some (vR 2), some (vR 140), some (vI x3)] [] τ Q := by
  obtain ⟨h, b, α, I, H, M, S⟩ := L
  have w := I.1
  have hk : k ≤ 600 := by omega
  refine bL_law_931 hL ⟨by omega, by omega, by omega, by omega, ?_⟩
  refine c_stranger (d := 95) w hk9 H (S _) (S _) (fun τ1 H1 F1 => ⟨_, rfl, by omega, by omega, by omega, by omega, ?_⟩)
  rw [F1 1 (by omega)]
  exact m_stranger (d := 93) w (M.fc F1) (S _) (S _) (fun τ2 M2 F2 => ⟨_, rfl, rfl, K _ (LJ.mk (I.up (by omega)) H1 M2 F1 F2 S)⟩)
theorem L_965 (hL : E.2.2.2.2 ≤ 2147483647) (hx : 0 ≤ x3) (hy : x3 + 5 < (E.2.2.2.2 : Int)) (hk9 : k ≤ 599) (L : LJ k τ) (K : ∀ τ', LJ (k + 1) τ' → VL E qL_law 1417 [some (vR 1), some (vR 2), some (vR 140), some (vI x3)] [] τ' Q) : VL E qL_law 965 [some (vR 1), some (vR 2), some (vR 140), some (vI x3)] [] τ Q := by
  obtain ⟨h, b, α, I, H, M, S⟩ := L
  have w := I.1
  have hk : k ≤ 600 := by omega
  refine bL_law_965 hL ⟨by omega, by omega, ?_⟩
  refine c_near (d := 97) w H (S _) (fun v1 τ1 H1 F1 u1 => ⟨_, rfl, by omega, by omega, ?_⟩)
  rw [F1 1 (by omega)]
  exact m_near (d := 97) w (M.fc F1) (S _) (fun v2 τ2 M2 F2 u2 => ⟨_, rfl, isNear_u u1 u2, K _ (LJ.mk (I.up (by omega)) (H1.up (by omega)) M2 F1 F2 S)⟩)
theorem L_988 (hL : E.2.2.2.2 ≤ 2147483647) (hx : 0 ≤ x3) (hy : x3 + 5 < (E.2.2.2.2 : Int)) (hk9 : k ≤ 599) (L : LJ k τ) (K : ∀ τ', LJ (k + 1) τ' → VL E qL_law 1417 [some (vR 1), some (vR 2), some (vR 140), some (vI x3)] [] τ' Q) : VL E qL_law 988 [some (vR 1), some (vR 2), some (vR 140), some (vI x3)] [] τ Q := by
  obtain ⟨h, b, α, I, H, M, S⟩ := L
  have w := I.1
  have hk : k ≤ 600 := by omega
  refine bL_law_988 hL ⟨by omega, by omega, by omega, by omega, by omega, by omega, by omega, by omega, ?_⟩
  refine c_cost (d := 85) w hk9 H (S _) (S _) (S _) (S _) (fun τ1 H1 F1 => ⟨_, rfl, by omega, by omega, by omega, by omega, by omega, by omega, by omega, by omega, ?_⟩)
  rw [F1 1 (by omega)]
  exact m_cost (d := 91) w (M.fc F1) (S _) (S _) (S _) (S _) (fun τ2 M2 F2 => ⟨_, rfl, rfl, K _ (LJ.mk (I.up (by omega)) H1 M2 F1 F2 S)⟩)
theorem L_1041 (hL : E.2.2.2.2 ≤ 2147483647) (hx : 0 ≤ x3) (hy : x3 + 5 < (E.2.2.2.2 : Int)) (hk9 : k ≤ 599) (L : LJ k τ) (K : ∀ τ', LJ (k + 1) τ' → VL E qL_law 1417 [some (vR 1), some (vR 2), some (vR 140), some (vI x3)] [] τ' Q) : VL E qL_law 1041 [some (vR 1), some (vR 2), some (vR 140), some (vI x3)] [] τ Q := by
  obtain ⟨h, b, α, I, H, M, S⟩ := L
  have w := I.1
  have hk : k ≤ 600 := by omega
  refine bL_law_1041 hL ⟨by omega, by omega, by omega, by omega, by omega, by omega, ?_⟩
  refine c_knows (d := 95) w H (S _) (S _) (S _) (fun τ1 H1 F1 => ⟨_, rfl, by omega, by omega, by omega, by omega, by omega, by omega, ?_⟩)
  rw [F1 1 (by omega)]
  exact m_knows (d := 97) w (M.fc F1) (S _) (S _) (S _) (⟨_, rfl, rfl, K _ (LJ.mk (I.up (by omega)) (H1.up (by omega)) (M.fc F1) F1 FrM.rf S)⟩)
theorem L_1084 (hL : E.2.2.2.2 ≤ 2147483647) (hx : 0 ≤ x3) (hy : x3 + 5 < (E.2.2.2.2 : Int)) (hk9 : k ≤ 599) (L : LJ k τ) (K : ∀ τ', LJ (k + 1) τ' → VL E qL_law 1417 [some (vR 1), some (vR 2), some (vR 140), some (vI x3)] [] τ' Q) : VL E qL_law 1084 [some (vR 1), some (vR 2), some (vR 140), some (vI x3)] [] τ Q := by
  obtain ⟨h, b, α, I, H, M, S⟩ := L
  have w := I.1
  have hk : k ≤ 600 := by omega
  refine bL_law_1084 hL ⟨by omega, by omega, by omega, by omega, ?_⟩
  refine c_sure (d := 96) w H (S _) (S _) (fun v1 τ1 H1 F1 u1 => ⟨_, rfl, by omega, by omega, by omega, by omega, ?_⟩)
  rw [F1 1 (by omega)]
  exact m_sure (d := 96) w (M.fc F1) (S _) (S _) (fun v2 u2 => ⟨_, rfl, isSure_u u1 u2, K _ (LJ.mk (I.up (by omega)) (H1.up (by omega)) (M.fc F1) F1 FrM.rf S)⟩)
theorem L_1117 (hL : E.2.2.2.2 ≤ 2147483647) (hx : 0 ≤ x3) (hy : x3 + 5 < (E.2.2.2.2 : Int)) (hk9 : k ≤ 599) (L : LJ k τ) (K : ∀ τ', LJ (k + 1) τ' → VL E qL_law 1417 [some (vR 1), some (vR 2), some (vR 140), some (vI x3)] [] τ' Q) : VL E qL_law 1117 [some (vR 1), some (vR 2), some (vR 140), some (vI x3)] [] τ Q := by
  obtain ⟨h, b, α, I, H, M, S⟩ := L
  have w := I.1
  have hk : k ≤ 600 := by omega
  refine bL_law_1117 hL ⟨by omega, by omega, by omega, by omega, by omega, by omega, ?_⟩
  refine c_right (d := 95) w H (S _) (S _) (S _) (fun τ1 H1 F1 => ⟨_, rfl, by omega, by omega, by omega, by omega, by omega, by omega, ?_⟩)
  rw [F1 1 (by omega)]
  exact m_right (d := 97) w (M.fc F1) (S _) (S _) (S _) (⟨_, rfl, rfl, K _ (LJ.mk (I.up (by omega)) (H1.up (by omega)) (M.fc F1) F1 FrM.rf S)⟩)
theorem L_1160 (hL : E.2.2.2.2 ≤ 2147483647) (hx : 0 ≤ x3) (hy : x3 + 5 < (E.2.2.2.2 : Int)) (hk9 : k ≤ 599) (L : LJ k τ) (K : ∀ τ', LJ (k + 1) τ' → VL E qL_law 1417 [some (vR 1), some (vR 2), some (vR 140), some (vI x3)] [] τ' Q) : VL E qL_law 1160 [some (vR 1), some (vR 2), some (vR 140), some (vI x3)] [] τ Q := by
  obtain ⟨h, b, α, I, H, M, S⟩ := L
  have w := I.1
  have hk : k ≤ 600 := by omega
  refine bL_law_1160 hL ⟨by omega, by omega, by omega, by omega, by omega, by omega, ?_⟩
  refine c_same (d := 97) hk w H (S _) (S _) (S _) (fun τ1 H1 F1 => ⟨_, rfl, by omega, by omega, by omega, by omega, by omega, by omega, ?_⟩)
  rw [F1 1 (by omega)]
  exact m_same (d := 98) w (M.fc F1) (S _) (S _) (S _) (⟨_, rfl, rfl, K _ (LJ.mk (I.up (by omega)) (H1.up (by omega)) (M.fc F1) F1 FrM.rf S)⟩)
theorem L_1203 (hL : E.2.2.2.2 ≤ 2147483647) (hx : 0 ≤ x3) (hy : x3 + 5 < (E.2.2.2.2 : Int)) (hk9 : k ≤ 599) (L : LJ k τ) (K : ∀ τ', LJ (k + 1) τ' → VL E qL_law 1417 [some (vR 1), some (vR 2), some (vR 140), some (vI x3)] [] τ' Q) : VL E qL_law 1203 [some (vR 1), some (vR 2), some (vR 140), some (vI x3)] [] τ Q := by
  obtain ⟨h, b, α, I, H, M, S⟩ := L
  have w := I.1
  have hk : k ≤ 600 := by omega
  refine bL_law_1203 hL ⟨by omega, by omega, by omega, by omega, by omega, by omega, ?_⟩
  refine c_tells (d := 98) w H (S _) (S _) (S _) (⟨_, rfl, by omega, by omega, by omega, by omega, by omega, by omega, ?_⟩)
  exact m_tells (d := 98) w M (S _) (S _) (S _) (⟨_, rfl, rfl, K _ (LJ.mk (I.up (by omega)) (H.up (by omega)) M FrC.rf FrM.rf S)⟩)
theorem L_1246 (hL : E.2.2.2.2 ≤ 2147483647) (hx : 0 ≤ x3) (hy : x3 + 5 < (E.2.2.2.2 : Int)) (hk9 : k ≤ 599) (L : LJ k τ) (K : ∀ τ', LJ (k + 1) τ' → VL E qL_law 1417 [some (vR 1), some (vR 2), some (vR 140), some (vI x3)] [] τ' Q) : VL E qL_law 1246 [some (vR 1), some (vR 2), some (vR 140), some (vI x3)] [] τ Q := by
  obtain ⟨h, b, α, I, H, M, S⟩ := L
  have w := I.1
  have hk : k ≤ 600 := by omega
  refine bL_law_1246 hL ⟨by omega, by omega, by omega, by omega, by omega, by omega, by omega, by omega, ?_⟩
  refine c_bird (d := 93) w hk9 H (S _) (S _) (S _) (S _) (fun τ1 H1 F1 => ⟨_, rfl, by omega, by omega, by omega, by omega, by omega, by omega, by omega, by omega, ?_⟩)
  rw [F1 1 (by omega)]
  exact m_bird (d := 93) w (M.fc F1) (S _) (S _) (S _) (S _) (fun τ2 M2 F2 => ⟨_, rfl, rfl, K _ (LJ.mk (I.up (by omega)) H1 M2 F1 F2 S)⟩)
theorem L_1299 (hL : E.2.2.2.2 ≤ 2147483647) (hx : 0 ≤ x3) (hy : x3 + 5 < (E.2.2.2.2 : Int)) (hk9 : k ≤ 599) (L : LJ k τ) (K : ∀ τ', LJ (k + 1) τ' → VL E qL_law 1417 [some (vR 1), some (vR 2), some (vR 140), some (vI x3)] [] τ' Q) : VL E qL_law 1299 [some (vR 1), some (vR 2), some (vR 140), some (vI x3)] [] τ Q := by
  obtain ⟨h, b, α, I, H, M, S⟩ := L
  have w := I.1
  have hk : k ≤ 600 := by omega
  refine bL_law_1299 hL ⟨by omega, by omega, ?_⟩
  refine c_nights (d := 92) w hk9 H (S _) (fun τ1 H1 F1 => ⟨_, rfl, by omega, by omega, ?_⟩)
  rw [F1 1 (by omega)]
  exact m_nights (d := 92) w hk9 (M.fc F1) (S _) (fun τ2 M2 F2 => ⟨_, rfl, rfl, K _ (LJ.mk I.nights H1 M2 F1 F2 S)⟩)
theorem L_1322 (hL : E.2.2.2.2 ≤ 2147483647) (hx : 0 ≤ x3) (hy : x3 + 5 < (E.2.2.2.2 : Int)) (hk9 : k ≤ 599) (L : LJ k τ) (K : ∀ τ', LJ (k + 1) τ' → VL E qL_law 1417 [some (vR 1), some (vR 2), some (vR 140), some (vI x3)] [] τ' Q) : VL E qL_law 1322 [some (vR 1), some (vR 2), some (vR 140), some (vI x3)] [] τ Q := by
  obtain ⟨h, b, α, I, H, M, S⟩ := L
  have w := I.1
  have hk : k ≤ 600 := by omega
  refine bL_law_1322 hL ⟨by omega, by omega, ?_⟩
  refine c_seed (d := 100) hk w H (S _) (fun τ1 H1 F1 => ⟨_, rfl, by omega, by omega, ?_⟩)
  rw [F1 1 (by omega)]
  exact m_seed (d := 99) hk w (M.fc F1) (S _) (fun τ2 M2 F2 => ⟨_, rfl, rfl, K _ (LJ.mk (I.seed_ (S _)) (H1.up (by omega)) M2 F1 F2 S)⟩)
theorem L_1345 (hL : E.2.2.2.2 ≤ 2147483647) (hx : 0 ≤ x3) (hy : x3 + 5 < (E.2.2.2.2 : Int)) (hk9 : k ≤ 599) (L : LJ k τ) (K : ∀ τ', LJ (k + 1) τ' → VL E qL_law 1417 [some (vR 1), some (vR 2), some (vR 140), some (vI x3)] [] τ' Q) : VL E qL_law 1345 [some (vR 1), some (vR 2), some (vR 140), some (vI x3)] [] τ Q := by
  obtain ⟨h, b, α, I, H, M, S⟩ := L
  have w := I.1
  have hk : k ≤ 600 := by omega
  refine bL_law_1345 hL ?_
  refine c_image (d := 98) w H (fun τ1 H1 F1 => ⟨_, rfl, ?_⟩)
  exact m_image (d := 98) w I.2.2 (M.fc F1) (fun τ2 M2 F2 => ⟨_, rfl, rfl, K _ (LJ.mk I.img (H1.up (by omega)) M2 F1 F2 S)⟩)
theorem L_1358 (hL : E.2.2.2.2 ≤ 2147483647) (hx : 0 ≤ x3) (hy : x3 + 5 < (E.2.2.2.2 : Int)) (hk9 : k ≤ 599) (L : LJ k τ) (K : ∀ τ', LJ (k + 1) τ' → VL E qL_law 1417 [some (vR 1), some (vR 2), some (vR 140), some (vI x3)] [] τ' Q) : VL E qL_law 1358 [some (vR 1), some (vR 2), some (vR 140), some (vI x3)] [] τ Q := by
  obtain ⟨h, b, α, I, H, M, S⟩ := L
  have w := I.1
  have hk : k ≤ 600 := by omega
  refine bL_law_1358 hL ⟨by omega, by omega, ?_⟩
  refine c_octet (d := 100) w H (S _) (⟨_, rfl, by omega, by omega, ?_⟩)
  exact m_octet (d := 100) w M (S _) (⟨_, rfl, rfl, K _ (LJ.mk (I.up (by omega)) (H.up (by omega)) M FrC.rf FrM.rf S)⟩)
theorem L_1381 (hL : E.2.2.2.2 ≤ 2147483647) (hx : 0 ≤ x3) (hy : x3 + 5 < (E.2.2.2.2 : Int)) (hk9 : k ≤ 599) (L : LJ k τ) (K : ∀ τ', LJ (k + 1) τ' → VL E qL_law 1417 [some (vR 1), some (vR 2), some (vR 140), some (vI x3)] [] τ' Q) : VL E qL_law 1381 [some (vR 1), some (vR 2), some (vR 140), some (vI x3)] [] τ Q := by
  obtain ⟨h, b, α, I, H, M, S⟩ := L
  have w := I.1
  have hk : k ≤ 600 := by omega
  refine bL_law_1381 hL ?_
  by_cases q : onP α
  · refine c_on (d := 97) hk w I.2.2 H (fun _ τ1 H1 F1 => ⟨_, rfl, ?_⟩) (fun z => absurd q z)
    exact m_on (d := 96) hk w I.2.2 (M.fc F1) (fun _ τ2 M2 F2 => ⟨_, rfl, rfl, K τ2 (LJ.mk (I.on_ q) (H1.up (by omega)) M2 F1 F2 S)⟩) (fun z => absurd q z)
  · refine c_on (d := 97) hk w I.2.2 H (fun z => absurd z q) (fun _ τ1 H1 F1 => ⟨_, rfl, ?_⟩)
    exact m_on (d := 96) hk w I.2.2 (M.fc F1) (fun z => absurd z q) (fun _ τ2 M2 F2 => ⟨_, rfl, rfl, K τ2 (LJ.mk I.onF (H1.up (by omega)) M2 F1 F2 S)⟩)
theorem L_1394 (hL : E.2.2.2.2 ≤ 2147483647) (hx : 0 ≤ x3) (hy : x3 + 5 < (E.2.2.2.2 : Int)) (hk9 : k ≤ 599) (L : LJ k τ) (K : ∀ τ', LJ (k + 1) τ' → VL E qL_law 1417 [some (vR 1), some (vR 2), some (vR 140), some (vI x3)] [] τ' Q) : VL E qL_law 1394 [some (vR 1), some (vR 2), some (vR 140), some (vI x3)] [] τ Q := by
  obtain ⟨h, b, α, I, H, M, S⟩ := L
  have w := I.1
  have hk : k ≤ 600 := by omega
  refine bL_law_1394 hL ⟨by omega, by omega, ?_⟩
  refine c_status (d := 100) H (S _) (⟨_, rfl, by omega, by omega, ?_⟩)
  exact m_status (d := 99) M (S _) (⟨_, rfl, rfl, K _ (LJ.mk (I.up (by omega)) (H.up (by omega)) M FrC.rf FrM.rf S)⟩)
end Loop
