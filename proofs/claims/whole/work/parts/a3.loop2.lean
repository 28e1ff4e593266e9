/-! the law: the loop, to its end -/
section Loop2
variable {E : mm_Env} {Q : mm_Q0}
theorem LJ.up {k : Nat} {τ : mm_Mem} (L : LJ k τ) : LJ (k + 1) τ := by
  obtain ⟨h, b, α, I, H, M, S⟩ := L
  exact ⟨h, b, α, I.up (by omega), H.up (by omega), M, S⟩
theorem L_loop (hE : E.2.2.2.2 ≤ 3072) (k1 : ∀ τ', Q (some (vB true)) τ') : ∀ (c k : Nat) (τ : mm_Mem), k + c = 513 → LJ k τ → VL E qL_law 18 [some (vR 1), some (vR 2), some (vR 140), some (vI (6 * (k : Int)))] [] τ Q
  | 0, k, τ, e, L => bL_law_18 (by omega) ⟨⟨by omega, by omega⟩, ⟨by omega, by omega⟩, fun _ => k1 τ, fun q => by omega⟩
  | c + 1, k, τ, e, L => by
    have hL : E.2.2.2.2 ≤ 2147483647 := by omega
    have K : ∀ τ', LJ (k + 1) τ' → VL E qL_law 1417 [some (vR 1), some (vR 2), some (vR 140), some (vI (6 * (k : Int)))] [] τ' Q := fun τ' L' => by
      refine bL_law_1417 hL ?_
      rw [show 6 * (k : Int) + 6 = 6 * ((k + 1 : Nat) : Int) by omega]
      exact L_loop hE k1 c (k + 1) τ' (by omega) L'
    refine bL_law_18 hL ⟨⟨by omega, by omega⟩, ⟨by omega, by omega⟩, fun _ => k1 τ, fun q => ?_⟩
    have hx : 0 ≤ 6 * (k : Int) := by omega
    have hy : 6 * (k : Int) + 5 < (E.2.2.2.2 : Int) := by omega
    have hk : k ≤ 599 := by omega
    refine ⟨hx, by omega, zm_inR _, fun _ => K τ L.up, fun _ => L_200 hL hx hy hk L K, fun _ => L_263 hL hx hy hk L K, fun _ => L_286 hL hx hy hk L K, fun _ => L_299 hL hx hy hk L K, fun _ => L_322 hL hx hy hk L K, fun _ => L_345 hL hx hy hk L K, fun _ => L_388 hL hx hy hk L K, fun _ => L_421 hL hx hy hk L K, fun _ => L_454 hL hx hy hk L K, fun _ => L_497 hL hx hy hk L K, fun _ => L_530 hL hx hy hk L K, fun _ => L_573 hL hx hy hk L K, fun _ => L_616 hL hx hy hk L K, fun _ => L_639 hL hx hy hk L K, fun _ => L_682 hL hx hy hk L K, fun _ => L_715 hL hx hy hk L K, fun _ => L_738 hL hx hy hk L K, fun _ => L_771 hL hx hy hk L K, fun _ => L_794 hL hx hy hk L K, fun _ => L_817 hL hx hy hk L K, fun _ => L_840 hL hx hy hk L K, fun _ => L_874 hL hx hy hk L K, fun _ => L_908 hL hx hy hk L K, fun _ => L_931 hL hx hy hk L K, fun _ => L_965 hL hx hy hk L K, fun _ => L_988 hL hx hy hk L K, fun _ => L_1041 hL hx hy hk L K, fun _ => L_1084 hL hx hy hk L K, fun _ => L_1117 hL hx hy hk L K, fun _ => L_1160 hL hx hy hk L K, fun _ => L_1203 hL hx hy hk L K, fun _ => L_1246 hL hx hy hk L K, fun _ => L_1299 hL hx hy hk L K, fun _ => L_1322 hL hx hy hk L K, fun _ => L_1345 hL hx hy hk L K, fun _ => L_1358 hL hx hy hk L K, fun _ => L_1381 hL hx hy hk L K, fun _ => L_1394 hL hx hy hk L K⟩
end Loop2
