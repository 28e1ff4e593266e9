/-! nights -/
def sdN (s : Int) : Int := (1103515245 * s + 12345) % 2147483648
theorem sdN_r (s : Int) : 0 ≤ sdN s ∧ sdN s ≤ 2147483647 := by unfold sdN; omega
theorem land31 {x : Int} (h0 : 0 ≤ x) (h1 : x < 9223372036854775808) : mm_land x 2147483647 = x % 2147483648 := by
  unfold mm_land
  obtain ⟨n, hn⟩ : ∃ n : Nat, x = (n : Int) := ⟨x.toNat, by omega⟩
  subst hn
  have e : (Int64.ofInt (n : Int) &&& Int64.ofInt 2147483647) = Int64.ofInt ((n % 2147483648 : Nat) : Int) := by
    apply Int64.toBitVec.inj
    rw [Int64.toBitVec_and, Int64.toBitVec_ofInt, Int64.toBitVec_ofInt, Int64.toBitVec_ofInt, BitVec.ofInt_natCast, BitVec.ofInt_natCast, show BitVec.ofInt 64 2147483647 = BitVec.ofNat 64 2147483647 from rfl, ← BitVec.ofNat_and]
    rw [show (2147483647 : Nat) = 2 ^ 31 - 1 from rfl, Nat.and_two_pow_sub_one_eq_mod]
  rw [e, Int64.toInt_ofInt_of_le (by omega) (by omega)]
  omega
/-- the seed and a count new -/
def stN (α : mm_Mem) (p : Nat) (s v : Int) : mm_Mem := wr (wr α 0 13 s) 12 p v
theorem stN_o {α : mm_Mem} {p j : Nat} {s v : Int} (h0 : j ≠ 0) (h1 : j ≠ 12) : stN α p s v j = α j := by unfold stN; rw [wr_obj h1, wr_obj h0]
theorem stN_i {α : mm_Mem} {p i : Nat} {s v : Int} (h0 : i ≠ 13) : stN α p s v 0 i = α 0 i := by unfold stN; rw [wr_obj (by omega), wr_row h0]
theorem stN_s {α : mm_Mem} {p : Nat} {s v : Int} : stN α p s v 0 13 = s ∧ stN α p s v 12 p = v := by unfold stN; exact ⟨by rw [wr_obj (by omega), wr_same], wr_same⟩
theorem stN_n {α : mm_Mem} {p i : Nat} {s v : Int} (h : i ≠ p) : stN α p s v 12 i = α 12 i := by unfold stN; rw [wr_row h, wr_obj (by omega)]
theorem wr_id {α : mm_Mem} {o i : Nat} : wr α o i (α o i) = α := by
  funext x y
  by_cases e : x = o
  · subst e
    by_cases z : y = i
    · subst z; rw [wr_same]
    · rw [wr_row z]
  · rw [wr_obj e]
theorem wr_wr {α : mm_Mem} {o i : Nat} {u v : Int} : wr (wr α o i u) o i v = wr α o i v := by
  funext x y
  by_cases e : x = o
  · subst e
    by_cases z : y = i
    · subst z; rw [wr_same, wr_same]
    · rw [wr_row z, wr_row z, wr_row z]
  · rw [wr_obj e, wr_obj e, wr_obj e]
theorem wr_cm {α : mm_Mem} {o i o' i' : Nat} {u v : Int} (h : o ≠ o') : wr (wr α o i u) o' i' v = wr (wr α o' i' v) o i u := by
  funext x y
  by_cases e : x = o'
  · subst e
    by_cases z : y = i'
    · subst z; rw [wr_same, wr_obj (by omega), wr_same]
    · rw [wr_row z, wr_obj (by omega), wr_obj (by omega), wr_row z]
  · rw [wr_obj e]
    by_cases e2 : x = o
    · subst e2
      by_cases z : y = i
      · subst z; rw [wr_same, wr_same]
      · rw [wr_row z, wr_row z, wr_obj e]
    · rw [wr_obj e2, wr_obj e2, wr_obj e]
theorem stN_0 {α : mm_Mem} {p : Nat} : stN α p (α 0 13) (α 12 p) = α := by
  unfold stN; rw [wr_id, wr_id]
theorem stN_sd {α : mm_Mem} {p : Nat} {s v s' : Int} : wr (stN α p s v) 0 13 s' = stN α p s' v := by
  unfold stN; rw [wr_cm (by omega), wr_wr]
theorem stN_ct {α : mm_Mem} {p : Nat} {s v v' : Int} : wr (stN α p s v) 12 p v' = stN α p s v' := by
  unfold stN; rw [wr_wr]
theorem WF.sd {k : Nat} {α : mm_Mem} {s : Int} (w : WF k α) (hs : 0 ≤ s ∧ s ≤ 2147483647) : WF k (wr α 0 13 s) := by
  have w1 := w.1
  refine w.most (Nat.le_refl _) (fun i _ _ => by rw [wr_row (by omega)]) (fun j _ _ => wr_obj (by omega)) ?_ ?_ ?_ ?_
  · rw [wr_row (by omega), wr_row (by omega), wr_row (by omega), wr_obj (by omega)]; exact w1
  · rw [wr_same]; exact hs
  · rw [wr_row (by omega), wr_obj (by omega)]; exact w.2.2.2.2.2.2.2.2
  · rw [wr_obj (by omega)]; exact w.2.2.2.2.2.1.2.2
theorem WF.stN {k p : Nat} {α : mm_Mem} {s v : Int} (w : WF k α) (hs : 0 ≤ s ∧ s ≤ 2147483647) (hv : 0 ≤ v ∧ v ≤ 1000) : WF k (stN α p s v) := (w.sd hs).cnt1 hv
theorem RepC.sd {k h : Nat} {α τ : mm_Mem} {s : Int} (w : WF k α) (H : RepC k h α τ) : RepC k h (wr α 0 13 s) (wr τ 2 14 s) := by
  have hw := w.le
  refine H.most ⟨hw.1, hw.2.1, hw.2.2.1⟩ (fun i _ _ => by rw [wr_row (by omega)]) (fun j _ _ => wr_obj (by omega)) ⟨by rw [wr_row (by omega)], by rw [wr_row (by omega)]⟩ (fun o _ _ => wr_obj (by omega)) (fun o _ _ => wr_obj (by omega)) ⟨wr_obj (by omega), by rw [wr_obj (by omega)], wr_obj (by omega)⟩ ?_ ?_ ?_ ?_ ?_
  · exact H.1.cg (by rw [wr_row (by omega)]) (wr_obj (by omega)) (by rw [wr_row (by omega)]) (wr_obj (by omega))
  · exact H.2.1.cg (by rw [wr_row (by omega)]) (by rw [wr_row (by omega)]) (by rw [wr_obj (by omega)]) (by rw [wr_obj (by omega)])
  · rw [wr_same, wr_same]
  · exact H.2.2.2.2.2.2.2.2.2.1.cg (by rw [wr_row (by omega)]) (wr_obj (by omega)) (by rw [wr_row (by omega)]) (wr_obj (by omega))
  · exact H.2.2.2.2.2.2.2.2.2.2.1.cg (wr_obj (by omega)) (wr_obj (by omega))
theorem RepM.sd {b : Nat} {α τ : mm_Mem} {s : Int} (H : RepM b α τ) : RepM b (wr α 0 13 s) (wr τ 140 71 s) := by
  refine H.most (fun i _ _ => by rw [wr_row (by omega)]) (fun j _ _ => wr_obj (by omega)) (by rw [wr_row (by omega)]) (fun o _ _ => wr_obj (by omega)) (fun o _ _ => wr_obj (by omega)) ?_ ?_ ?_ ?_ ?_
  · rw [wr_row (by omega), wr_row (by omega), wr_obj (by omega), wr_obj (by omega)]; exact H.2.1
  · rw [wr_row (by omega), wr_row (by omega), wr_row (by omega), wr_row (by omega)]; exact H.2.2.1
  · rw [wr_same, wr_same]
  · rw [wr_row (by omega), wr_row (by omega), wr_obj (by omega), wr_obj (by omega)]; exact H.2.2.2.2.2.2.2.2.2.2.1
  · rw [wr_obj (by omega), wr_obj (by omega)]; exact H.2.2.2.2.2.2.2.2.2.2.2
section Night
variable {E : mm_Env} {d k h b : Nat} {α τ : mm_Mem} {Q : mm_Q0}
theorem dr_r {s n : Int} (hn : 1 ≤ n) : 0 ≤ sdN s / 64 % n ∧ sdN s / 64 % n < n := ⟨Int.emod_nonneg _ (by omega), Int.emod_lt_of_pos _ (by omega)⟩
theorem c_draw {n : Int} (w : WF k α) (H : RepC k h α τ) (hn : inR n) (h1 : 1 ≤ n) (k1 : ∀ τ', RepC k h (wr α 0 13 (sdN (α 0 13))) τ' → FrC τ τ' → Q (some (vI (sdN (α 0 13) / 64 % n))) τ') : M0 E d qX10_draw [vR 2, vI n] τ Q := by
  have es : τ 2 14 = α 0 13 := H.2.2.2.2.2.2.2.2.1
  have ws := w.2.2.2.2.2.2.2.1
  have e : mm_land (1103515245 * τ 2 14 + 12345) 2147483647 = sdN (α 0 13) := by rw [es, land31 (by omega) (by omega)]; rfl
  have r := sdN_r (α 0 13)
  have r2 := dr_r (s := α 0 13) h1
  have hn2 := hn.2
  have t1 : Int.tdiv (sdN (α 0 13)) 64 = sdN (α 0 13) / 64 := Int.tdiv_eq_ediv_of_nonneg (by omega)
  have t2 : Int.tmod (sdN (α 0 13) / 64) n = sdN (α 0 13) / 64 % n := tm_pos (by omega)
  refine mX10_draw ?_
  rw [e, t1, t2]
  exact ⟨hn, fun _ => ⟨⟨by omega, by omega⟩, ⟨by omega, by omega⟩, by omega, ⟨by omega, by omega⟩, k1 _ (H.sd w) (FrC.rf.w1 (by omega))⟩, fun q => absurd h1 q⟩
theorem m_drawn {n : Int} (w : WF k α) (H : RepM b α τ) (hn : inR n) (h1 : 1 ≤ n) (k1 : ∀ τ', RepM b (wr α 0 13 (sdN (α 0 13))) τ' → (∀ o, o ≠ 140 → τ' o = τ o) → (∀ j, j ≠ 71 → τ' 140 j = τ 140 j) → Q (some (vI (sdN (α 0 13) / 64 % n))) τ') : M0 E d qX11_drawn [vR 140, vI n] τ Q := by
  have es : τ 140 71 = α 0 13 := H.2.2.2.2.2.2.2.2.2.1
  have ws := w.2.2.2.2.2.2.2.1
  have r := sdN_r (α 0 13)
  have r2 := dr_r (s := α 0 13) h1
  have hn2 := hn.2
  have e : Int.tmod (1103515245 * τ 140 71 + 12345) 2147483648 = sdN (α 0 13) := by rw [es, tm_pos (by omega)]; rfl
  have t1 : Int.tdiv (sdN (α 0 13)) 64 = sdN (α 0 13) / 64 := Int.tdiv_eq_ediv_of_nonneg (by omega)
  have t2 : Int.tmod (sdN (α 0 13) / 64) n = sdN (α 0 13) / 64 % n := tm_pos (by omega)
  refine mX11_drawn ?_
  rw [e, t1, t2]
  refine ⟨by rw [es]; exact ⟨by omega, by omega⟩, ⟨by omega, by omega⟩, hn, ⟨by omega, by omega⟩, by omega, ⟨by omega, by omega⟩, k1 _ H.sd (fun o ho => wr_obj ho) (fun j hj => wr_row hj)⟩
end Night
/-- who comes this night, and what happens -/
def ngP (α : mm_Mem) : Nat := (sdN (α 0 13) / 64 % α 0 7).toNat
def ngW (α : mm_Mem) : Bool := decide (sdN (sdN (α 0 13)) / 64 % 100 < α 10 (ngP α))
def ngE (α : mm_Mem) : Bool := decide (sdN (sdN (sdN (α 0 13))) / 64 % 100 < α 11 (ngP α))
def ng4 (α : mm_Mem) : Int := sdN (sdN (sdN (sdN (α 0 13))))
def ngS (α : mm_Mem) : Int := if ngE α = true then sdN (ng4 α) else sdN (sdN (sdN (α 0 13)))
def ngV (α : mm_Mem) : Int := if ngW α = true ∧ α 12 (ngP α) < 1000 then α 12 (ngP α) + 1 else α 12 (ngP α)
def ng2 (α : mm_Mem) : mm_Mem := stN α (ngP α) (ngS α) (ngV α)
def ngF (α : mm_Mem) : Nat → Nat := if ngE α = true then tp_up (wpA α (α 9 (ngP α)).toNat (ngV α).toNat) (ng4 α / 64 % α 0 4).toNat (((wpA α (α 9 (ngP α)).toNat (ngV α).toNat (ng4 α / 64 % α 0 4).toNat : Int) + (sdN (ng4 α) / 64 % (α 0 3 - 1) + 1)) % α 0 3).toNat else wpA α (α 9 (ngP α)).toNat (ngV α).toNat
def ngA (α : mm_Mem) : mm_Mem := if ngV α < 1000 then cmA (ng2 α) (ngP α) (ngF α) else ng2 α
def ngB (α : mm_Mem) : Bool := decide (ngV α < 1000) && decide (cmR (ng2 α) (ngP α) (ngF α) ≠ -1)
section Night2
variable {E : mm_Env} {d k h b : Nat} {α τ : mm_Mem} {Q : mm_Q0}
theorem ngP_r (w : WF k α) (h7 : α 0 7 ≠ 0) : (ngP α : Int) = sdN (α 0 13) / 64 % α 0 7 ∧ (ngP α : Int) < α 0 7 := by
  have hw := w.le
  have r := dr_r (s := α 0 13) (n := α 0 7) (by omega)
  unfold ngP
  omega
theorem ngV_r (w : WF k α) (h7 : α 0 7 ≠ 0) : 0 ≤ ngV α ∧ ngV α ≤ 1000 := by
  have wp := w.2.2.2.1 _ (ngP_r w h7).2
  unfold ngV
  split <;> omega
theorem ngS_r : 0 ≤ ngS α ∧ ngS α ≤ 2147483647 := by
  unfold ngS
  split <;> exact sdN_r _
theorem WF.ng2 (w : WF k α) (h7 : α 0 7 ≠ 0) : WF k (ng2 α) := w.stN ngS_r (ngV_r w h7)
theorem wp_st {t n p : Nat} {s v : Int} : wpA (stN α p s v) t n = wpA α t n := by
  funext i
  unfold wpA wnA
  rw [stN_i (by omega), stN_o (by omega) (by omega)]
theorem ngF_ok (w : WF k α) (h7 : α 0 7 ≠ 0) (hv : ngV α < 1000) : tp_ok (ngF α) ∧ fvA α (ngF α) := by
  have wp := w.2.2.2.1 _ (ngP_r w h7).2
  have vr := ngV_r w h7
  have w3 := w.tune (t := (α 9 (ngP α)).toNat) (by omega)
  have o1 := wpA_ok w (t := (α 9 (ngP α)).toNat) (n := (ngV α).toNat) (by omega) (by omega)
  have o2 := fv_wp w (t := (α 9 (ngP α)).toNat) (n := (ngV α).toNat) (by omega) (by omega)
  unfold ngF
  split
  · have r1 := dr_r (s := sdN (sdN (sdN (α 0 13)))) (n := α 0 4) (by omega)
    have e4 : sdN (sdN (sdN (sdN (α 0 13)))) = ng4 α := rfl
    rw [e4] at r1
    generalize ((wpA α (α 9 (ngP α)).toNat (ngV α).toNat (ng4 α / 64 % α 0 4).toNat : Int) + (sdN (ng4 α) / 64 % (α 0 3 - 1) + 1)) = z
    have r2 : 0 ≤ z % α 0 3 ∧ z % α 0 3 < α 0 3 := ⟨Int.emod_nonneg _ (by omega), Int.emod_lt_of_pos _ (by omega)⟩
    exact ⟨tp_up_ok o1 (by omega), fv_up o2 (by omega) (by omega)⟩
  · exact ⟨o1, o2⟩
end Night2
