/-! what the Statement gives of the start: the String constant, the two static fields -/
def naV : Term := .field (.string "TuneDoor$Tokens" 24) "java/lang/String" "value" "[B"
theorem na_el : (flatC (Jvm.Cond.and given_1 narrow_1)).drop 13 = (List.range 147).map (fun j => Cond.eq (.elem naV (.int (Int32.ofNat j))) (.int (stBy.getD j 0))) := by decide +kernel
theorem na_ex : Cond.exactly (.string "TuneDoor$Tokens" 24) "java/lang/String" ∈ flatC (Jvm.Cond.and given_1 narrow_1) := by decide +kernel
theorem na_co : Cond.eq (.field (.string "TuneDoor$Tokens" 24) "java/lang/String" "coder" "B") (.int 0) ∈ flatC (Jvm.Cond.and given_1 narrow_1) := by decide +kernel
theorem na_ar : Cond.arrayOf naV .byte ∈ flatC (Jvm.Cond.and given_1 narrow_1) := by decide +kernel
theorem na_le : Cond.eq (.length naV) (.int 147) ∈ flatC (Jvm.Cond.and given_1 narrow_1) := by decide +kernel
theorem na_cs : Cond.eq (.static "java/lang/String" "COMPACT_STRINGS" "Z") (.int 1) ∈ flatC (Jvm.Cond.and given_1 narrow_1) := by decide +kernel
theorem na_fo : Cond.isRef (.static "jdk/internal/util/Preconditions" "SIOOBE_FORMATTER" "Ljava/util/function/BiFunction;") ∈ flatC (Jvm.Cond.and given_1 narrow_1) := by decide +kernel
theorem na_w251 : Cond.stringRef "TuneDoor$Tokens" 24 stT ∈ lw_tbl := (List.mem_append_right _ (List.mem_of_getElem? (i := 251) (by decide +kernel)))
theorem na_w261 : Cond.laysStatic "java/lang/String" "COMPACT_STRINGS" "Z" ∈ lw_tbl := (List.mem_append_right _ (List.mem_of_getElem? (i := 261) (by decide +kernel)))
theorem na_w277 : Cond.laysStatic "jdk/internal/util/Preconditions" "SIOOBE_FORMATTER" "Ljava/util/function/BiFunction;" ∈ lw_tbl := (List.mem_append_right _ (List.mem_of_getElem? (i := 277) (by decide +kernel)))
theorem na_w7 : Cond.initialized "java/lang/String" ∈ lw_tbl := (List.mem_append_right _ (List.mem_of_getElem? (i := 7) (by decide +kernel)))
theorem na_w9 : Cond.initialized "jdk/internal/util/Preconditions" ∈ lw_tbl := (List.mem_append_right _ (List.mem_of_getElem? (i := 9) (by decide +kernel)))
theorem na_w35 : Cond.arrayOver (.object "TuneDoor$Door") ∈ lw_tbl := (List.mem_append_right _ (List.mem_of_getElem? (i := 35) (by decide +kernel)))
theorem na_w37 : Cond.arrayOver (.object "TuneDoor$Person") ∈ lw_tbl := (List.mem_append_right _ (List.mem_of_getElem? (i := 37) (by decide +kernel)))
theorem na_w370 : Cond.arrayOver (.array .int) ∈ lw_tbl := (List.mem_append_right _ (List.mem_of_getElem? (i := 370) (by decide +kernel)))
theorem na_SF {b : Nat} {s : State} {E : mm_Env} (hE : E.2.2.2.1 = s.heap.size) (hts : ∀ w ∈ lw_tbl, w.before #[Value.ref b] s = true) (hgv : (Jvm.Cond.and given_1 narrow_1).before #[Value.ref b] s = true) : ∃ (a v : Nat) (r : Value), (r = .null ∨ ∃ t, r = .ref t) ∧ SF E a v r s := by
  have hs := flat_of_before _ hgv
  have hA : ∀ a : Nat, a < s.heap.size → ¬ mm_A E a := fun a h1 h2 => by
    have h3 : E.2.2.2.1 ≤ a := h2
    omega
  obtain ⟨adK, adV, hS, hev⟩ := vk_Sof (N := 1) (tm := fun _ => .string "TuneDoor$Tokens" 24) (len := [147]) (byt := [stBy]) (A := mm_A E) (s := s) (args := #[Value.ref b])
    (fun i hi => by
      have h9 : i = 0 := by omega
      subst h9
      exact (by decide : 147 < 2 ^ 31))
    (fun i _ => hs _ na_ex) (fun i _ => hs _ na_co) (fun i _ => hs _ na_ar)
    (fun i hi => by
      have h9 : i = 0 := by omega
      subst h9
      exact hs _ na_le)
    (fun i hi j hj => by
      have h9 : i = 0 := by omega
      subst h9
      have hm : Cond.eq (.elem naV (.int (Int32.ofNat j))) (.int (stBy.getD j 0)) ∈ (flatC (Jvm.Cond.and given_1 narrow_1)).drop 13 := by
        rw [na_el]
        exact List.mem_map.mpr ⟨j, List.mem_range.mpr hj, rfl⟩
      exact hs _ (List.mem_of_mem_drop hm))
    (fun i j hi hj hn => absurd (show i = j by omega) hn) hA
  have h0 := hS.1 0 (by omega)
  have z1 : va_Z "java/lang/String" "COMPACT_STRINGS" "Z" (.int 1) (mm_A E) s s.heap := va_Zof (hts _ na_w261) (hts _ na_w7) (va_eqt (hs _ na_cs)) hA
  have z2 := va_Zqof (hts _ na_w277) (hts _ na_w9) (hs _ na_fo) hA
  have h1 : vk_R "TuneDoor$Tokens" 24 stT (adK 0) s := vk_R.of (hts _ na_w251) (hev 0 (by omega))
  rcases z2 with z2 | ⟨t, z2⟩
  · exact ⟨adK 0, adV 0, .null, Or.inl rfl, h1, h0.1, h0.2.1, h0.2.2.1, h0.2.2.2, z1, z2⟩
  · exact ⟨adK 0, adV 0, .ref t, Or.inr ⟨t, rfl⟩, h1, h0.1, h0.2.1, h0.2.2.1, h0.2.2.2, z1, z2⟩
def xX (E : mm_Env) (a v : Nat) (r : Value) (s : State) : Prop := (va_AO "TuneDoor$Door" s ∧ va_AO "TuneDoor$Person" s ∧ (Cond.arrayOver (.array .int)).before #[] s = true) ∧ SF E a v r s
theorem xX.xo {E : mm_Env} {a v : Nat} {r : Value} : XO E (xX E a v r) := fun s U H locs hS hW hU h => ⟨⟨h.1.1.moved hW.alike, h.1.2.1.moved hW.alike, over_moved hW.alike h.1.2.2⟩, SF.xo s U H locs hS hW hU h.2⟩
