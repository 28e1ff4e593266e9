/-! one-instruction rows -/
section MmRaw
variable {p : Program} {l : Launch} {e : Env} {R : Room} {s : State} {m : MethodId} {args : Array Value} {below : List Frame} {meth : Method} {c : Code} {H : Heap} {locs : List Loc} {cells slots : Nat} {Q : State → Prop}
variable {cc : ByteArray} {pc : Nat} {ls : Array Slot} {rest : List Value}
theorem mm_isRef {E : mm_Env} {o : Nat} : (mm_up E (vR o)).isRef = true := by
  rcases mm_ref_or (E := E) (o := o) with h | ⟨a, h⟩ <;> simp [mm_up, h, Value.isRef]
theorem mm_aload_n (hexec : p.tables.exec = Jvm.exec) (hb : c.code = cc) {k : Fin 4} {i : Nat} {v : Value} (hdg : decode cc pc = .ok (.aload_n k, 1)) (hi : (k : Nat) = i) (hv : v.isRef = true) (hl : ls[i]? = some (.val v))
    (k : W p l e R s m args below meth c H locs cells slots Q (F0 m (pc + 1) ls (v :: rest))) : W p l e R s m args below meth c H locs cells slots Q (F0 m pc ls (rest)) := by
  subst hi
  intro T hT X
  obtain ⟨t, a, b⟩ := k T hT X
  refine ⟨t, ?_, b⟩
  cases v <;> simp [Value.isRef] at hv <;>
  (jvm_step X.here [X.here.top, hexec, hb, hdg, hl, Value.isRef]
   exact a)
theorem mm_aload (hexec : p.tables.exec = Jvm.exec) (hb : c.code = cc) {i : Nat} {v : Value} (hdg : decode cc pc = .ok (.aload i, 2)) (hv : v.isRef = true) (hl : ls[i]? = some (.val v))
    (k : W p l e R s m args below meth c H locs cells slots Q (F0 m (pc + 2) ls (v :: rest))) : W p l e R s m args below meth c H locs cells slots Q (F0 m pc ls (rest)) := by
  intro T hT X
  obtain ⟨t, a, b⟩ := k T hT X
  refine ⟨t, ?_, b⟩
  cases v <;> simp [Value.isRef] at hv <;>
  (jvm_step X.here [X.here.top, hexec, hb, hdg, hl, Value.isRef]
   exact a)
theorem mm_astore_n (hexec : p.tables.exec = Jvm.exec) (hb : c.code = cc) {k : Fin 4} {i nL : Nat} {x : Value} {lv lv' : List (Nat × Value)} (hdg : decode cc pc = .ok (.astore_n k, 1)) (hi : (k : Nat) = i) (hv : x.isRef = true) (hc : x.category = 1) (h : lv_has ls nL lv) (hn : i < nL) (hl : (i, x) :: lv.filter (fun q => !(q.1 == i) && !(q.1 + 1 == i && q.2.category == 2)) = lv')
    (kk : ∀ ls' : Array Slot, lv_has ls' nL lv' → W p l e R s m args below meth c H locs cells slots Q (F0 m (pc + 1) ls' rest)) : W p l e R s m args below meth c H locs cells slots Q (F0 m pc ls (x :: rest)) := by
  subst hi
  obtain ⟨ls', e', h'⟩ := lv_store1 (v := x) h hn hc
  intro T hT X
  obtain ⟨t, a, b⟩ := kk ls' (hl ▸ h') T hT X
  refine ⟨t, ?_, b⟩
  cases x <;> simp [Value.isRef] at hv <;>
  (jvm_step X.here [X.here.top, ↓top_set X.here.top, hexec, hb, hdg, e', Value.isRef]
   exact a)
theorem mm_astore (hexec : p.tables.exec = Jvm.exec) (hb : c.code = cc) {i nL : Nat} {x : Value} {lv lv' : List (Nat × Value)} (hdg : decode cc pc = .ok (.astore i, 2)) (hv : x.isRef = true) (hc : x.category = 1) (h : lv_has ls nL lv) (hn : i < nL) (hl : (i, x) :: lv.filter (fun q => !(q.1 == i) && !(q.1 + 1 == i && q.2.category == 2)) = lv')
    (kk : ∀ ls' : Array Slot, lv_has ls' nL lv' → W p l e R s m args below meth c H locs cells slots Q (F0 m (pc + 2) ls' rest)) : W p l e R s m args below meth c H locs cells slots Q (F0 m pc ls (x :: rest)) := by
  obtain ⟨ls', e', h'⟩ := lv_store1 (v := x) h hn hc
  intro T hT X
  obtain ⟨t, a, b⟩ := kk ls' (hl ▸ h') T hT X
  refine ⟨t, ?_, b⟩
  cases x <;> simp [Value.isRef] at hv <;>
  (jvm_step X.here [X.here.top, ↓top_set X.here.top, hexec, hb, hdg, e', Value.isRef]
   exact a)
theorem mm_ifnonnullN (hexec : p.tables.exec = Jvm.exec) (hb : c.code = cc) {off : Int} (hdg : decode cc pc = .ok (.ifnonnull off, 3)) (k : W p l e R s m args below meth c H locs cells slots Q (F0 m (pc + 3) ls rest)) : W p l e R s m args below meth c H locs cells slots Q (F0 m pc ls (.null :: rest)) := by
  intro T hT X
  obtain ⟨t, a, b⟩ := k T hT X
  refine ⟨t, ?_, b⟩
  jvm_step X.here [X.here.top, hexec, hb, hdg, Value.isRef]
  exact a
end MmRaw
theorem mm_toInt {a : Int} (h : inR a) : (Int32.ofInt a).toInt = a := Int32.toInt_ofInt_of_le (by have := h.1; omega) (by have := h.2; omega)
theorem mm_toIntL {a : Int} (h : inL a) : (Int64.ofInt a).toInt = a := Int64.toInt_ofInt_of_le (by have := h.1; omega) (by have := h.2; omega)
theorem mm_z0 : (0 : Int32).toInt = 0 := rfl
theorem mm_c2_eq {a b : Int} (ha : inR a) (hb : inR b) : Int32.ofInt a = Int32.ofInt b ↔ a = b := by rw [← Int32.toInt_inj, mm_toInt ha, mm_toInt hb]
theorem mm_c2_ne {a b : Int} (ha : inR a) (hb : inR b) : ¬ Int32.ofInt a = Int32.ofInt b ↔ a ≠ b := not_congr (mm_c2_eq ha hb)
theorem mm_c2_lt {a b : Int} (ha : inR a) (hb : inR b) : Int32.ofInt a < Int32.ofInt b ↔ a < b := by rw [Int32.lt_iff_toInt_lt, mm_toInt ha, mm_toInt hb]
theorem mm_c2_le {a b : Int} (ha : inR a) (hb : inR b) : Int32.ofInt a ≤ Int32.ofInt b ↔ a ≤ b := by rw [Int32.le_iff_toInt_le, mm_toInt ha, mm_toInt hb]
theorem mm_c2_ge {a b : Int} (ha : inR a) (hb : inR b) : Int32.ofInt b ≤ Int32.ofInt a ↔ b ≤ a := mm_c2_le hb ha
theorem mm_c2_gt {a b : Int} (ha : inR a) (hb : inR b) : Int32.ofInt b < Int32.ofInt a ↔ b < a := mm_c2_lt hb ha
theorem mm_r0 : inR 0 := ⟨by decide, by decide⟩
theorem mm_c0_eq {a : Int} (ha : inR a) : Int32.ofInt a = 0 ↔ a = 0 := mm_c2_eq ha mm_r0
theorem mm_c0_ne {a : Int} (ha : inR a) : ¬ Int32.ofInt a = 0 ↔ a ≠ 0 := mm_c2_ne ha mm_r0
theorem mm_c0_lt {a : Int} (ha : inR a) : Int32.ofInt a < 0 ↔ a < 0 := mm_c2_lt ha mm_r0
theorem mm_c0_le {a : Int} (ha : inR a) : Int32.ofInt a ≤ 0 ↔ a ≤ 0 := mm_c2_le ha mm_r0
theorem mm_c0_ge {a : Int} (ha : inR a) : 0 ≤ Int32.ofInt a ↔ 0 ≤ a := mm_c2_le mm_r0 ha
theorem mm_c0_gt {a : Int} (ha : inR a) : 0 < Int32.ofInt a ↔ 0 < a := mm_c2_lt mm_r0 ha
theorem mm_ne0 {b : Int} (hb : inR b) (h : b ≠ 0) : ¬ Int32.ofInt b = 0 := fun z => h ((mm_c0_eq hb).mp z)
theorem mm_lne0 {b : Int} (hb : inL b) (h : b ≠ 0) : ¬ Int64.ofInt b = 0 := fun z => h (by
  have e : (Int64.ofInt b).toInt = (0 : Int64).toInt := by rw [z]
  rw [mm_toIntL hb] at e
  exact e)
theorem mm_tmod (a b : Int) : a - a.tdiv b * b = a.tmod b := by
  have := Int.mul_tdiv_add_tmod a b
  rw [Int.mul_comm] at this
  omega
theorem mm_l2i {a : Int} (h : inL a) : (Int64.ofInt a).toInt32 = Int32.ofInt a := by rw [← Int32.ofInt_int64ToInt, mm_toIntL h]
def mm_cmp (a b : Int) : Int := if b < a then 1 else if a = b then 0 else -1
theorem mm_cmp_eq {a b : Int} (ha : inL a) (hb : inL b) : lg_cmp (Int64.ofInt a) (Int64.ofInt b) = Int32.ofInt (mm_cmp a b) := by
  unfold lg_cmp mm_cmp
  have e1 : (Int64.ofInt a > Int64.ofInt b) ↔ b < a := by rw [gt_iff_lt, Int64.lt_iff_toInt_lt, mm_toIntL ha, mm_toIntL hb]
  have e : Int64.ofInt a = Int64.ofInt b ↔ a = b := by rw [← Int64.toInt_inj, mm_toIntL ha, mm_toIntL hb]
  by_cases h1 : b < a
  · rw [if_pos (e1.mpr h1), if_pos h1]; rfl
  · rw [if_neg (fun z => h1 (e1.mp z)), if_neg h1]
    by_cases h2 : a = b
    · rw [if_pos (e.mpr h2), if_pos h2]; rfl
    · rw [if_neg (fun z => h2 (e.mp z)), if_neg h2]; rfl
def mm_and (a b : Int) : Int := (Int32.ofInt a &&& Int32.ofInt b).toInt
def mm_or (a b : Int) : Int := (Int32.ofInt a ||| Int32.ofInt b).toInt
def mm_xor (a b : Int) : Int := (Int32.ofInt a ^^^ Int32.ofInt b).toInt
def mm_shl (a b : Int) : Int := (Int32.ofInt a <<< (Int32.ofInt b &&& 31)).toInt
def mm_shr (a b : Int) : Int := (Int32.ofInt a >>> (Int32.ofInt b &&& 31)).toInt
def mm_ushr (a b : Int) : Int := (((Int32.ofInt a).toUInt32 >>> ((Int32.ofInt b).toUInt32 &&& Int32.toUInt32 31)).toInt32).toInt
def mm_land (a b : Int) : Int := (Int64.ofInt a &&& Int64.ofInt b).toInt
def mm_lor (a b : Int) : Int := (Int64.ofInt a ||| Int64.ofInt b).toInt
def mm_lushr (a b : Int) : Int := (((Int64.ofInt a).toUInt64 >>> ((Int32.ofInt b).toInt64.toUInt64 &&& Int64.toUInt64 63)).toInt64).toInt
def mm_lshl (a b : Int) : Int := (Int64.ofInt a <<< ((Int32.ofInt b).toInt64 &&& 63)).toInt
theorem mm_and_eq (a b : Int) : Int32.ofInt (mm_and a b) = Int32.ofInt a &&& Int32.ofInt b := Int32.ofInt_toInt _
theorem mm_or_eq (a b : Int) : Int32.ofInt (mm_or a b) = Int32.ofInt a ||| Int32.ofInt b := Int32.ofInt_toInt _
theorem mm_xor_eq (a b : Int) : Int32.ofInt (mm_xor a b) = Int32.ofInt a ^^^ Int32.ofInt b := Int32.ofInt_toInt _
theorem mm_shl_eq (a b : Int) : Int32.ofInt (mm_shl a b) = Int32.ofInt a <<< (Int32.ofInt b &&& 31) := Int32.ofInt_toInt _
theorem mm_shr_eq (a b : Int) : Int32.ofInt (mm_shr a b) = Int32.ofInt a >>> (Int32.ofInt b &&& 31) := Int32.ofInt_toInt _
theorem mm_ushr_eq (a b : Int) : Int32.ofInt (mm_ushr a b) = ((Int32.ofInt a).toUInt32 >>> ((Int32.ofInt b).toUInt32 &&& Int32.toUInt32 31)).toInt32 := Int32.ofInt_toInt _
theorem mm_land_eq (a b : Int) : Int64.ofInt (mm_land a b) = Int64.ofInt a &&& Int64.ofInt b := Int64.ofInt_toInt _
theorem mm_lor_eq (a b : Int) : Int64.ofInt (mm_lor a b) = Int64.ofInt a ||| Int64.ofInt b := Int64.ofInt_toInt _
theorem mm_lushr_eq (a b : Int) : Int64.ofInt (mm_lushr a b) = ((Int64.ofInt a).toUInt64 >>> ((Int32.ofInt b).toInt64.toUInt64 &&& Int64.toUInt64 63)).toInt64 := Int64.ofInt_toInt _
theorem mm_lshl_eq (a b : Int) : Int64.ofInt (mm_lshl a b) = Int64.ofInt a <<< ((Int32.ofInt b).toInt64 &&& 63) := Int64.ofInt_toInt _
theorem mm_cat1 {E : mm_Env} {v : mm_PV} (h : ∀ z, v ≠ vL z) : (mm_up E v).category = 1 := by
  rcases lv_cat (mm_up E v) with h1 | h1
  · exact h1
  · obtain ⟨z, e⟩ := mm_cat h1
    exact absurd e (h z)
section MmRows
variable {E : mm_Env} {R : Room} {q : mm_Y} {mc ms cs sl : Nat} {Sh : List mm_Kd} {pc pc' : Nat} {ls : List (Option mm_PV)} {st : List mm_PV} {σ : mm_Mem} {Q : mm_Q}
theorem vv_iconst {n : Int} (hd : decode q.2.1 pc = .ok (.iconst n, 1)) (hp : pc + 1 = pc') (k : vv E R q mc ms cs sl Sh pc' ls (vI n :: st) σ Q) : vv E R q mc ms cs sl Sh pc ls (st) σ Q := by
  subst hp
  intro p l e s m args below meth c H locs la QM hC hR hS hL hret
  exact lv_iconst hC.1 hC.2.1 hd rfl (k p l e s m args below meth c H locs la QM hC hR hS hL hret)
theorem vv_bipush {n : Int} (hd : decode q.2.1 pc = .ok (.bipush n, 2)) (hp : pc + 2 = pc') (hv : (Int8.ofInt n).toInt32 = Int32.ofInt n) (k : vv E R q mc ms cs sl Sh pc' ls (vI n :: st) σ Q) : vv E R q mc ms cs sl Sh pc ls (st) σ Q := by
  subst hp
  intro p l e s m args below meth c H locs la QM hC hR hS hL hret
  exact lv_bipush hC.1 hC.2.1 hd hv (k p l e s m args below meth c H locs la QM hC hR hS hL hret)
theorem vv_sipush {n : Int} (hd : decode q.2.1 pc = .ok (.sipush n, 3)) (hp : pc + 3 = pc') (hv : (Int16.ofInt n).toInt32 = Int32.ofInt n) (k : vv E R q mc ms cs sl Sh pc' ls (vI n :: st) σ Q) : vv E R q mc ms cs sl Sh pc ls (st) σ Q := by
  subst hp
  intro p l e s m args below meth c H locs la QM hC hR hS hL hret
  exact lv_sipush hC.1 hC.2.1 hd hv (k p l e s m args below meth c H locs la QM hC hR hS hL hret)
theorem vv_lconst {n : Fin 2} {z : Int} (hd : decode q.2.1 pc = .ok (.lconst n, 1)) (hp : pc + 1 = pc') (hv : Int64.ofNat (n : Nat) = Int64.ofInt z) (k : vv E R q mc ms cs sl Sh pc' ls (vL z :: st) σ Q) : vv E R q mc ms cs sl Sh pc ls (st) σ Q := by
  subst hp
  intro p l e s m args below meth c H locs la QM hC hR hS hL hret
  exact lv_lconst hC.1 hC.2.1 hd hv (k p l e s m args below meth c H locs la QM hC hR hS hL hret)
theorem vv_ldc {i : Nat} {z : Int} {v : Int32} (hd : decode q.2.1 pc = .ok (.ldc i, 2)) (hp : pc + 2 = pc') (hw : Cond.constant q.1.cls i v ∈ mm_T) (hv : v = Int32.ofInt z) (k : vv E R q mc ms cs sl Sh pc' ls (vI z :: st) σ Q) : vv E R q mc ms cs sl Sh pc ls (st) σ Q := by
  subst hp
  intro p l e s m args below meth c H locs la QM hC hR hS hL hret
  exact lv_ldc hC.1 hC.2.1 hC.2.2.2.1 (by rw [← hv]; exact hC.2.2.2.2.1 _ hw) hd (k p l e s m args below meth c H locs la QM hC hR hS hL hret)
theorem vv_ldcw {i : Nat} {z : Int} {v : Int32} (hd : decode q.2.1 pc = .ok (.ldc_w i, 3)) (hp : pc + 3 = pc') (hw : Cond.constant q.1.cls i v ∈ mm_T) (hv : v = Int32.ofInt z) (k : vv E R q mc ms cs sl Sh pc' ls (vI z :: st) σ Q) : vv E R q mc ms cs sl Sh pc ls (st) σ Q := by
  subst hp
  intro p l e s m args below meth c H locs la QM hC hR hS hL hret
  exact lv_ldcw hC.1 hC.2.1 hC.2.2.2.1 (by rw [← hv]; exact hC.2.2.2.2.1 _ hw) hd (k p l e s m args below meth c H locs la QM hC hR hS hL hret)
theorem vv_ldc2 {i : Nat} {z : Int} {v : Int64} (hd : decode q.2.1 pc = .ok (.ldc2_w i, 3)) (hp : pc + 3 = pc') (hw : Cond.constantLong q.1.cls i v ∈ mm_T) (hv : v = Int64.ofInt z) (k : vv E R q mc ms cs sl Sh pc' ls (vL z :: st) σ Q) : vv E R q mc ms cs sl Sh pc ls (st) σ Q := by
  subst hp
  intro p l e s m args below meth c H locs la QM hC hR hS hL hret
  exact lv_ldc2 hC.1 hC.2.1 hC.2.2.2.1 (by rw [← hv]; exact hC.2.2.2.2.1 _ hw) hd (k p l e s m args below meth c H locs la QM hC hR hS hL hret)
theorem vv_null  (hd : decode q.2.1 pc = .ok (.aconst_null, 1)) (hp : pc + 1 = pc') (k : vv E R q mc ms cs sl Sh pc' ls (vR 0 :: st) σ Q) : vv E R q mc ms cs sl Sh pc ls (st) σ Q := by
  subst hp
  intro p l e s m args below meth c H locs la QM hC hR hS hL hret
  exact lv_null hC.1 hC.2.1 hd (k p l e s m args below meth c H locs la QM hC hR hS hL hret)
theorem vv_iload_n {k9 : Fin 4} {i : Nat} {z : Int} (hd : decode q.2.1 pc = .ok (.iload_n k9, 1)) (hp : pc + 1 = pc') (hi : (k9 : Nat) = i) (hl : ls[i]? = some (some (vI z))) (k : vv E R q mc ms cs sl Sh pc' ls (vI z :: st) σ Q) : vv E R q mc ms cs sl Sh pc ls (st) σ Q := by
  subst hp
  intro p l e s m args below meth c H locs la QM hC hR hS hL hret
  exact lv_iload_n hC.1 hC.2.1 hd hi (hL.at hl) (k p l e s m args below meth c H locs la QM hC hR hS hL hret)
theorem vv_iload {i : Nat} {z : Int} (hd : decode q.2.1 pc = .ok (.iload i, 2)) (hp : pc + 2 = pc') (hl : ls[i]? = some (some (vI z))) (k : vv E R q mc ms cs sl Sh pc' ls (vI z :: st) σ Q) : vv E R q mc ms cs sl Sh pc ls (st) σ Q := by
  subst hp
  intro p l e s m args below meth c H locs la QM hC hR hS hL hret
  exact lv_iload hC.1 hC.2.1 hd (hL.at hl) (k p l e s m args below meth c H locs la QM hC hR hS hL hret)
theorem vv_lload_n {k9 : Fin 4} {i : Nat} {z : Int} (hd : decode q.2.1 pc = .ok (.lload_n k9, 1)) (hp : pc + 1 = pc') (hi : (k9 : Nat) = i) (hl : ls[i]? = some (some (vL z))) (k : vv E R q mc ms cs sl Sh pc' ls (vL z :: st) σ Q) : vv E R q mc ms cs sl Sh pc ls (st) σ Q := by
  subst hp
  intro p l e s m args below meth c H locs la QM hC hR hS hL hret
  exact lv_lload_n hC.1 hC.2.1 hd hi (hL.at hl) (k p l e s m args below meth c H locs la QM hC hR hS hL hret)
theorem vv_lload {i : Nat} {z : Int} (hd : decode q.2.1 pc = .ok (.lload i, 2)) (hp : pc + 2 = pc') (hl : ls[i]? = some (some (vL z))) (k : vv E R q mc ms cs sl Sh pc' ls (vL z :: st) σ Q) : vv E R q mc ms cs sl Sh pc ls (st) σ Q := by
  subst hp
  intro p l e s m args below meth c H locs la QM hC hR hS hL hret
  exact lv_lload hC.1 hC.2.1 hd (hL.at hl) (k p l e s m args below meth c H locs la QM hC hR hS hL hret)
theorem vv_aload_n {k9 : Fin 4} {i : Nat} {o : Nat} (hd : decode q.2.1 pc = .ok (.aload_n k9, 1)) (hp : pc + 1 = pc') (hi : (k9 : Nat) = i) (hl : ls[i]? = some (some (vR o))) (k : vv E R q mc ms cs sl Sh pc' ls (vR o :: st) σ Q) : vv E R q mc ms cs sl Sh pc ls (st) σ Q := by
  subst hp
  intro p l e s m args below meth c H locs la QM hC hR hS hL hret
  exact mm_aload_n hC.1 hC.2.1 hd hi mm_isRef (hL.at hl) (k p l e s m args below meth c H locs la QM hC hR hS hL hret)
theorem vv_aload {i : Nat} {o : Nat} (hd : decode q.2.1 pc = .ok (.aload i, 2)) (hp : pc + 2 = pc') (hl : ls[i]? = some (some (vR o))) (k : vv E R q mc ms cs sl Sh pc' ls (vR o :: st) σ Q) : vv E R q mc ms cs sl Sh pc ls (st) σ Q := by
  subst hp
  intro p l e s m args below meth c H locs la QM hC hR hS hL hret
  exact mm_aload hC.1 hC.2.1 hd mm_isRef (hL.at hl) (k p l e s m args below meth c H locs la QM hC hR hS hL hret)
theorem vv_istore_n {k9 : Fin 4} {i : Nat} {z : Int} (hd : decode q.2.1 pc = .ok (.istore_n k9, 1)) (hp : pc + 1 = pc') (hi : (k9 : Nat) = i) (hn : i < q.2.2.1) (ok : mm_ok ls i = true) (k : vv E R q mc ms cs sl Sh pc' (ls.set i (some (vI z))) (st) σ Q) : vv E R q mc ms cs sl Sh pc ls (vI z :: st) σ Q := by
  subst hp
  intro p l e s m args below meth c H locs la QM hC hR hS hL hret
  exact lv_istore_n hC.1 hC.2.1 hd hi hL hn rfl (fun la' hL' => (k p l e s m args below meth c H locs la' QM hC hR hS (mm_Ls.store (v := vI z) hL' ok) hret))
theorem vv_istore {i : Nat} {z : Int} (hd : decode q.2.1 pc = .ok (.istore i, 2)) (hp : pc + 2 = pc') (hn : i < q.2.2.1) (ok : mm_ok ls i = true) (k : vv E R q mc ms cs sl Sh pc' (ls.set i (some (vI z))) (st) σ Q) : vv E R q mc ms cs sl Sh pc ls (vI z :: st) σ Q := by
  subst hp
  intro p l e s m args below meth c H locs la QM hC hR hS hL hret
  exact lv_istore hC.1 hC.2.1 hd hL hn rfl (fun la' hL' => (k p l e s m args below meth c H locs la' QM hC hR hS (mm_Ls.store (v := vI z) hL' ok) hret))
theorem vv_astore_n {k9 : Fin 4} {i : Nat} {z : Nat} (hd : decode q.2.1 pc = .ok (.astore_n k9, 1)) (hp : pc + 1 = pc') (hi : (k9 : Nat) = i) (hn : i < q.2.2.1) (ok : mm_ok ls i = true) (k : vv E R q mc ms cs sl Sh pc' (ls.set i (some (vR z))) (st) σ Q) : vv E R q mc ms cs sl Sh pc ls (vR z :: st) σ Q := by
  subst hp
  intro p l e s m args below meth c H locs la QM hC hR hS hL hret
  exact mm_astore_n hC.1 hC.2.1 hd hi mm_isRef mm_cat_r hL hn rfl (fun la' hL' => (k p l e s m args below meth c H locs la' QM hC hR hS (mm_Ls.store (v := vR z) hL' ok) hret))
theorem vv_astore {i : Nat} {z : Nat} (hd : decode q.2.1 pc = .ok (.astore i, 2)) (hp : pc + 2 = pc') (hn : i < q.2.2.1) (ok : mm_ok ls i = true) (k : vv E R q mc ms cs sl Sh pc' (ls.set i (some (vR z))) (st) σ Q) : vv E R q mc ms cs sl Sh pc ls (vR z :: st) σ Q := by
  subst hp
  intro p l e s m args below meth c H locs la QM hC hR hS hL hret
  exact mm_astore hC.1 hC.2.1 hd mm_isRef mm_cat_r hL hn rfl (fun la' hL' => (k p l e s m args below meth c H locs la' QM hC hR hS (mm_Ls.store (v := vR z) hL' ok) hret))
theorem vv_lstore_n {k9 : Fin 4} {i : Nat} {z : Int} (hd : decode q.2.1 pc = .ok (.lstore_n k9, 1)) (hp : pc + 1 = pc') (hi : (k9 : Nat) = i) (hn : i + 1 < q.2.2.1) (ok : mm_ok ls i = true) (k : vv E R q mc ms cs sl Sh pc' ((ls.set i (some (vL z))).set (i + 1) none) (st) σ Q) : vv E R q mc ms cs sl Sh pc ls (vL z :: st) σ Q := by
  subst hp
  intro p l e s m args below meth c H locs la QM hC hR hS hL hret
  exact lv_lstore_n hC.1 hC.2.1 hd hi hL hn rfl (fun la' hL' => (k p l e s m args below meth c H locs la' QM hC hR hS (mm_Ls.store2 (v := vL z) hL' ok) hret))
theorem vv_lstore {i : Nat} {z : Int} (hd : decode q.2.1 pc = .ok (.lstore i, 2)) (hp : pc + 2 = pc') (hn : i + 1 < q.2.2.1) (ok : mm_ok ls i = true) (k : vv E R q mc ms cs sl Sh pc' ((ls.set i (some (vL z))).set (i + 1) none) (st) σ Q) : vv E R q mc ms cs sl Sh pc ls (vL z :: st) σ Q := by
  subst hp
  intro p l e s m args below meth c H locs la QM hC hR hS hL hret
  exact lv_lstore hC.1 hC.2.1 hd hL hn rfl (fun la' hL' => (k p l e s m args below meth c H locs la' QM hC hR hS (mm_Ls.store2 (v := vL z) hL' ok) hret))
theorem vv_iinc {i : Nat} {n z : Int} (hd : decode q.2.1 pc = .ok (.iinc i n, 3)) (hp : pc + 3 = pc') (hl : ls[i]? = some (some (vI z))) (hn : i < q.2.2.1) (ok : mm_ok ls i = true) (k : vv E R q mc ms cs sl Sh pc' (ls.set i (some (vI (z + n)))) (st) σ Q) : vv E R q mc ms cs sl Sh pc ls (st) σ Q := by
  subst hp
  intro p l e s m args below meth c H locs la QM hC hR hS hL hret
  obtain ⟨j, hj⟩ := List.getElem?_of_mem (mm_prs_mem (E := E) (i := 0) |>.mpr ⟨i, vI z, hl, rfl⟩)
  rw [Nat.zero_add] at hj
  exact lv_iinc (v := Int32.ofInt (z + n)) hC.1 hC.2.1 hd hL hj (Int32.ofInt_add z n).symm hn rfl (fun la' hL' => (k p l e s m args below meth c H locs la' QM hC hR hS (mm_Ls.store (v := vI (z + n)) hL' ok) hret))
theorem vv_iadd {a b : Int} (hd : decode q.2.1 pc = .ok (.iadd, 1)) (hp : pc + 1 = pc') (k : vv E R q mc ms cs sl Sh pc' ls (vI (a + b) :: st) σ Q) : vv E R q mc ms cs sl Sh pc ls (vI b :: vI a :: st) σ Q := by
  subst hp
  intro p l e s m args below meth c H locs la QM hC hR hS hL hret
  refine lv_iadd hC.1 hC.2.1 hd ?_
  rw [← Int32.ofInt_add]
  exact (k p l e s m args below meth c H locs la QM hC hR hS hL hret)
theorem vv_isub {a b : Int} (hd : decode q.2.1 pc = .ok (.isub, 1)) (hp : pc + 1 = pc') (k : vv E R q mc ms cs sl Sh pc' ls (vI (a - b) :: st) σ Q) : vv E R q mc ms cs sl Sh pc ls (vI b :: vI a :: st) σ Q := by
  subst hp
  intro p l e s m args below meth c H locs la QM hC hR hS hL hret
  refine lv_isub hC.1 hC.2.1 hd ?_
  rw [← Int32.ofInt_sub]
  exact (k p l e s m args below meth c H locs la QM hC hR hS hL hret)
theorem vv_imul {a b : Int} (hd : decode q.2.1 pc = .ok (.imul, 1)) (hp : pc + 1 = pc') (k : vv E R q mc ms cs sl Sh pc' ls (vI (a * b) :: st) σ Q) : vv E R q mc ms cs sl Sh pc ls (vI b :: vI a :: st) σ Q := by
  subst hp
  intro p l e s m args below meth c H locs la QM hC hR hS hL hret
  refine lv_imul hC.1 hC.2.1 hd ?_
  rw [← Int32.ofInt_mul]
  exact (k p l e s m args below meth c H locs la QM hC hR hS hL hret)
theorem vv_ladd {a b : Int} (hd : decode q.2.1 pc = .ok (.ladd, 1)) (hp : pc + 1 = pc') (k : vv E R q mc ms cs sl Sh pc' ls (vL (a + b) :: st) σ Q) : vv E R q mc ms cs sl Sh pc ls (vL b :: vL a :: st) σ Q := by
  subst hp
  intro p l e s m args below meth c H locs la QM hC hR hS hL hret
  refine lv_ladd hC.1 hC.2.1 hd ?_
  rw [← Int64.ofInt_add]
  exact (k p l e s m args below meth c H locs la QM hC hR hS hL hret)
theorem vv_lsub {a b : Int} (hd : decode q.2.1 pc = .ok (.lsub, 1)) (hp : pc + 1 = pc') (k : vv E R q mc ms cs sl Sh pc' ls (vL (a - b) :: st) σ Q) : vv E R q mc ms cs sl Sh pc ls (vL b :: vL a :: st) σ Q := by
  subst hp
  intro p l e s m args below meth c H locs la QM hC hR hS hL hret
  refine lv_lsub hC.1 hC.2.1 hd ?_
  rw [← Int64.ofInt_sub]
  exact (k p l e s m args below meth c H locs la QM hC hR hS hL hret)
theorem vv_lmul {a b : Int} (hd : decode q.2.1 pc = .ok (.lmul, 1)) (hp : pc + 1 = pc') (k : vv E R q mc ms cs sl Sh pc' ls (vL (a * b) :: st) σ Q) : vv E R q mc ms cs sl Sh pc ls (vL b :: vL a :: st) σ Q := by
  subst hp
  intro p l e s m args below meth c H locs la QM hC hR hS hL hret
  refine lv_lmul hC.1 hC.2.1 hd ?_
  rw [← Int64.ofInt_mul]
  exact (k p l e s m args below meth c H locs la QM hC hR hS hL hret)
theorem vv_iand {a b : Int} (hd : decode q.2.1 pc = .ok (.iand, 1)) (hp : pc + 1 = pc') (k : vv E R q mc ms cs sl Sh pc' ls (vI (mm_and a b) :: st) σ Q) : vv E R q mc ms cs sl Sh pc ls (vI b :: vI a :: st) σ Q := by
  subst hp
  intro p l e s m args below meth c H locs la QM hC hR hS hL hret
  refine lv_iand hC.1 hC.2.1 hd ?_
  rw [← mm_and_eq]
  exact (k p l e s m args below meth c H locs la QM hC hR hS hL hret)
theorem vv_ior {a b : Int} (hd : decode q.2.1 pc = .ok (.ior, 1)) (hp : pc + 1 = pc') (k : vv E R q mc ms cs sl Sh pc' ls (vI (mm_or a b) :: st) σ Q) : vv E R q mc ms cs sl Sh pc ls (vI b :: vI a :: st) σ Q := by
  subst hp
  intro p l e s m args below meth c H locs la QM hC hR hS hL hret
  refine lv_ior hC.1 hC.2.1 hd ?_
  rw [← mm_or_eq]
  exact (k p l e s m args below meth c H locs la QM hC hR hS hL hret)
theorem vv_ixor {a b : Int} (hd : decode q.2.1 pc = .ok (.ixor, 1)) (hp : pc + 1 = pc') (k : vv E R q mc ms cs sl Sh pc' ls (vI (mm_xor a b) :: st) σ Q) : vv E R q mc ms cs sl Sh pc ls (vI b :: vI a :: st) σ Q := by
  subst hp
  intro p l e s m args below meth c H locs la QM hC hR hS hL hret
  refine lv_ixor hC.1 hC.2.1 hd ?_
  rw [← mm_xor_eq]
  exact (k p l e s m args below meth c H locs la QM hC hR hS hL hret)
theorem vv_ishl {a b : Int} (hd : decode q.2.1 pc = .ok (.ishl, 1)) (hp : pc + 1 = pc') (k : vv E R q mc ms cs sl Sh pc' ls (vI (mm_shl a b) :: st) σ Q) : vv E R q mc ms cs sl Sh pc ls (vI b :: vI a :: st) σ Q := by
  subst hp
  intro p l e s m args below meth c H locs la QM hC hR hS hL hret
  refine lv_ishl hC.1 hC.2.1 hd ?_
  rw [← mm_shl_eq]
  exact (k p l e s m args below meth c H locs la QM hC hR hS hL hret)
theorem vv_ishr {a b : Int} (hd : decode q.2.1 pc = .ok (.ishr, 1)) (hp : pc + 1 = pc') (k : vv E R q mc ms cs sl Sh pc' ls (vI (mm_shr a b) :: st) σ Q) : vv E R q mc ms cs sl Sh pc ls (vI b :: vI a :: st) σ Q := by
  subst hp
  intro p l e s m args below meth c H locs la QM hC hR hS hL hret
  refine lv_ishr hC.1 hC.2.1 hd ?_
  rw [← mm_shr_eq]
  exact (k p l e s m args below meth c H locs la QM hC hR hS hL hret)
theorem vv_land {a b : Int} (hd : decode q.2.1 pc = .ok (.land, 1)) (hp : pc + 1 = pc') (k : vv E R q mc ms cs sl Sh pc' ls (vL (mm_land a b) :: st) σ Q) : vv E R q mc ms cs sl Sh pc ls (vL b :: vL a :: st) σ Q := by
  subst hp
  intro p l e s m args below meth c H locs la QM hC hR hS hL hret
  refine lv_land hC.1 hC.2.1 hd ?_
  rw [← mm_land_eq]
  exact (k p l e s m args below meth c H locs la QM hC hR hS hL hret)
theorem vv_lor {a b : Int} (hd : decode q.2.1 pc = .ok (.lor, 1)) (hp : pc + 1 = pc') (k : vv E R q mc ms cs sl Sh pc' ls (vL (mm_lor a b) :: st) σ Q) : vv E R q mc ms cs sl Sh pc ls (vL b :: vL a :: st) σ Q := by
  subst hp
  intro p l e s m args below meth c H locs la QM hC hR hS hL hret
  refine lv_lor hC.1 hC.2.1 hd ?_
  rw [← mm_lor_eq]
  exact (k p l e s m args below meth c H locs la QM hC hR hS hL hret)
theorem vv_iushr {a b : Int} (hd : decode q.2.1 pc = .ok (.iushr, 1)) (hp : pc + 1 = pc') (k : vv E R q mc ms cs sl Sh pc' ls (vI (mm_ushr a b) :: st) σ Q) : vv E R q mc ms cs sl Sh pc ls (vI b :: vI a :: st) σ Q := by
  subst hp
  intro p l e s m args below meth c H locs la QM hC hR hS hL hret
  exact lv_iushr hC.1 hC.2.1 hd (mm_ushr_eq a b).symm (k p l e s m args below meth c H locs la QM hC hR hS hL hret)
theorem vv_lushr {a b : Int} (hd : decode q.2.1 pc = .ok (.lushr, 1)) (hp : pc + 1 = pc') (k : vv E R q mc ms cs sl Sh pc' ls (vL (mm_lushr a b) :: st) σ Q) : vv E R q mc ms cs sl Sh pc ls (vI b :: vL a :: st) σ Q := by
  subst hp
  intro p l e s m args below meth c H locs la QM hC hR hS hL hret
  exact lv_lushr hC.1 hC.2.1 hd (mm_lushr_eq a b).symm (k p l e s m args below meth c H locs la QM hC hR hS hL hret)
theorem vv_lshl {a b : Int} (hd : decode q.2.1 pc = .ok (.lshl, 1)) (hp : pc + 1 = pc') (k : vv E R q mc ms cs sl Sh pc' ls (vL (mm_lshl a b) :: st) σ Q) : vv E R q mc ms cs sl Sh pc ls (vI b :: vL a :: st) σ Q := by
  subst hp
  intro p l e s m args below meth c H locs la QM hC hR hS hL hret
  exact lv_lshl hC.1 hC.2.1 hd (mm_lshl_eq a b).symm (k p l e s m args below meth c H locs la QM hC hR hS hL hret)
theorem vv_idiv {a b : Int} (hd : decode q.2.1 pc = .ok (.idiv, 1)) (hp : pc + 1 = pc') (ha : inR a) (hb : inR b) (hne : b ≠ 0) (k : vv E R q mc ms cs sl Sh pc' ls (vI (a.tdiv b) :: st) σ Q) : vv E R q mc ms cs sl Sh pc ls (vI b :: vI a :: st) σ Q := by
  subst hp
  intro p l e s m args below meth c H locs la QM hC hR hS hL hret
  refine lv_idiv hC.1 hC.2.1 hd (mm_ne0 hb hne) ?_
  rw [← Int32.ofInt_tdiv ha.1 ha.2 hb.1 hb.2]
  exact (k p l e s m args below meth c H locs la QM hC hR hS hL hret)
theorem vv_irem {a b : Int} (hd : decode q.2.1 pc = .ok (.irem, 1)) (hp : pc + 1 = pc') (ha : inR a) (hb : inR b) (hne : b ≠ 0) (k : vv E R q mc ms cs sl Sh pc' ls (vI (a.tmod b) :: st) σ Q) : vv E R q mc ms cs sl Sh pc ls (vI b :: vI a :: st) σ Q := by
  subst hp
  intro p l e s m args below meth c H locs la QM hC hR hS hL hret
  refine lv_irem hC.1 hC.2.1 hd (mm_ne0 hb hne) ?_
  rw [← Int32.ofInt_tdiv ha.1 ha.2 hb.1 hb.2, ← Int32.ofInt_mul, ← Int32.ofInt_sub, mm_tmod]
  exact (k p l e s m args below meth c H locs la QM hC hR hS hL hret)
theorem vv_ldiv {a b : Int} (hd : decode q.2.1 pc = .ok (.ldiv, 1)) (hp : pc + 1 = pc') (ha : inL a) (hb : inL b) (hne : b ≠ 0) (k : vv E R q mc ms cs sl Sh pc' ls (vL (a.tdiv b) :: st) σ Q) : vv E R q mc ms cs sl Sh pc ls (vL b :: vL a :: st) σ Q := by
  subst hp
  intro p l e s m args below meth c H locs la QM hC hR hS hL hret
  refine lv_ldiv hC.1 hC.2.1 hd (mm_lne0 hb hne) ?_
  rw [← Int64.ofInt_tdiv ha.1 ha.2 hb.1 hb.2]
  exact (k p l e s m args below meth c H locs la QM hC hR hS hL hret)
theorem vv_lrem {a b : Int} (hd : decode q.2.1 pc = .ok (.lrem, 1)) (hp : pc + 1 = pc') (ha : inL a) (hb : inL b) (hne : b ≠ 0) (k : vv E R q mc ms cs sl Sh pc' ls (vL (a.tmod b) :: st) σ Q) : vv E R q mc ms cs sl Sh pc ls (vL b :: vL a :: st) σ Q := by
  subst hp
  intro p l e s m args below meth c H locs la QM hC hR hS hL hret
  refine lv_lrem hC.1 hC.2.1 hd (mm_lne0 hb hne) ?_
  rw [← Int64.ofInt_tdiv ha.1 ha.2 hb.1 hb.2, ← Int64.ofInt_mul, ← Int64.ofInt_sub, mm_tmod]
  exact (k p l e s m args below meth c H locs la QM hC hR hS hL hret)
theorem vv_i2l {a : Int} (hd : decode q.2.1 pc = .ok (.i2l, 1)) (hp : pc + 1 = pc') (ha : inR a) (k : vv E R q mc ms cs sl Sh pc' ls (vL a :: st) σ Q) : vv E R q mc ms cs sl Sh pc ls (vI a :: st) σ Q := by
  subst hp
  intro p l e s m args below meth c H locs la QM hC hR hS hL hret
  exact lv_i2l hC.1 hC.2.1 hd (Int32.toInt64_ofInt ha.1 ha.2) (k p l e s m args below meth c H locs la QM hC hR hS hL hret)
theorem vv_l2i {a : Int} (hd : decode q.2.1 pc = .ok (.l2i, 1)) (hp : pc + 1 = pc') (ha : inL a) (k : vv E R q mc ms cs sl Sh pc' ls (vI a :: st) σ Q) : vv E R q mc ms cs sl Sh pc ls (vL a :: st) σ Q := by
  subst hp
  intro p l e s m args below meth c H locs la QM hC hR hS hL hret
  exact lv_l2i hC.1 hC.2.1 hd (mm_l2i ha) (k p l e s m args below meth c H locs la QM hC hR hS hL hret)
theorem vv_lcmp {a b : Int} (hd : decode q.2.1 pc = .ok (.lcmp, 1)) (hp : pc + 1 = pc') (ha : inL a) (hb : inL b) (k : vv E R q mc ms cs sl Sh pc' ls (vI (mm_cmp a b) :: st) σ Q) : vv E R q mc ms cs sl Sh pc ls (vL b :: vL a :: st) σ Q := by
  subst hp
  intro p l e s m args below meth c H locs la QM hC hR hS hL hret
  refine W.lcmp hC.1 hC.2.1 hd ?_
  rw [mm_cmp_eq ha hb]
  exact (k p l e s m args below meth c H locs la QM hC hR hS hL hret)
theorem vv_dup {v : mm_PV} (hd : decode q.2.1 pc = .ok (.dup, 1)) (hp : pc + 1 = pc') (hv : ∀ z, v ≠ vL z) (k : vv E R q mc ms cs sl Sh pc' ls (v :: v :: st) σ Q) : vv E R q mc ms cs sl Sh pc ls (v :: st) σ Q := by
  subst hp
  intro p l e s m args below meth c H locs la QM hC hR hS hL hret
  exact lv_dup hC.1 hC.2.1 hd (mm_cat1 hv) (k p l e s m args below meth c H locs la QM hC hR hS hL hret)
theorem vv_pop {v : mm_PV} (hd : decode q.2.1 pc = .ok (.pop, 1)) (hp : pc + 1 = pc') (hv : ∀ z, v ≠ vL z) (k : vv E R q mc ms cs sl Sh pc' ls (st) σ Q) : vv E R q mc ms cs sl Sh pc ls (v :: st) σ Q := by
  subst hp
  intro p l e s m args below meth c H locs la QM hC hR hS hL hret
  exact lv_pop hC.1 hC.2.1 hd (mm_cat1 hv) (k p l e s m args below meth c H locs la QM hC hR hS hL hret)
theorem vv_dup2 {v w : mm_PV} (hd : decode q.2.1 pc = .ok (.dup2, 1)) (hp : pc + 1 = pc') (hv : ∀ z, v ≠ vL z) (hw : ∀ z, w ≠ vL z) (k : vv E R q mc ms cs sl Sh pc' ls (v :: w :: v :: w :: st) σ Q) : vv E R q mc ms cs sl Sh pc ls (v :: w :: st) σ Q := by
  subst hp
  intro p l e s m args below meth c H locs la QM hC hR hS hL hret
  exact lv_dup2_11 hC.1 hC.2.1 hd (mm_cat1 hv) (mm_cat1 hw) (k p l e s m args below meth c H locs la QM hC hR hS hL hret)
theorem vv_if_eq {a : Int} {off : Int} {tgt : Nat} (hd : decode q.2.1 pc = .ok (.ifCond .eq off, 3)) (hp : pc + 3 = pc') (ht : (pc : Int) + off = (tgt : Int)) (ha : inR a) (kt : a = 0 → vv E R q mc ms cs sl Sh tgt ls st σ Q) (kf : ¬ a = 0 → vv E R q mc ms cs sl Sh pc' ls st σ Q) : vv E R q mc ms cs sl Sh pc ls (vI a :: st) σ Q := by
  subst hp
  intro p l e s m args below meth c H locs la QM hC hR hS hL hret
  exact lv_if_eq hC.1 hC.2.1 hd ht (fun h => (kt ((mm_c0_eq ha).mp h) p l e s m args below meth c H locs la QM hC hR hS hL hret)) (fun h => (kf (fun z => h ((mm_c0_eq ha).mpr z)) p l e s m args below meth c H locs la QM hC hR hS hL hret))
theorem vv_icmp_eq {a b : Int} {off : Int} {tgt : Nat} (hd : decode q.2.1 pc = .ok (.if_icmp .eq off, 3)) (hp : pc + 3 = pc') (ht : (pc : Int) + off = (tgt : Int)) (ha : inR a) (hb : inR b) (kt : a = b → vv E R q mc ms cs sl Sh tgt ls st σ Q) (kf : ¬ a = b → vv E R q mc ms cs sl Sh pc' ls st σ Q) : vv E R q mc ms cs sl Sh pc ls (vI b :: vI a :: st) σ Q := by
  subst hp
  intro p l e s m args below meth c H locs la QM hC hR hS hL hret
  exact lv_icmp_eq hC.1 hC.2.1 hd ht (fun h => (kt ((mm_c2_eq ha hb).mp h) p l e s m args below meth c H locs la QM hC hR hS hL hret)) (fun h => (kf (fun z => h ((mm_c2_eq ha hb).mpr z)) p l e s m args below meth c H locs la QM hC hR hS hL hret))
theorem vv_if_ne {a : Int} {off : Int} {tgt : Nat} (hd : decode q.2.1 pc = .ok (.ifCond .ne off, 3)) (hp : pc + 3 = pc') (ht : (pc : Int) + off = (tgt : Int)) (ha : inR a) (kt : a ≠ 0 → vv E R q mc ms cs sl Sh tgt ls st σ Q) (kf : a = 0 → vv E R q mc ms cs sl Sh pc' ls st σ Q) : vv E R q mc ms cs sl Sh pc ls (vI a :: st) σ Q := by
  subst hp
  intro p l e s m args below meth c H locs la QM hC hR hS hL hret
  exact lv_if_ne hC.1 hC.2.1 hd ht (fun h => (kt ((mm_c0_ne ha).mp h) p l e s m args below meth c H locs la QM hC hR hS hL hret)) (fun h => (kf ((mm_c0_eq ha).mp h) p l e s m args below meth c H locs la QM hC hR hS hL hret))
theorem vv_icmp_ne {a b : Int} {off : Int} {tgt : Nat} (hd : decode q.2.1 pc = .ok (.if_icmp .ne off, 3)) (hp : pc + 3 = pc') (ht : (pc : Int) + off = (tgt : Int)) (ha : inR a) (hb : inR b) (kt : a ≠ b → vv E R q mc ms cs sl Sh tgt ls st σ Q) (kf : a = b → vv E R q mc ms cs sl Sh pc' ls st σ Q) : vv E R q mc ms cs sl Sh pc ls (vI b :: vI a :: st) σ Q := by
  subst hp
  intro p l e s m args below meth c H locs la QM hC hR hS hL hret
  exact lv_icmp_ne hC.1 hC.2.1 hd ht (fun h => (kt ((mm_c2_ne ha hb).mp h) p l e s m args below meth c H locs la QM hC hR hS hL hret)) (fun h => (kf ((mm_c2_eq ha hb).mp h) p l e s m args below meth c H locs la QM hC hR hS hL hret))
theorem vv_if_lt {a : Int} {off : Int} {tgt : Nat} (hd : decode q.2.1 pc = .ok (.ifCond .lt off, 3)) (hp : pc + 3 = pc') (ht : (pc : Int) + off = (tgt : Int)) (ha : inR a) (kt : a < 0 → vv E R q mc ms cs sl Sh tgt ls st σ Q) (kf : ¬ a < 0 → vv E R q mc ms cs sl Sh pc' ls st σ Q) : vv E R q mc ms cs sl Sh pc ls (vI a :: st) σ Q := by
  subst hp
  intro p l e s m args below meth c H locs la QM hC hR hS hL hret
  exact lv_if_lt hC.1 hC.2.1 hd ht (fun h => (kt ((mm_c0_lt ha).mp h) p l e s m args below meth c H locs la QM hC hR hS hL hret)) (fun h => (kf (fun z => h ((mm_c0_lt ha).mpr z)) p l e s m args below meth c H locs la QM hC hR hS hL hret))
theorem vv_icmp_lt {a b : Int} {off : Int} {tgt : Nat} (hd : decode q.2.1 pc = .ok (.if_icmp .lt off, 3)) (hp : pc + 3 = pc') (ht : (pc : Int) + off = (tgt : Int)) (ha : inR a) (hb : inR b) (kt : a < b → vv E R q mc ms cs sl Sh tgt ls st σ Q) (kf : ¬ a < b → vv E R q mc ms cs sl Sh pc' ls st σ Q) : vv E R q mc ms cs sl Sh pc ls (vI b :: vI a :: st) σ Q := by
  subst hp
  intro p l e s m args below meth c H locs la QM hC hR hS hL hret
  exact lv_icmp_lt hC.1 hC.2.1 hd ht (fun h => (kt ((mm_c2_lt ha hb).mp h) p l e s m args below meth c H locs la QM hC hR hS hL hret)) (fun h => (kf (fun z => h ((mm_c2_lt ha hb).mpr z)) p l e s m args below meth c H locs la QM hC hR hS hL hret))
theorem vv_if_ge {a : Int} {off : Int} {tgt : Nat} (hd : decode q.2.1 pc = .ok (.ifCond .ge off, 3)) (hp : pc + 3 = pc') (ht : (pc : Int) + off = (tgt : Int)) (ha : inR a) (kt : 0 ≤ a → vv E R q mc ms cs sl Sh tgt ls st σ Q) (kf : ¬ 0 ≤ a → vv E R q mc ms cs sl Sh pc' ls st σ Q) : vv E R q mc ms cs sl Sh pc ls (vI a :: st) σ Q := by
  subst hp
  intro p l e s m args below meth c H locs la QM hC hR hS hL hret
  exact lv_if_ge hC.1 hC.2.1 hd ht (fun h => (kt ((mm_c0_ge ha).mp h) p l e s m args below meth c H locs la QM hC hR hS hL hret)) (fun h => (kf (fun z => h ((mm_c0_ge ha).mpr z)) p l e s m args below meth c H locs la QM hC hR hS hL hret))
theorem vv_icmp_ge {a b : Int} {off : Int} {tgt : Nat} (hd : decode q.2.1 pc = .ok (.if_icmp .ge off, 3)) (hp : pc + 3 = pc') (ht : (pc : Int) + off = (tgt : Int)) (ha : inR a) (hb : inR b) (kt : b ≤ a → vv E R q mc ms cs sl Sh tgt ls st σ Q) (kf : ¬ b ≤ a → vv E R q mc ms cs sl Sh pc' ls st σ Q) : vv E R q mc ms cs sl Sh pc ls (vI b :: vI a :: st) σ Q := by
  subst hp
  intro p l e s m args below meth c H locs la QM hC hR hS hL hret
  exact lv_icmp_ge hC.1 hC.2.1 hd ht (fun h => (kt ((mm_c2_ge ha hb).mp h) p l e s m args below meth c H locs la QM hC hR hS hL hret)) (fun h => (kf (fun z => h ((mm_c2_ge ha hb).mpr z)) p l e s m args below meth c H locs la QM hC hR hS hL hret))
theorem vv_if_gt {a : Int} {off : Int} {tgt : Nat} (hd : decode q.2.1 pc = .ok (.ifCond .gt off, 3)) (hp : pc + 3 = pc') (ht : (pc : Int) + off = (tgt : Int)) (ha : inR a) (kt : 0 < a → vv E R q mc ms cs sl Sh tgt ls st σ Q) (kf : ¬ 0 < a → vv E R q mc ms cs sl Sh pc' ls st σ Q) : vv E R q mc ms cs sl Sh pc ls (vI a :: st) σ Q := by
  subst hp
  intro p l e s m args below meth c H locs la QM hC hR hS hL hret
  exact lv_if_gt hC.1 hC.2.1 hd ht (fun h => (kt ((mm_c0_gt ha).mp h) p l e s m args below meth c H locs la QM hC hR hS hL hret)) (fun h => (kf (fun z => h ((mm_c0_gt ha).mpr z)) p l e s m args below meth c H locs la QM hC hR hS hL hret))
theorem vv_icmp_gt {a b : Int} {off : Int} {tgt : Nat} (hd : decode q.2.1 pc = .ok (.if_icmp .gt off, 3)) (hp : pc + 3 = pc') (ht : (pc : Int) + off = (tgt : Int)) (ha : inR a) (hb : inR b) (kt : b < a → vv E R q mc ms cs sl Sh tgt ls st σ Q) (kf : ¬ b < a → vv E R q mc ms cs sl Sh pc' ls st σ Q) : vv E R q mc ms cs sl Sh pc ls (vI b :: vI a :: st) σ Q := by
  subst hp
  intro p l e s m args below meth c H locs la QM hC hR hS hL hret
  exact lv_icmp_gt hC.1 hC.2.1 hd ht (fun h => (kt ((mm_c2_gt ha hb).mp h) p l e s m args below meth c H locs la QM hC hR hS hL hret)) (fun h => (kf (fun z => h ((mm_c2_gt ha hb).mpr z)) p l e s m args below meth c H locs la QM hC hR hS hL hret))
theorem vv_if_le {a : Int} {off : Int} {tgt : Nat} (hd : decode q.2.1 pc = .ok (.ifCond .le off, 3)) (hp : pc + 3 = pc') (ht : (pc : Int) + off = (tgt : Int)) (ha : inR a) (kt : a ≤ 0 → vv E R q mc ms cs sl Sh tgt ls st σ Q) (kf : ¬ a ≤ 0 → vv E R q mc ms cs sl Sh pc' ls st σ Q) : vv E R q mc ms cs sl Sh pc ls (vI a :: st) σ Q := by
  subst hp
  intro p l e s m args below meth c H locs la QM hC hR hS hL hret
  exact lv_if_le hC.1 hC.2.1 hd ht (fun h => (kt ((mm_c0_le ha).mp h) p l e s m args below meth c H locs la QM hC hR hS hL hret)) (fun h => (kf (fun z => h ((mm_c0_le ha).mpr z)) p l e s m args below meth c H locs la QM hC hR hS hL hret))
theorem vv_icmp_le {a b : Int} {off : Int} {tgt : Nat} (hd : decode q.2.1 pc = .ok (.if_icmp .le off, 3)) (hp : pc + 3 = pc') (ht : (pc : Int) + off = (tgt : Int)) (ha : inR a) (hb : inR b) (kt : a ≤ b → vv E R q mc ms cs sl Sh tgt ls st σ Q) (kf : ¬ a ≤ b → vv E R q mc ms cs sl Sh pc' ls st σ Q) : vv E R q mc ms cs sl Sh pc ls (vI b :: vI a :: st) σ Q := by
  subst hp
  intro p l e s m args below meth c H locs la QM hC hR hS hL hret
  exact lv_icmp_le hC.1 hC.2.1 hd ht (fun h => (kt ((mm_c2_le ha hb).mp h) p l e s m args below meth c H locs la QM hC hR hS hL hret)) (fun h => (kf (fun z => h ((mm_c2_le ha hb).mpr z)) p l e s m args below meth c H locs la QM hC hR hS hL hret))
theorem vv_goto {off : Int} {tgt : Nat} (hd : decode q.2.1 pc = .ok (.goto off, 3)) (ht : (pc : Int) + off = (tgt : Int)) (k : vv E R q mc ms cs sl Sh tgt ls st σ Q) : vv E R q mc ms cs sl Sh pc ls st σ Q := by
  intro p l e s m args below meth c H locs la QM hC hR hS hL hret
  exact lv_goto hC.1 hC.2.1 hd ht (k p l e s m args below meth c H locs la QM hC hR hS hL hret)
theorem vv_ifnull {o : Nat} {off : Int} {tgt : Nat} (hd : decode q.2.1 pc = .ok (.ifnull off, 3)) (hp : pc + 3 = pc') (ht : (pc : Int) + off = (tgt : Int)) (kt : o = 0 → vv E R q mc ms cs sl Sh tgt ls st σ Q) (kf : ¬ o = 0 → vv E R q mc ms cs sl Sh pc' ls st σ Q) : vv E R q mc ms cs sl Sh pc ls (vR o :: st) σ Q := by
  subst hp
  intro p l e s m args below meth c H locs la QM hC hR hS hL hret
  by_cases h0 : o = 0
  · subst h0
    exact lv_ifnullN hC.1 hC.2.1 hd ht (kt rfl p l e s m args below meth c H locs la QM hC hR hS hL hret)
  · have e9 : mm_up E (vR o) = .ref (mm_ad E o) := by simp [mm_up, mm_rf, mm_ro, h0, va_rf]
    rw [List.map_cons, e9]
    exact lv_ifnull hC.1 hC.2.1 hd (kf h0 p l e s m args below meth c H locs la QM hC hR hS hL hret)
theorem vv_ifnonnull {o : Nat} {off : Int} {tgt : Nat} (hd : decode q.2.1 pc = .ok (.ifnonnull off, 3)) (hp : pc + 3 = pc') (ht : (pc : Int) + off = (tgt : Int)) (kt : ¬ o = 0 → vv E R q mc ms cs sl Sh tgt ls st σ Q) (kf : o = 0 → vv E R q mc ms cs sl Sh pc' ls st σ Q) : vv E R q mc ms cs sl Sh pc ls (vR o :: st) σ Q := by
  subst hp
  intro p l e s m args below meth c H locs la QM hC hR hS hL hret
  by_cases h0 : o = 0
  · subst h0
    exact mm_ifnonnullN hC.1 hC.2.1 hd (kf rfl p l e s m args below meth c H locs la QM hC hR hS hL hret)
  · have e9 : mm_up E (vR o) = .ref (mm_ad E o) := by simp [mm_up, mm_rf, mm_ro, h0, va_rf]
    rw [List.map_cons, e9]
    exact lv_ifnonnull hC.1 hC.2.1 hd ht (kt h0 p l e s m args below meth c H locs la QM hC hR hS hL hret)
theorem vv_tableswitch {dflt lo hi : Int} {offs : Array Int} {len : Nat} {a : Int} {dt : Nat} (hd : decode q.2.1 pc = .ok (.tableswitch dflt lo hi offs, len)) (ha : inR a) (hdt : (pc : Int) + dflt = (dt : Int)) (ko : a < lo ∨ hi < a → vv E R q mc ms cs sl Sh dt ls st σ Q) (ki : lo ≤ a → a ≤ hi → ∃ (off : Int) (tgt : Nat), offs[(a - lo).toNat]? = some off ∧ (pc : Int) + off = (tgt : Int) ∧ vv E R q mc ms cs sl Sh tgt ls st σ Q) : vv E R q mc ms cs sl Sh pc ls (vI a :: st) σ Q := by
  intro p l e s m args below meth c H locs la QM hC hR hS hL hret
  have e9 := mm_toInt ha
  by_cases h : a < lo ∨ hi < a
  · exact lv_tableOut hC.1 hC.2.1 hd (by rw [e9]; exact h) hdt (ko h p l e s m args below meth c H locs la QM hC hR hS hL hret)
  · obtain ⟨off, tgt, h1, h2, h3⟩ := ki (by omega) (by omega)
    exact lv_tableIn hC.1 hC.2.1 hd (by rw [e9]; omega) (by rw [e9]; omega) (by rw [e9]; exact h1) h2 (h3 p l e s m args below meth c H locs la QM hC hR hS hL hret)
theorem vv_lookup {dflt : Int} {ps : Array (Int × Int)} {len : Nat} {a : Int} {off : Int} {tgt : Nat} (hd : decode q.2.1 pc = .ok (.lookupswitch dflt ps, len)) (ha : inR a) (hp : (ps.toList.zip (ps.toList.drop 1)).all (fun (a, next) => a.1 < next.1) = true) (ho : Op.lookupswitch.offset ps.toList dflt a = off) (ht : (pc : Int) + off = (tgt : Int)) (k : vv E R q mc ms cs sl Sh tgt ls st σ Q) : vv E R q mc ms cs sl Sh pc ls (vI a :: st) σ Q := by
  intro p l e s m args below meth c H locs la QM hC hR hS hL hret
  exact lv_lookup hC.1 hC.2.1 hd hp (by rw [mm_toInt ha]; exact ho) ht (k p l e s m args below meth c H locs la QM hC hR hS hL hret)
theorem vv_ret  (hd : decode q.2.1 pc = .ok (.return_, 1)) (hr : q.2.2.2 = none) (hc : cs ≤ mc) (hs : sl ≤ ms) (k : Q (none) Sh σ) : vv E R q mc ms cs sl Sh pc ls ([]) σ Q := by
  intro p l e s m args below meth c H locs la QM hC hR hS hL hret
  exact W.widen hc hs (hret pc la (none) Sh σ H locs k (by rw [hr]; exact rfl) hR hS (by rw [hr]; exact hd))
theorem vv_iret {z : Int} (hd : decode q.2.1 pc = .ok (.ireturn, 1)) (hr : q.2.2.2 = some .int) (hc : cs ≤ mc) (hs : sl ≤ ms) (k : Q (some (vI z)) Sh σ) : vv E R q mc ms cs sl Sh pc ls ([vI z]) σ Q := by
  intro p l e s m args below meth c H locs la QM hC hR hS hL hret
  exact W.widen hc hs (hret pc la (some (vI z)) Sh σ H locs k (by rw [hr]; exact ⟨z, rfl⟩) hR hS (by rw [hr]; exact hd))
theorem vv_zret {z : Int} (hd : decode q.2.1 pc = .ok (.ireturn, 1)) (hr : q.2.2.2 = some .boolean) (hz : z = 0 ∨ z = 1) (hc : cs ≤ mc) (hs : sl ≤ ms) (k : Q (some (vI z)) Sh σ) : vv E R q mc ms cs sl Sh pc ls ([vI z]) σ Q := by
  intro p l e s m args below meth c H locs la QM hC hR hS hL hret
  exact W.widen hc hs (hret pc la (some (vI z)) Sh σ H locs k (by rw [hr]; exact ⟨z, rfl, hz⟩) hR hS (by rw [hr]; exact hd))
theorem vv_lret {z : Int} (hd : decode q.2.1 pc = .ok (.lreturn, 1)) (hr : q.2.2.2 = some .long) (hc : cs ≤ mc) (hs : sl ≤ ms) (k : Q (some (vL z)) Sh σ) : vv E R q mc ms cs sl Sh pc ls ([vL z]) σ Q := by
  intro p l e s m args below meth c H locs la QM hC hR hS hL hret
  exact W.widen hc hs (hret pc la (some (vL z)) Sh σ H locs k (by rw [hr]; exact ⟨z, rfl⟩) hR hS (by rw [hr]; exact hd))
theorem vv_aret {C : String} {o : Nat} (hd : decode q.2.1 pc = .ok (.areturn, 1)) (hr : q.2.2.2 = some (.object C)) (hc : cs ≤ mc) (hs : sl ≤ ms) (k : Q (some (vR o)) Sh σ) : vv E R q mc ms cs sl Sh pc ls ([vR o]) σ Q := by
  intro p l e s m args below meth c H locs la QM hC hR hS hL hret
  exact W.widen hc hs (hret pc la (some (vR o)) Sh σ H locs k (by rw [hr]; exact ⟨o, rfl⟩) hR hS (by rw [hr]; exact hd))
theorem vv_less {ls' : List (Option mm_PV)} (h : mm_le ls' ls) (k : vv E R q mc ms cs sl Sh pc ls' st σ Q) : vv E R q mc ms cs sl Sh pc ls st σ Q := by
  intro p l e s m args below meth c H locs la QM hC hR hS hL hret
  exact (k p l e s m args below meth c H locs la QM hC hR hS (hL.less (mm_le_at h)) hret)
end MmRows
