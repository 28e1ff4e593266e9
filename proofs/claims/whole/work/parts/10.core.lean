/-! The picture of the heap as one function (object, slot) ↦ Int, over which all methods are walked. -/
abbrev mm_PV : Type := Int ⊕ Int ⊕ Nat
abbrev vI (z : Int) : mm_PV := Sum.inl z
abbrev vL (z : Int) : mm_PV := Sum.inr (Sum.inl z)
abbrev vR (o : Nat) : mm_PV := Sum.inr (Sum.inr o)
abbrev mm_Kd : Type := (FieldType × Nat) ⊕ Nat
abbrev mm_Mem : Type := Nat → Nat → Int
abbrev mm_Env : Type := va_G × (FieldType → ClassId) × Nat × Nat × Nat
abbrev mm_Y : Type := MethodName × ByteArray × Nat × Option FieldType
abbrev inR (z : Int) : Prop := -2147483648 ≤ z ∧ z ≤ 2147483647
abbrev inL (z : Int) : Prop := -9223372036854775808 ≤ z ∧ z ≤ 9223372036854775807
def mm_ad (E : mm_Env) (o : Nat) : Nat := if o = 1 then E.2.2.1 else E.2.2.2.1 + (o - 2)
def mm_ro (E : mm_Env) (o : Nat) : Option Nat := if o = 0 then none else some (mm_ad E o)
def mm_rf (E : mm_Env) (o : Nat) : Value := va_rf (mm_ro E o)
def mm_up (E : mm_Env) (v : mm_PV) : Value := match v with
  | .inl z => .int (Int32.ofInt z)
  | .inr (.inl z) => .long (Int64.ofInt z)
  | .inr (.inr o) => mm_rf E o
def mm_fv (E : mm_Env) (ty : FieldType) (z : Int) : Value := match ty with
  | .long => .long (Int64.ofInt z)
  | .object _ => mm_rf E z.toNat
  | .array _ => mm_rf E z.toNat
  | _ => .int (Int32.ofInt z)
def mm_ty (c : Nat) : Nat → FieldType := match c with
  | 0 => tyX0
  | 1 => tyX1
  | 2 => tyX2
  | 3 => tyX3
  | 4 => tyX4
  | 5 => tyX5
  | 6 => tyX6
  | 7 => tyX7
  | 8 => tyX8
  | 9 => tyX9
  | 10 => tyX10
  | _ => tyX11
def mm_N (c : Nat) : Nat := match c with
  | 0 => 11
  | 1 => 4
  | 2 => 13
  | 3 => 8
  | 4 => 9
  | 5 => 9
  | 6 => 6
  | 7 => 4
  | 8 => 5
  | 9 => 6
  | 10 => 15
  | _ => 74
def mm_ar (E : mm_Env) (ty : FieldType) (f : Nat → Int) : ((Nat → Int32) ⊕ (Nat → Int64) ⊕ (Nat → UInt32) ⊕ (Nat → UInt64) ⊕ (Nat → Option Nat)) := match ty with
  | .long => .inr (.inl (fun k => Int64.ofInt (f k)))
  | .object _ => .inr (.inr (.inr (.inr (fun k => mm_ro E (f k).toNat))))
  | .array _ => .inr (.inr (.inr (.inr (fun k => mm_ro E (f k).toNat))))
  | _ => .inl (fun k => Int32.ofInt (f k))
def mm_fs (E : mm_Env) (c : Nat) (f : Nat → Int) : List Value := (List.range (mm_N c)).map (fun k => mm_fv E (mm_ty c k) (f k))
def mm_E (E : mm_Env) (kd : mm_Kd) (f : Nat → Int) : va_E := match kd with
  | .inl tn => .inl (E.2.1 tn.1, tn.2, mm_ar E tn.1 f)
  | .inr c => .inr (c, mm_fs E c f)
def mm_W (E : mm_Env) (Sh : List mm_Kd) (σ : mm_Mem) : va_W := (List.range (Sh.length - 2)).map (fun i => (E.2.2.2.1 + i, mm_E E (Sh.getD (i + 2) (.inr 99)) (σ (i + 2))))
def wr (σ : mm_Mem) (o k : Nat) (v : Int) : mm_Mem := fun o' k' => if o' = o ∧ k' = k then v else σ o' k'
/-- a slot that holds a number of the small kinds -/
def mm_isI (ty : FieldType) : Bool := match ty with
  | .int => true
  | .boolean => true
  | _ => false
def mm_isR (ty : FieldType) : Bool := match ty with
  | .object _ => true
  | .array _ => true
  | _ => false
def mm_slotI (kd : mm_Kd) (k : Nat) : Bool := match kd with
  | .inl tn => mm_isI tn.1 && decide (k < tn.2)
  | .inr c => mm_isI (mm_ty c k) && decide (k < mm_N c)
abbrev mm_A (E : mm_Env) : Nat → Prop := fun q => E.2.2.2.1 ≤ q
theorem mm_W_get {E : mm_Env} {Sh : List mm_Kd} {σ : mm_Mem} {o : Nat} {kd : mm_Kd} (ho : 2 ≤ o) (hk : Sh[o]? = some kd) : (mm_W E Sh σ)[o - 2]? = some (mm_ad E o, mm_E E kd (σ o)) := by
  have hl : o < Sh.length := (List.getElem?_eq_some_iff.mp hk).1
  unfold mm_W
  rw [List.getElem?_map, List.getElem?_range (by omega)]
  have e : o - 2 + 2 = o := by omega
  have n1 : ¬ o = 1 := by omega
  simp only [Option.map_some, e, List.getD_eq_getElem?_getD, hk, Option.getD_some, mm_ad, if_neg n1]
theorem mm_W_some {E : mm_Env} {Sh : List mm_Kd} {σ : mm_Mem} {i : Nat} {q : Nat × va_E} (h : (mm_W E Sh σ)[i]? = some q) : i < Sh.length - 2 ∧ q = (E.2.2.2.1 + i, mm_E E (Sh.getD (i + 2) (.inr 99)) (σ (i + 2))) := by
  have hl := (List.getElem?_eq_some_iff.mp h).1
  have hl2 : i < Sh.length - 2 := by simpa [mm_W] using hl
  unfold mm_W at h
  rw [List.getElem?_map, List.getElem?_range hl2] at h
  exact ⟨hl2, (Option.some.inj h).symm⟩
theorem mm_W_set {E : mm_Env} {Sh : List mm_Kd} {σ σ' : mm_Mem} {o : Nat} {kd : mm_Kd} (ho : 2 ≤ o) (hk : Sh[o]? = some kd) {f : Nat → Int} (h1 : σ' o = f) (h2 : ∀ o', o' ≠ o → σ' o' = σ o') : (mm_W E Sh σ).set (o - 2) (mm_ad E o, mm_E E kd f) = mm_W E Sh σ' := by
  apply List.ext_getElem?
  intro i
  by_cases e : i = o - 2
  · subst e
    have hl : o < Sh.length := (List.getElem?_eq_some_iff.mp hk).1
    rw [List.getElem?_set_self (by simp [mm_W]; omega), mm_W_get ho hk, h1]
  · rw [List.getElem?_set_ne (fun z => e z.symm)]
    unfold mm_W
    rw [List.getElem?_map, List.getElem?_map]
    by_cases hi : i < Sh.length - 2
    · rw [List.getElem?_range hi]
      simp only [Option.map_some]
      rw [h2 (i + 2) (by omega)]
    · rw [List.getElem?_eq_none (by simpa using hi)]
      rfl
theorem mm_D {E : mm_Env} {Sh : List mm_Kd} {σ : mm_Mem} : va_D (mm_A E) (mm_W E Sh σ) := by
  refine ⟨fun i j p q hi hj hpq => ?_, fun k q hk => ?_⟩
  · obtain ⟨-, rfl⟩ := mm_W_some hi
    obtain ⟨-, rfl⟩ := mm_W_some hj
    simpa using hpq
  · obtain ⟨-, rfl⟩ := mm_W_some hk
    show E.2.2.2.1 ≤ _
    simp
theorem mm_fs_get {E : mm_Env} {c k : Nat} {f : Nat → Int} (hk : k < mm_N c) : (mm_fs E c f)[k]? = some (mm_fv E (mm_ty c k) (f k)) := by
  unfold mm_fs
  rw [List.getElem?_map, List.getElem?_range hk]
  rfl
theorem mm_fs_len {E : mm_Env} {c : Nat} {f : Nat → Int} : (mm_fs E c f).length = mm_N c := by simp [mm_fs]
theorem mm_fs_set {E : mm_Env} {c k : Nat} {f g : Nat → Int} {z : Int} (h1 : g k = z) (h2 : ∀ j, j ≠ k → g j = f j) : (mm_fs E c f).set k (mm_fv E (mm_ty c k) z) = mm_fs E c g := by
  apply List.ext_getElem?
  intro i
  by_cases e : i = k
  · subst e
    by_cases hl : i < mm_N c
    · rw [List.getElem?_set_self (by rw [mm_fs_len]; exact hl), mm_fs_get hl, h1]
    · rw [List.getElem?_eq_none (by rw [List.length_set, mm_fs_len]; omega), List.getElem?_eq_none (by rw [mm_fs_len]; omega)]
  · rw [List.getElem?_set_ne (fun z => e z.symm)]
    by_cases hl : i < mm_N c
    · rw [mm_fs_get hl, mm_fs_get hl, h2 i e]
    · rw [List.getElem?_eq_none (by rw [mm_fs_len]; omega), List.getElem?_eq_none (by rw [mm_fs_len]; omega)]
theorem wr_same {σ : mm_Mem} {o k : Nat} {v : Int} : wr σ o k v o k = v := by simp [wr]
theorem wr_row {σ : mm_Mem} {o k j : Nat} {v : Int} (h : j ≠ k) : wr σ o k v o j = σ o j := by simp [wr, h]
theorem wr_obj {σ : mm_Mem} {o k o' : Nat} {v : Int} (h : o' ≠ o) : wr σ o k v o' = σ o' := by funext j; simp [wr, h]
/-- the heap holds the picture -/
def mm_Rep (E : mm_Env) (Sh : List mm_Kd) (σ : mm_Mem) (s : State) (H : Heap) : Prop :=
  va_P E.1 vwCl (mm_W E Sh σ) H ∧ H.size = E.2.2.2.1 + (Sh.length - 2) ∧ 2 ≤ Sh.length ∧ va_X E.2.2.1 E.2.2.2.2 (fun k => Int32.ofInt (σ 1 k)) s H ∧ E.2.2.1 < E.2.2.2.1 ∧ (∀ (o k : Nat) (kd : mm_Kd), Sh[o]? = some kd → mm_slotI kd k = true → inR (σ o k))
theorem mm_Rep.moved {E : mm_Env} {Sh : List mm_Kd} {σ : mm_Mem} {s t : State} {H : Heap} (hvm : s.vm.Alike t.vm) (h : mm_Rep E Sh σ s H) : mm_Rep E Sh σ t H := ⟨h.1, h.2.1, h.2.2.1, h.2.2.2.1.moved hvm, h.2.2.2.2⟩
/-- one slot of one object is new -/
theorem mm_Rep.put1 {E : mm_Env} {Sh : List mm_Kd} {σ : mm_Mem} {s : State} {H H1 : Heap} {A : Nat → Prop} {locs locs1 : List Loc} {o k : Nat} {z : Int} {kd : mm_Kd} (h : mm_Rep E Sh σ s H) (hb : E.2.2.2.1 ≤ s.heap.size) (hS : va_S (mm_A E) s.heap H locs) (hS1 : va_S (mm_A E) s.heap H1 locs1) (ho : 2 ≤ o) (hk : Sh[o]? = some kd) (hz : mm_slotI kd k = true → inR z) (hsz : H1.size = H.size) (hP1 : va_P E.1 vwCl (mm_W E Sh (wr σ o k z)) H1) : mm_Rep E Sh (wr σ o k z) s H1 := by
  obtain ⟨hP, h2, h3, h4, h5, h6⟩ := h
  refine ⟨hP1, hsz.trans h2, h3, ?_, h5, fun o' k' kd' q1 q2 => ?_⟩
  · have e : (fun j => Int32.ofInt (wr σ o k z 1 j)) = fun j => Int32.ofInt (σ 1 j) := by
      funext j
      rw [wr_obj (show (1 : Nat) ≠ o by omega)]
    rw [e]
    refine h4.kept ?_
    rw [hS1.2.1 _ (by omega) (by show ¬ _ ≤ _; omega), hS.2.1 _ (by omega) (by show ¬ _ ≤ _; omega)]
  · by_cases e : o' = o ∧ k' = k
    · obtain ⟨rfl, rfl⟩ := e
      rw [wr_same]
      rw [hk] at q1
      cases q1
      exact hz q2
    · have e2 : wr σ o k z o' k' = σ o' k' := by simp only [wr, if_neg e]
      rw [e2]
      exact h6 o' k' kd' q1 q2
/-- the locals -/
def mm_prs (E : mm_Env) : Nat → List (Option mm_PV) → List (Nat × Value)
  | _, [] => []
  | i, some v :: r => (i, mm_up E v) :: mm_prs E (i + 1) r
  | i, none :: r => mm_prs E (i + 1) r
theorem mm_prs_mem {E : mm_Env} {q : Nat × Value} : ∀ {ls : List (Option mm_PV)} {i : Nat}, q ∈ mm_prs E i ls ↔ ∃ (j : Nat) (v : mm_PV), ls[j]? = some (some v) ∧ q = (i + j, mm_up E v)
  | [], i => by simp [mm_prs]
  | some w :: r, i => by
    simp only [mm_prs, List.mem_cons, mm_prs_mem (ls := r)]
    constructor
    · rintro (h | ⟨j, v, h1, h2⟩)
      · exact ⟨0, w, rfl, h⟩
      · exact ⟨j + 1, v, by simpa using h1, by rw [h2]; simp; omega⟩
    · rintro ⟨j, v, h1, h2⟩
      cases j with
      | zero => left; simp at h1; rw [h2, h1]; rfl
      | succ j => right; exact ⟨j, v, by simpa using h1, by rw [h2]; simp; omega⟩
  | none :: r, i => by
    simp only [mm_prs, mm_prs_mem (ls := r)]
    constructor
    · rintro ⟨j, v, h1, h2⟩
      exact ⟨j + 1, v, by simpa using h1, by rw [h2]; simp; omega⟩
    · rintro ⟨j, v, h1, h2⟩
      cases j with
      | zero => simp at h1
      | succ j => exact ⟨j, v, by simpa using h1, by rw [h2]; simp; omega⟩
def mm_Ls (E : mm_Env) (la : Array Slot) (nL : Nat) (ls : List (Option mm_PV)) : Prop := lv_has la nL (mm_prs E 0 ls)
theorem mm_Ls.at {E : mm_Env} {la : Array Slot} {nL i : Nat} {ls : List (Option mm_PV)} {v : mm_PV} (h : mm_Ls E la nL ls) (hl : ls[i]? = some (some v)) : la[i]? = some (.val (mm_up E v)) := by
  have := h.2.2 (i, mm_up E v) (mm_prs_mem.mpr ⟨i, v, hl, by simp⟩)
  exact this
def mm_ok (ls : List (Option mm_PV)) (i : Nat) : Bool := match i with
  | 0 => true
  | j + 1 => match ls[j]? with
    | some (some (.inr (.inl _))) => false
    | _ => true
theorem mm_cat {E : mm_Env} {v : mm_PV} (h : (mm_up E v).category = 2) : ∃ z, v = vL z := by
  rcases v with z | z | o
  · simp [mm_up, Value.category] at h
  · exact ⟨z, rfl⟩
  · unfold mm_up mm_rf mm_ro at h
    by_cases e : o = 0
    · simp [e, va_rf, Value.category] at h
    · simp [e, va_rf, Value.category] at h
theorem mm_ok_not {E : mm_Env} {ls : List (Option mm_PV)} {i j : Nat} {v : mm_PV} (h : mm_ok ls i = true) (hj : ls[j]? = some (some v)) (hji : j + 1 = i) : ¬ (mm_up E v).category = 2 := by
  intro hc
  obtain ⟨z, rfl⟩ := mm_cat hc
  subst hji
  simp [mm_ok, hj] at h
theorem mm_Ls.store {E : mm_Env} {la : Array Slot} {nL i : Nat} {ls : List (Option mm_PV)} {v : mm_PV} (h : lv_has la nL ((i, mm_up E v) :: (mm_prs E 0 ls).filter (fun q => !(q.1 == i) && !(q.1 + 1 == i && q.2.category == 2)))) (ok : mm_ok ls i = true) : mm_Ls E la nL (ls.set i (some v)) := by
  refine ⟨h.1, h.2.1, fun q hq => ?_⟩
  obtain ⟨j, w, h1, rfl⟩ := mm_prs_mem.mp hq
  by_cases e : j = i
  · subst e
    have hl : j < ls.length := by
      have := (List.getElem?_eq_some_iff.mp h1).1
      simpa using this
    rw [List.getElem?_set_self hl] at h1
    cases h1
    exact h.2.2 _ (by simp)
  · rw [List.getElem?_set_ne (fun z => e z.symm)] at h1
    refine h.2.2 _ (List.mem_cons_of_mem _ (List.mem_filter.mpr ⟨mm_prs_mem.mpr ⟨j, w, h1, rfl⟩, ?_⟩))
    simp only [Nat.zero_add, Bool.and_eq_true, Bool.not_eq_true', beq_eq_false_iff_ne, ne_eq, Bool.and_eq_false_iff]
    refine ⟨e, ?_⟩
    by_cases e2 : j + 1 = i
    · exact Or.inr (mm_ok_not ok h1 e2)
    · exact Or.inl e2
theorem mm_Ls.store2 {E : mm_Env} {la : Array Slot} {nL i : Nat} {ls : List (Option mm_PV)} {v : mm_PV} (h : lv_has la nL ((i, mm_up E v) :: (mm_prs E 0 ls).filter (fun q => !(q.1 == i) && (!(q.1 == i + 1) && !(q.1 + 1 == i && q.2.category == 2))))) (ok : mm_ok ls i = true) : mm_Ls E la nL ((ls.set i (some v)).set (i + 1) none) := by
  refine ⟨h.1, h.2.1, fun q hq => ?_⟩
  obtain ⟨j, w, h1, rfl⟩ := mm_prs_mem.mp hq
  by_cases e1 : j = i + 1
  · subst e1
    by_cases hl : i + 1 < ls.length
    · rw [List.getElem?_set_self (by simpa using hl)] at h1
      cases h1
    · rw [List.getElem?_eq_none (by simpa using hl)] at h1
      cases h1
  rw [List.getElem?_set_ne (fun z => e1 z.symm)] at h1
  by_cases e : j = i
  · subst e
    have hl : j < ls.length := by
      have := (List.getElem?_eq_some_iff.mp h1).1
      simpa using this
    rw [List.getElem?_set_self hl] at h1
    cases h1
    exact h.2.2 _ (by simp)
  · rw [List.getElem?_set_ne (fun z => e z.symm)] at h1
    refine h.2.2 _ (List.mem_cons_of_mem _ (List.mem_filter.mpr ⟨mm_prs_mem.mpr ⟨j, w, h1, rfl⟩, ?_⟩))
    simp only [Nat.zero_add, Bool.and_eq_true, Bool.not_eq_true', beq_eq_false_iff_ne, ne_eq, Bool.and_eq_false_iff]
    refine ⟨e, e1, ?_⟩
    by_cases e2 : j + 1 = i
    · exact Or.inr (mm_ok_not ok h1 e2)
    · exact Or.inl e2
/-- fewer locals -/
theorem mm_Ls.less {E : mm_Env} {la : Array Slot} {nL : Nat} {ls ls' : List (Option mm_PV)} (h : mm_Ls E la nL ls) (hl : ∀ (j : Nat) (v : mm_PV), ls'[j]? = some (some v) → ls[j]? = some (some v)) : mm_Ls E la nL ls' := by
  refine ⟨h.1, h.2.1, fun q hq => ?_⟩
  obtain ⟨j, w, h1, rfl⟩ := mm_prs_mem.mp hq
  exact h.2.2 _ (mm_prs_mem.mpr ⟨j, w, hl j w h1, rfl⟩)
def mm_le : List (Option mm_PV) → List (Option mm_PV) → Prop
  | [], _ => True
  | none :: r, _ :: r' => mm_le r r'
  | none :: r, [] => mm_le r []
  | some v :: r, some v' :: r' => v = v' ∧ mm_le r r'
  | some _ :: _, _ => False
theorem mm_le_at : ∀ {ls' ls : List (Option mm_PV)}, mm_le ls' ls → ∀ (j : Nat) (v : mm_PV), ls'[j]? = some (some v) → ls[j]? = some (some v)
  | [], _, _, j, v, h => by simp at h
  | none :: r, a :: r', hl, j, v, h => by
    cases j with
    | zero => simp at h
    | succ j => simpa using mm_le_at (ls' := r) (ls := r') hl j v (by simpa using h)
  | none :: r, [], hl, j, v, h => by
    cases j with
    | zero => simp at h
    | succ j => exact absurd (mm_le_at (ls' := r) (ls := []) hl j v (by simpa using h)) (by simp)
  | some w :: r, some w' :: r', hl, j, v, h => by
    obtain ⟨rfl, hl⟩ := hl
    cases j with
    | zero => simpa using h
    | succ j => simpa using mm_le_at (ls' := r) (ls := r') hl j v (by simpa using h)
  | some w :: r, none :: r', hl, j, v, h => hl.elim
  | some w :: r, [], hl, j, v, h => hl.elim
/-! words, contracts and the judgement -/
def mm_gw : Cond → Bool
  | .fieldLinkNest _ _ _ _ _ _ => true
  | .methodLinkNest _ _ _ _ => true
  | w => goodWord w
def mm_T : List Cond := lw_tbl.filter mm_gw
theorem mm_T_in {w : Cond} (h : w ∈ lw_tbl) (hg : mm_gw w = true) : w ∈ mm_T := List.mem_filter.mpr ⟨h, hg⟩
theorem mm_T_pay {args : Array Value} {s : State} (hts : ∀ w ∈ mm_T, w.before args s = true) : ∀ w ∈ mm_T, ∀ (a' : Array Value) (U : State), s.WarmedH U.vm → w.before a' U = true := by
  intro w hw a' U hW
  have hg := (List.mem_filter.mp hw).2
  have hb := hts w hw
  cases w <;> first
    | exact va_Nw.use rfl (va_Nw.warmF hW (va_Nw.of rfl hb))
    | exact va_Nw.use rfl (va_Nw.warmM hW (va_Nw.of rfl hb))
    | exact word_at hW (good_of_word hg) hb
def mm_ws (q : mm_Y) : List Cond := Cond.code q.1 q.2.1 q.2.2.1 q.2.2.2 :: mm_T
def mm_tys (E : mm_Env) : List (ClassId × FieldType) := [(E.2.1 .int, .int), (E.2.1 .long, .long), (E.2.1 .boolean, .boolean), (E.2.1 (.object "TuneDoor$Door"), .object "TuneDoor$Door"), (E.2.1 (.object "TuneDoor$Person"), .object "TuneDoor$Person"), (E.2.1 (.array .int), .array .int)]
abbrev mm_rm (d mc ms : Nat) : Room := { frames := d, cells := mc, slots := ms, locals := 40 * d }
/-- what is known of the method that runs -/
def mm_Cx (E : mm_Env) (q : mm_Y) (p : Program) (s : State) (m : MethodId) (args : Array Value) (meth : Method) (c : Code) : Prop :=
  p.tables.exec = Jvm.exec ∧ c.code = q.2.1 ∧ c.maxLocals = q.2.2.1 ∧ s.vm.findClass q.1.cls = some m.cls ∧ (∀ w ∈ mm_T, w.before args s = true) ∧ va_K E.1 vwCl (mm_tys E) s ∧ E.2.2.2.1 ≤ s.heap.size ∧ meth.name = q.1.name
def mm_ri (r : Option FieldType) : Instr := match r with
  | none => .return_
  | some .long => .lreturn
  | some (.object _) => .areturn
  | some (.array _) => .areturn
  | some _ => .ireturn
def mm_fit (r : Option FieldType) (v : Option mm_PV) : Prop := match r with
  | none => v = none
  | some .long => ∃ z, v = some (vL z)
  | some (.object _) => ∃ o, v = some (vR o)
  | some .boolean => ∃ z, v = some (vI z) ∧ (z = 0 ∨ z = 1)
  | some .int => ∃ z, v = some (vI z)
  | _ => False
abbrev mm_Q : Type := Option mm_PV → List mm_Kd → mm_Mem → Prop
/-- from here the method comes to a return, with Q of the answer and of the memory then -/
def vv (E : mm_Env) (R : Room) (q : mm_Y) (mc ms cs sl : Nat) (Sh : List mm_Kd) (pc : Nat) (ls : List (Option mm_PV)) (st : List mm_PV) (σ : mm_Mem) (Q : mm_Q) : Prop :=
  ∀ (p : Program) (l : Launch) (e : Env) (s : State) (m : MethodId) (args : Array Value) (below : List Frame) (meth : Method) (c : Code) (H : Heap) (locs : List Loc) (la : Array Slot) (QM : State → Prop),
    mm_Cx E q p s m args meth c → mm_Rep E Sh σ s H → va_S (mm_A E) s.heap H locs → mm_Ls E la q.2.2.1 ls →
    (∀ (pc' : Nat) (la' : Array Slot) (v : Option mm_PV) (Sh' : List mm_Kd) (σ' : mm_Mem) (H' : Heap) (locs' : List Loc), Q v Sh' σ' → mm_fit q.2.2.2 v → mm_Rep E Sh' σ' s H' → va_S (mm_A E) s.heap H' locs' → decode q.2.1 pc' = .ok (mm_ri q.2.2.2, 1) → W p l e R s m args below meth c H' locs' mc ms QM (F0 m pc' la' (v.toList.map (mm_up E)))) →
    W p l e R s m args below meth c H locs cs sl QM (F0 m pc la (st.map (mm_up E)))
def mm_Pre (E : mm_Env) (As : List mm_PV) (Sh : List mm_Kd) (σ : mm_Mem) : Array Value → State → Prop := va_Pc (As.map (mm_up E)) (fun U => mm_Rep E Sh σ U U.heap ∧ va_K E.1 vwCl (mm_tys E) U)
def mm_Post (E : mm_Env) (Q : mm_Q) : Array Value → State → Outcome → State → Prop := fun _ st o t => (∃ (v : Option mm_PV) (Sh' : List mm_Kd) (σ' : mm_Mem), o = .returned (v.map (mm_up E)) ∧ Q v Sh' σ' ∧ mm_Rep E Sh' σ' t t.heap) ∧ va_F (mm_A E) st t
/-- a method's contract at these arguments and this memory -/
def vm (E : mm_Env) (d mc ms : Nat) (q : mm_Y) (As : List mm_PV) (Sh : List mm_Kd) (σ : mm_Mem) (Q : mm_Q) : Prop :=
  ∀ l : Launch, Met l q.1 (mm_ws q) (mm_rm d mc ms) (mm_Pre E As Sh σ) (mm_Post E Q) mc ms (mm_A E)
def mm_ent : List mm_PV → List (Option mm_PV)
  | [] => []
  | .inr (.inl z) :: r => some (vL z) :: none :: mm_ent r
  | .inl z :: r => some (vI z) :: mm_ent r
  | .inr (.inr o) :: r => some (vR o) :: mm_ent r
def mm_loc (As : List mm_PV) (n : Nat) : List (Option mm_PV) := mm_ent As ++ List.replicate (n - (mm_ent As).length) none
theorem mm_prs_nil {E : mm_Env} : ∀ (k i : Nat), mm_prs E i (List.replicate k none) = []
  | 0, _ => rfl
  | k + 1, i => by rw [List.replicate_succ]; exact mm_prs_nil k (i + 1)
theorem mm_cat_r {E : mm_Env} {o : Nat} : (mm_rf E o).category = 1 := by
  unfold mm_rf mm_ro
  by_cases e : o = 0
  · simp [e, va_rf, Value.category]
  · simp [e, va_rf, Value.category]
theorem mm_ent_args {E : mm_Env} (k : Nat) : ∀ (As : List mm_PV) (i : Nat), mm_prs E i (mm_ent As ++ List.replicate k none) = lv_args i (As.map (mm_up E))
  | [], i => mm_prs_nil k i
  | .inl z :: r, i => by
    simp only [mm_ent, List.cons_append, mm_prs, List.map_cons, lv_args, mm_ent_args k r]
    simp [mm_up, Value.category]
  | .inr (.inl z) :: r, i => by
    simp only [mm_ent, List.cons_append, mm_prs, List.map_cons, lv_args, mm_ent_args k r]
    simp [mm_up, Value.category]
  | .inr (.inr o) :: r, i => by
    simp only [mm_ent, List.cons_append, mm_prs, List.map_cons, lv_args, mm_ent_args k r]
    simp [mm_up, mm_cat_r]
theorem mm_ent_len {E : mm_Env} : ∀ (As : List mm_PV), (lg_sl (As.map (mm_up E))).length = (mm_ent As).length
  | [] => rfl
  | .inl z :: r => by
    have := mm_ent_len (E := E) r
    simp only [lg_sl, List.map_cons, List.flatMap_cons, List.length_append, mm_ent, List.length_cons] at this ⊢
    rw [this]
    simp [mm_up, Value.category]
    omega
  | .inr (.inl z) :: r => by
    have := mm_ent_len (E := E) r
    simp only [lg_sl, List.map_cons, List.flatMap_cons, List.length_append, mm_ent, List.length_cons] at this ⊢
    rw [this]
    simp [mm_up, Value.category]
    omega
  | .inr (.inr o) :: r => by
    have := mm_ent_len (E := E) r
    simp only [lg_sl, List.map_cons, List.flatMap_cons, List.length_append, mm_ent, List.length_cons] at this ⊢
    rw [this]
    simp [mm_up, mm_cat_r]
    omega
theorem mm_ref_or {E : mm_Env} {o : Nat} : mm_rf E o = .null ∨ ∃ a, mm_rf E o = .ref a := by
  unfold mm_rf mm_ro
  by_cases e : o = 0
  · simp [e, va_rf]
  · simp [e, va_rf]
theorem mm_nb {z : Int} (h : z = 0 ∨ z = 1) : narrow .boolean (.int (Int32.ofInt z)) = .int (Int32.ofInt z) := by rcases h with rfl | rfl <;> rfl
/-- a method's contract out of the walk of its body -/
theorem vm_of {E : mm_Env} {d mc ms : Nat} {q : mm_Y} {As : List mm_PV} {Sh : List mm_Kd} {σ : mm_Mem} {Q : mm_Q} (hp : plainName q.1.cls = true) (hn : (mm_ent As).length ≤ q.2.2.1) (ls : List (Option mm_PV)) (hls : mm_loc As q.2.2.1 = ls) (h : vv E (mm_rm d mc ms) q mc ms 0 0 Sh 0 ls [] σ Q) : vm E d mc ms q As Sh σ Q := by
  intro l
  refine Met.ofW (cc := q.2.1) (maxL := q.2.2.1) (ret := q.2.2.2) hp rfl ?_
  intro p e s m args below meth c s₁ B hml hv
  obtain ⟨rfl, hR, hK⟩ := hv
  have hts := atoms_spec (ws := mm_ws q) B.pre
  have hown : s.vm.findClass q.1.cls = some m.cls := findClass_of_methodNamed B.named
  have hlocks := B.notSynchronized
  have hbytes := B.bytes
  have hx := B.exec
  have hr := B.returns
  rw [lg_entry_eq]
  have hl := lv_entry (As.map (mm_up E)) (n := q.2.2.1) (by rw [mm_ent_len]; exact hn)
  have hls2 : mm_Ls E ((lg_sl (As.map (mm_up E)) ++ List.replicate (q.2.2.1 - (lg_sl (As.map (mm_up E))).length) Slot.unset).toArray) q.2.2.1 ls := by
    subst hls
    unfold mm_Ls mm_loc
    rw [mm_ent_args]
    exact hl
  have hbs : E.2.2.2.1 ≤ s.heap.size := by rw [hR.2.1]; omega
  refine h p l e s m _ below meth c s.heap [] _ _ ⟨hx, hbytes, hml, hown, fun w hw => hts w (List.mem_cons_of_mem _ hw), hK, hbs, (name_of_methodNamed B.named B.method).1⟩ hR va_S.rf hls2 ?_
  intro pc' la' v Sh' σ' H' locs' hQ hfit hR' hS' hd
  have hq : ∀ t : State, t.heap = H' → s.WarmedH t.vm → mm_Post E Q ((As.map (mm_up E)).toArray) s (.returned (v.map (mm_up E))) t := fun t ht hW => ⟨⟨v, Sh', σ', rfl, hQ, by rw [ht]; exact hR'.moved hW.alike⟩, hS'.F ht⟩
  generalize hrq : q.2.2.2 = rt at *
  cases rt with
  | none =>
    have e : v = none := hfit
    subst e
    exact W.vret hx hbytes hr hq hS'.2.2 hd
  | some ty =>
    cases ty with
    | int => obtain ⟨z, rfl⟩ := hfit; exact W.iret hx hbytes hr hq hS'.2.2 hd
    | boolean => obtain ⟨z, rfl, hz⟩ := hfit; exact W.zret hx hbytes hr (mm_nb hz) hq hS'.2.2 hd
    | long => obtain ⟨z, rfl⟩ := hfit; exact W.lret hx hbytes hr hq hS'.2.2 hd
    | object C => obtain ⟨o, rfl⟩ := hfit; exact W.aret hx hbytes hr (Or.inl ⟨C, rfl⟩) mm_ref_or hq hS'.2.2 hd
    | _ => exact hfit.elim
theorem vm.mono {E : mm_Env} {d mc ms : Nat} {q : mm_Y} {As : List mm_PV} {Sh : List mm_Kd} {σ : mm_Mem} {Q Q' : mm_Q} (h : vm E d mc ms q As Sh σ Q) (hQ : ∀ v Sh' σ', Q v Sh' σ' → Q' v Sh' σ') : vm E d mc ms q As Sh σ Q' := by
  intro l
  have h1 := h l
  unfold Met MetFree at h1 ⊢
  intro p e ha hc hk s m args below hf hap hP hK
  obtain ⟨k, o, q1, q2, q3, q4⟩ := h1 p e ha hc hk s m args below hf hap hP hK
  obtain ⟨⟨⟨v, Sh', σ', r1, r2, r3⟩, r4⟩, r5⟩ := q4
  exact ⟨k, o, q1, q2, q3, ⟨⟨v, Sh', σ', r1, hQ _ _ _ r2, r3⟩, r4⟩, r5⟩
