/-! an array of arrays -/
theorem mm_Rep.grow {E : mm_Env} {Sh M : List mm_Kd} {σ σ' : mm_Mem} {s : State} {H H1 : Heap} (hR : mm_Rep E Sh σ s H) (hσ : ∀ o, o < Sh.length → σ' o = σ o) (hat : ∀ (j : Nat) (kd : mm_Kd), M[j]? = some kd → va_at E.1 vwCl (H.size + j, mm_E E kd (σ' (Sh.length + j))) H1) (hr : ∀ (j : Nat) (kd : mm_Kd) (k : Nat), M[j]? = some kd → mm_slotI kd k = true → inR (σ' (Sh.length + j) k)) (z1 : H1.size = H.size + M.length) (o1 : ∀ q, q < H.size → H1[q]? = H[q]?) : mm_Rep E (Sh ++ M) σ' s H1 := by
  obtain ⟨hP, h2, h3, h4, h5, h6⟩ := hR
  have e1 : σ' 1 = σ 1 := hσ 1 (by omega)
  refine ⟨fun i x hx => ?_, ?_, ?_, ?_, h5, fun o k kd' q1 q2 => ?_⟩
  · obtain ⟨hi, rfl⟩ := mm_W_some hx
    rw [List.length_append] at hi
    by_cases q : i + 2 < Sh.length
    · have hg : (Sh ++ M).getD (i + 2) (.inr 99) = Sh.getD (i + 2) (.inr 99) := by rw [List.getD_eq_getElem?_getD, List.getD_eq_getElem?_getD, List.getElem?_append_left q]
      rw [hg, hσ _ q]
      obtain ⟨kd, hkd⟩ : ∃ kd, Sh[i + 2]? = some kd := ⟨_, List.getElem?_eq_getElem q⟩
      have hw := mm_W_get (E := E) (σ := σ) (o := i + 2) (by omega) hkd
      have hp := hP _ _ hw
      have e : mm_ad E (i + 2) = E.2.2.2.1 + i := by unfold mm_ad; rw [if_neg (by omega)]; omega
      rw [e] at hp
      rw [List.getD_eq_getElem?_getD, hkd]
      exact hp.kept (o1 _ (by rw [h2]; show E.2.2.2.1 + i < _; omega))
    · obtain ⟨kd, hkd⟩ : ∃ kd, M[i + 2 - Sh.length]? = some kd := ⟨_, List.getElem?_eq_getElem (by omega)⟩
      have hp := hat _ _ hkd
      rw [List.getD_eq_getElem?_getD, List.getElem?_append_right (by omega), hkd]
      rw [h2, show E.2.2.2.1 + (Sh.length - 2) + (i + 2 - Sh.length) = E.2.2.2.1 + i by omega, show Sh.length + (i + 2 - Sh.length) = i + 2 by omega] at hp
      exact hp
  · rw [z1, h2, List.length_append]; omega
  · rw [List.length_append]; omega
  · rw [e1]; exact h4.kept (o1 _ (by omega))
  · by_cases q : o < Sh.length
    · rw [List.getElem?_append_left q] at q1
      rw [hσ o q]; exact h6 o k kd' q1 q2
    · rw [List.getElem?_append_right (by omega)] at q1
      have := hr _ _ k q1 q2
      rw [show Sh.length + (o - Sh.length) = o by omega] at this
      exact this
/-! one turn of the making: an inner row, and its place in the outer one -/
def tuI (comp : ClassId) : Cell := { cls := comp, slots := Array.replicate 1000 (.int 0), vm := .none }
def tuS (S : State) (h j : Nat) (comp : ClassId) (oc : Cell) : State := (S.pushCell (tuI comp)).setCell h (oc.setSlot j (.ref S.heap.size))
theorem tu_facts {S : State} {h j : Nat} {comp : ClassId} {oc : Cell} (hc : S.heap[h]? = some oc) : (tuS S h j comp oc).heap.size = S.heap.size + 1 ∧ (tuS S h j comp oc).heap[h]? = some (oc.setSlot j (.ref S.heap.size)) ∧ (tuS S h j comp oc).heap[S.heap.size]? = some (tuI comp) ∧ (∀ a, a < S.heap.size → a ≠ h → (tuS S h j comp oc).heap[a]? = S.heap[a]?) ∧ (tuS S h j comp oc).vm = S.vm ∧ (tuS S h j comp oc).slotsUsed = S.slotsUsed + 1000 := by
  have hlt : h < S.heap.size := (Array.getElem?_eq_some_iff.mp hc).1
  have hb : (S.pushCell (tuI comp)).heap[h]? = some oc := by rw [State.heap_pushCell_of_lt (h := hlt)]; exact hc
  refine ⟨by simp [tuS, State.setCell], State.heap_setCell_self hb, ?_, fun a ha hn => ?_, by simp [tuS], by simp [tuS, tuI]⟩
  · unfold tuS
    rw [State.heap_setCell_other (show h ≠ S.heap.size by omega)]
    exact State.heap_pushCell_size _ _
  · unfold tuS
    rw [State.heap_setCell_other (fun z => hn z.symm), State.heap_pushCell_of_lt (h := ha)]
theorem tu_top {S : State} {h j : Nat} {comp : ClassId} {oc : Cell} {f : JFrame} : tuS (S.setTop f) h j comp oc = (tuS S h j comp oc).setTop f := by
  unfold tuS
  rw [State.heap_setTop, State.pushCell_setTop, State.setCell_setTop]
theorem tu_stand {p : Program} {l : Launch} {e : Env} {R : Room} {s : State} {m : MethodId} {args : Array Value} {below : List Frame} {meth : Method} {c : Code} {S : State} {locs : List Loc} {cells slots h j : Nat} {comp : ClassId} {oc : Cell} (X : Stand p l e R s m args below meth c S locs cells slots) (hc : S.heap[h]? = some oc) : Stand p l e R s m args below meth c (tuS S h j comp oc) (locs ++ [⟨h, j⟩]) (cells + 1) (slots + 1000) := by
  have hlt : h < S.heap.size := (Array.getElem?_eq_some_iff.mp hc).1
  have hb : (S.pushCell (tuI comp)).heap[h]? = some oc := by rw [State.heap_pushCell_of_lt (h := hlt)]; exact hc
  have Y := (X.pushed (tuI comp)).stored hb j (.ref S.heap.size)
  have e1 : (tuI comp).slots.size = 1000 := by simp [tuI]
  rw [e1] at Y
  exact Y
section TuWp
variable {E : CtlPost} {e : Env} {d : Bool} {acts : List Action} {S : State}
theorem tu_wp {h j : Nat} {comp cc cA : ClassId} {kc kA : Class} {oc : Cell} {Q : ForInStep PUnit → Pre} (hkc : S.vm.classes[comp]? = some kc) (hkind : kc.kind = .array cc .int) (hkA : S.vm.classes[cA]? = some kA) (hkindA : kA.kind = .array comp (.array .int)) (hl : ¬ 1000 > e.platform.arrayLengthLimit) (hh : ¬ 1000 * componentBytes .int > e.platform.maxHeapBytes) (h1 : S.heap.size < e.platform.maxCells) (h2 : S.slotsUsed + 1000 ≤ e.platform.maxSlots) (hc : S.heap[h]? = some oc) (ho : oc.cls = cA ∧ oc.vm = .none ∧ oc.slots.size = 3) (hj : j < 3) (hq : ∀ d' acts', Q (ForInStep.yield PUnit.unit) d' acts' (tuS S h j comp oc)) : wp (do writeLoc h j (.ref (← multianewarray.make comp [Int32.ofInt 1000])); Pure.pure (ForInStep.yield PUnit.unit)) Q E e d acts S := by
  have hlt : h < S.heap.size := (Array.getElem?_eq_some_iff.mp hc).1
  have hb : (S.pushCell (tuI comp)).heap[h]? = some oc := by rw [State.heap_pushCell_of_lt (h := hlt)]; exact hc
  have t1 : (Int32.ofInt 1000).toNatClampNeg = 1000 := by decide
  have tn : ¬ (Int32.ofInt 1000) < 0 := by decide
  simp only [wp_bind']
  rw [multianewarray.make]
  simp only [wp_bind', W.ite, tn, if_false, wp_pure', W.theClass, hkc, hkind, Option.some.injEq, exists_eq_left', t1]
  refine W.newArray_of hkc hkind hl hh h1 h2 rfl (fun acts' => ?_)
  simp only [wp_bind', W.writeLoc, wp_pure']
  refine ⟨oc, hb, by rw [ho.2.1]; simp, by rw [ho.2.2]; exact hj, ?_, hq _ _⟩
  rw [ho.1, ho.2.1]
  have hvm : (S.pushCell (tuI comp)).vm = S.vm := rfl
  show (S.pushCell (tuI comp)).fitsSlot cA .none j (.ref S.heap.size) = true
  simp [State.fitsSlot, State.slotType?, hvm, hkA, hkindA, fits]
def tuO (cA : ClassId) : Cell := { cls := cA, slots := Array.replicate 3 .null, vm := .none }
def tu1 (S : State) (cA comp : ClassId) : State := tuS (S.pushCell (tuO cA)) S.heap.size 0 comp (tuO cA)
def tuO1 (h : Nat) (cA : ClassId) : Cell := (tuO cA).setSlot 0 (.ref (h + 1))
def tu2 (S : State) (cA comp : ClassId) : State := tuS (tu1 S cA comp) S.heap.size 1 comp (tuO1 S.heap.size cA)
def tuO2 (h : Nat) (cA : ClassId) : Cell := (tuO1 h cA).setSlot 1 (.ref (h + 2))
def tu3 (S : State) (cA comp : ClassId) : State := tuS (tu2 S cA comp) S.heap.size 2 comp (tuO2 S.heap.size cA)
def tuO3 (h : Nat) (cA : ClassId) : Cell := (tuO2 h cA).setSlot 2 (.ref (h + 3))
theorem tu_all (S : State) (cA comp : ClassId) : ((S.pushCell (tuO cA)).heap.size = S.heap.size + 1 ∧ (S.pushCell (tuO cA)).heap[S.heap.size]? = some (tuO cA)) ∧ ((tu1 S cA comp).heap.size = S.heap.size + 2 ∧ (tu1 S cA comp).heap[S.heap.size]? = some (tuO1 S.heap.size cA)) ∧ ((tu2 S cA comp).heap.size = S.heap.size + 3 ∧ (tu2 S cA comp).heap[S.heap.size]? = some (tuO2 S.heap.size cA)) ∧ (tu3 S cA comp).heap.size = S.heap.size + 4 ∧ (tu3 S cA comp).heap[S.heap.size]? = some (tuO3 S.heap.size cA) := by
  have a0 : (S.pushCell (tuO cA)).heap.size = S.heap.size + 1 := by simp
  have a1 : (S.pushCell (tuO cA)).heap[S.heap.size]? = some (tuO cA) := State.heap_pushCell_size _ _
  obtain ⟨b0, b1, -⟩ := tu_facts (j := 0) (comp := comp) a1
  rw [a0] at b0 b1
  obtain ⟨c0, c1, -⟩ := tu_facts (S := tu1 S cA comp) (j := 1) (comp := comp) b1
  have b2 : (tu1 S cA comp).heap.size = S.heap.size + 2 := b0
  rw [b2] at c0 c1
  obtain ⟨d0, d1, -⟩ := tu_facts (S := tu2 S cA comp) (j := 2) (comp := comp) c1
  have c2 : (tu2 S cA comp).heap.size = S.heap.size + 3 := c0
  rw [c2] at d0 d1
  exact ⟨⟨a0, a1⟩, ⟨b2, b1⟩, ⟨c2, c1⟩, d0, d1⟩
theorem mu_wp {cA comp cc : ClassId} {kc kA : Class} {Q : Addr → Pre} (hkc : S.vm.classes[comp]? = some kc) (hkind : kc.kind = .array cc .int) (hkA : S.vm.classes[cA]? = some kA) (hkindA : kA.kind = .array comp (.array .int)) (hl : ¬ 1000 > e.platform.arrayLengthLimit) (hh : ¬ 1000 * componentBytes .int > e.platform.maxHeapBytes) (h1 : S.heap.size + 4 ≤ e.platform.maxCells) (h2 : S.slotsUsed + 3003 ≤ e.platform.maxSlots) (hq : ∀ d' acts', Q S.heap.size d' acts' (tu3 S cA comp)) : wp (multianewarray.make cA [Int32.ofInt 3, Int32.ofInt 1000]) Q E e d acts S := by
  have t3 : (Int32.ofInt 3).toNatClampNeg = 3 := by decide
  have n3 : ¬ (Int32.ofInt 3) < 0 := by decide
  have n1 : ¬ (Int32.ofInt 1000) < 0 := by decide
  have fd : ([Int32.ofInt 1000].find? (· < 0)) = none := by simp [n1]
  obtain ⟨⟨a0, a1⟩, ⟨b0, b1⟩, ⟨c0, c1⟩, d0, d1⟩ := tu_all S cA comp
  obtain ⟨-, -, -, -, v1, u1⟩ := tu_facts (j := 0) (comp := comp) a1
  obtain ⟨-, -, -, -, v2, u2⟩ := tu_facts (S := tu1 S cA comp) (j := 1) (comp := comp) b1
  have e1 : (tu1 S cA comp).vm = S.vm := v1
  have e2 : (tu2 S cA comp).vm = S.vm := Eq.trans v2 e1
  have u0 : (S.pushCell (tuO cA)).slotsUsed = S.slotsUsed + 3 := by simp [tuO]
  have w1 : (tu1 S cA comp).slotsUsed = S.slotsUsed + 1003 := by have : (tu1 S cA comp).slotsUsed = _ := u1; omega
  have w2 : (tu2 S cA comp).slotsUsed = S.slotsUsed + 2003 := by have : (tu2 S cA comp).slotsUsed = _ := u2; omega
  rw [multianewarray.make]
  simp only [wp_bind', W.ite, n3, if_false, wp_pure', W.theClass, hkA, hkindA, Option.some.injEq, exists_eq_left', t3]
  refine W.newArray_of hkA hkindA (by omega) (by simp [componentBytes] at hh ⊢; omega) (by omega) (by omega) rfl (fun acts' => ?_)
  simp only [fd]
  rw [ite_self, wp_bind', Std.Legacy.Range.forIn_eq_forIn_range']
  show wp (forIn [0, 1, 2] PUnit.unit _) _ E e d acts' _
  simp only [List.forIn_cons, List.forIn_nil]
  rw [wp_bind']
  refine tu_wp (S := S.pushCell (tuO cA)) (oc := tuO cA) hkc hkind hkA hkindA hl hh (by omega) (by omega) a1 ⟨rfl, rfl, by simp [tuO]⟩ (by omega) (fun d1 acts1 => ?_)
  rw [wp_bind']
  refine tu_wp (S := tu1 S cA comp) (oc := tuO1 S.heap.size cA) (by rw [e1]; exact hkc) hkind (by rw [e1]; exact hkA) hkindA hl hh (by omega) (by omega) b1 ⟨rfl, rfl, by simp [tuO1, tuO, Cell.setSlot]⟩ (by omega) (fun d2 acts2 => ?_)
  rw [wp_bind']
  refine tu_wp (S := tu2 S cA comp) (oc := tuO2 S.heap.size cA) (by rw [e2]; exact hkc) hkind (by rw [e2]; exact hkA) hkindA hl hh (by omega) (by omega) c1 ⟨rfl, rfl, by simp [tuO2, tuO1, tuO, Cell.setSlot]⟩ (by omega) (fun d3 acts3 => ?_)
  simp only [wp_pure']
  exact hq _ _
end TuWp
section VxMulti
variable {X : State → Prop} {E : mm_Env} {R : Room} {q : mm_Y} {mc ms cs sl : Nat} {Sh : List mm_Kd} {pc pc' : Nat} {ls : List (Option mm_PV)} {st : List mm_PV} {σ : mm_Mem} {Q : mm_Q}
def mul3 (σ : mm_Mem) (n : Nat) : mm_Mem := wr (wr (wr σ n 0 ((n + 1 : Nat) : Int)) n 1 ((n + 2 : Nat) : Int)) n 2 ((n + 3 : Nat) : Int)
theorem tu3_top {S : State} {cA comp : ClassId} {f : JFrame} : tu3 (S.setTop f) cA comp = (tu3 S cA comp).setTop f := by
  unfold tu3 tu2 tu1
  rw [State.heap_setTop, State.pushCell_setTop, tu_top, tu_top, tu_top]
theorem vx_multi {i n : Nat} (hd : decode q.2.1 pc = .ok (.multianewarray i 2, 4)) (hp : pc + 4 = pc') (hl : Cond.classLink q.1.cls i "[[I" ∈ mm_T) (hov : ∀ s, X s → (Cond.arrayOver (.array .int)).before #[] s = true) (hn : Sh.length = n) (hz : ∀ o, n ≤ o → ∀ k, σ o k = 0) (hce : cs + 4 ≤ R.cells) (hsl : sl + 3003 ≤ R.slots) (kk : vx X E R q mc ms (cs + 4) (sl + 3003) (Sh ++ [.inl (.array .int, 3), .inl (.int, 1000), .inl (.int, 1000), .inl (.int, 1000)]) pc' ls (vR n :: st) (mul3 σ n) Q) : vx X E R q mc ms cs sl Sh pc ls (vI 1000 :: vI 3 :: st) σ Q := by
  subst hp
  intro p l e s m args below meth c9 H locs la QM hC hX hR hS hL hret
  have hts := hC.2.2.2.2.1
  have hK := hC.2.2.2.2.2.1
  have hu := mm_up_new hR
  have h2 := hR.2.1
  have h3 := hR.2.2.1
  intro T hT XS
  have hpl : e.platform.magicAccessors = ({} : Platform).magicAccessors := by rw [XS.admits.platform]
  obtain ⟨comp, cA, kA, hcomp, -, hkA, hkindA, hnameA⟩ := arrayOverA_spec (hov s hX)
  obtain ⟨comp', kC, cc, hcomp', hkC, hkindC⟩ := Cond.arrayClass_spec (hts _ wm_72)
  have ecomp : comp' = comp := Option.some.inj (hcomp'.symm.trans hcomp)
  subst ecomp
  obtain ⟨c0, hfc0, hcl⟩ := Cond.classLink_spec hC.2.2.2.1 (hts _ hl) e.platform hpl
  cases hnameA.symm.trans hfc0
  obtain ⟨hg1, hwarm1, hready1⟩ := State.classEntry (e := e) XS.warmed hcl
  generalize hv1 : T.vm.noted m.cls i (.cls cA) = vm1 at hg1 hwarm1 hready1
  have hal : s.vm.Alike vm1 := hwarm1.alike
  obtain ⟨kA1, hkA1, heA⟩ := hal.2.2 _ _ hkA
  obtain ⟨kC1, hkC1, heC⟩ := hal.2.2 _ _ hkC
  have hkindA1 : kA1.kind = .array comp' (.array .int) := by rw [heA]; exact hkindA
  have hkindC1 : kC1.kind = .array cc .int := by rw [heC]; exact hkindC
  have X1 := XS.noted hwarm1
  obtain ⟨r1, r2⟩ := XS.roomAbove hce hsl
  have ecA : cA = E.2.1 (.array .int) := by
    have h9 : s.vm.findClass ("[" ++ (FieldType.array .int).toString) = some (E.2.1 (.array .int)) := (hK.2 5 _ rfl).2
    exact Option.some.inj (hnameA.symm.trans h9)
  have eco : comp' = E.2.1 .int := by
    have h9 : s.vm.findClass ("[" ++ (FieldType.int).toString) = some (E.2.1 .int) := (hK.2 0 _ rfl).2
    exact Option.some.inj (hcomp.symm.trans h9)
  have hTs : (T.setVm vm1).heap = T.heap := rfl
  obtain ⟨⟨a0, a1⟩, ⟨b0, b1⟩, ⟨c0', c1⟩, d0, d1⟩ := tu_all (T.setVm vm1) cA comp'
  obtain ⟨-, -, i1, k1', -, -⟩ := tu_facts (j := 0) (comp := comp') a1
  obtain ⟨-, -, i2, k2', -, -⟩ := tu_facts (S := tu1 (T.setVm vm1) cA comp') (j := 1) (comp := comp') b1
  obtain ⟨-, -, i3, k3', -, -⟩ := tu_facts (S := tu2 (T.setVm vm1) cA comp') (j := 2) (comp := comp') c1
  have Y3 := tu_stand (j := 2) (comp := comp') (tu_stand (j := 1) (comp := comp') (tu_stand (j := 0) (comp := comp') (X1.pushed (tuO cA)) a1) b1) c1
  have e3 : (tuO cA).slots.size = 3 := by simp [tuO]
  rw [e3, show cs + 1 + 1 + 1 + 1 = cs + 4 by omega, show sl + 3 + 1000 + 1000 + 1000 = sl + 3003 by omega] at Y3
  have Y4 : Stand p l e R s m args below meth c9 (tu3 (T.setVm vm1) cA comp') (locs ++ [⟨T.heap.size, 0⟩] ++ [⟨T.heap.size, 1⟩] ++ [⟨T.heap.size, 2⟩]) (cs + 4) (sl + 3003) := Y3
  rw [hTs] at a0 a1 b0 b1 c0' c1 d0 d1
  rw [a0] at i1 k1'
  rw [b0] at i2 k2'
  rw [c0'] at i3 k3'
  rw [hTs] at k1' k2' k3'
  have old : ∀ a, a < T.heap.size → (tu3 (T.setVm vm1) cA comp').heap[a]? = T.heap[a]? := fun a ha => by
    have q3 : (tu3 (T.setVm vm1) cA comp').heap[a]? = (tu2 (T.setVm vm1) cA comp').heap[a]? := k3' a (by omega) (by omega)
    have q2 : (tu2 (T.setVm vm1) cA comp').heap[a]? = (tu1 (T.setVm vm1) cA comp').heap[a]? := k2' a (by omega) (by omega)
    have q1 : (tu1 (T.setVm vm1) cA comp').heap[a]? = ((T.setVm vm1).pushCell (tuO cA)).heap[a]? := k1' a (by omega) (by omega)
    rw [q3, q2, q1]; exact State.heap_pushCell_of_lt (T.setVm vm1) _ ha
  have in1 : (tu3 (T.setVm vm1) cA comp').heap[T.heap.size + 1]? = some (tuI comp') := by
    have q3 : (tu3 (T.setVm vm1) cA comp').heap[T.heap.size + 1]? = (tu2 (T.setVm vm1) cA comp').heap[T.heap.size + 1]? := k3' _ (by omega) (by omega)
    have q2 : (tu2 (T.setVm vm1) cA comp').heap[T.heap.size + 1]? = (tu1 (T.setVm vm1) cA comp').heap[T.heap.size + 1]? := k2' _ (by omega) (by omega)
    rw [q3, q2]; exact i1
  have in2 : (tu3 (T.setVm vm1) cA comp').heap[T.heap.size + 2]? = some (tuI comp') := by
    have q3 : (tu3 (T.setVm vm1) cA comp').heap[T.heap.size + 2]? = (tu2 (T.setVm vm1) cA comp').heap[T.heap.size + 2]? := k3' _ (by omega) (by omega)
    rw [q3]; exact i2
  have in3 : (tu3 (T.setVm vm1) cA comp').heap[T.heap.size + 3]? = some (tuI comp') := i3
  generalize hF : tu3 (T.setVm vm1) cA comp' = F at *
  subst ecA; subst eco; subst hT
  have m0 : ∀ j k, 1 ≤ j → mul3 σ n (n + j) k = 0 := fun j k hj => by
    unfold mul3
    rw [wr_obj (by omega), wr_obj (by omega), wr_obj (by omega)]; exact hz _ (by omega) k
  have hR1 : mm_Rep E (Sh ++ [.inl (.array .int, 3), .inl (.int, 1000), .inl (.int, 1000), .inl (.int, 1000)]) (mul3 σ n) s F.heap := by
    have inn : ∀ j, 1 ≤ j → j ≤ 3 → va_at E.1 vwCl (T.heap.size + j, mm_E E (.inl (.int, 1000)) (mul3 σ n (Sh.length + j))) F.heap := fun j hj hj3 => by
      show F.heap[T.heap.size + j]? = some (vp_cell (E.2.1 .int) (1000, mm_ar E .int (mul3 σ n (Sh.length + j))))
      have hi : F.heap[T.heap.size + j]? = some (tuI (E.2.1 .int)) := by
        have : j = 1 ∨ j = 2 ∨ j = 3 := by omega
        rcases this with rfl | rfl | rfl
        · exact in1
        · exact in2
        · exact in3
      rw [mm_ar0 (fun k => by rw [hn]; exact m0 j k (by omega)) (Or.inl rfl), hi, ← arrV_new]
      rfl
    refine hR.grow (fun o ho => ?_) (fun j kd hj => ?_) (fun j kd k hj hs => ?_) d0 (fun q hq => old q hq)
    · unfold mul3
      rw [wr_obj (by omega), wr_obj (by omega), wr_obj (by omega)]
    · have hj4 : j < 4 := (List.getElem?_eq_some_iff.mp hj).1
      match j, hj4, hj with
      | 0, _, hj =>
        cases hj
        show F.heap[T.heap.size]? = some (vp_cell (E.2.1 (.array .int)) (3, mm_ar E (.array .int) (mul3 σ n (Sh.length + 0))))
        rw [d1]
        have g : ∀ k, k < 3 → va_rf (mm_ro E (mul3 σ n (Sh.length + 0) k).toNat) = .ref (T.heap.size + 1 + k) := fun k hk => by
          have : k = 0 ∨ k = 1 ∨ k = 2 := by omega
          have ea : ∀ j, mm_ad E (n + (j + 1)) = T.heap.size + 1 + j := fun j => by
            unfold mm_ad
            rw [if_neg (by omega), h2]; omega
          have en : ∀ j, va_rf (mm_ro E (n + (j + 1))) = .ref (T.heap.size + 1 + j) := fun j => by
            unfold mm_ro
            rw [if_neg (by omega), ea]
            rfl
          rw [Nat.add_zero, hn]
          unfold mul3
          rcases this with rfl | rfl | rfl
          · rw [wr_row (by omega), wr_row (by omega), wr_same]; exact en 0
          · rw [wr_row (by omega), wr_same]; exact en 1
          · rw [wr_same]; exact en 2
        have ev : vp_cell (E.2.1 (.array .int)) (3, mm_ar E (.array .int) (mul3 σ n (Sh.length + 0))) = arrV (E.2.1 (.array .int)) 3 (fun k => va_rf (mm_ro E (mul3 σ n (Sh.length + 0) k).toNat)) := rfl
        rw [ev]
        congr 1
        unfold arrV
        have es : (tuO3 T.heap.size (E.2.1 (.array .int))).slots = #[Value.ref (T.heap.size + 1), Value.ref (T.heap.size + 2), Value.ref (T.heap.size + 3)] := by
          simp [tuO3, tuO2, tuO1, tuO, Cell.setSlot, Array.replicate, List.replicate]
        have es2 : (Array.ofFn (n := 3) fun j => va_rf (mm_ro E (mul3 σ n (Sh.length + 0) j.val).toNat)) = #[Value.ref (T.heap.size + 1), Value.ref (T.heap.size + 2), Value.ref (T.heap.size + 3)] := by
          apply Array.ext (by simp)
          intro k hk1 hk2
          have hk : k < 3 := by simpa using hk2
          have : k = 0 ∨ k = 1 ∨ k = 2 := by omega
          rw [Array.getElem_ofFn]
          show va_rf (mm_ro E (mul3 σ n (Sh.length + 0) k).toNat) = _
          rw [g k hk]
          rcases this with rfl | rfl | rfl <;> rfl
        rw [es2, ← es]
        rfl
      | 1, _, hj => cases hj; exact inn 1 (by omega) (by omega)
      | 2, _, hj => cases hj; exact inn 2 (by omega) (by omega)
      | 3, _, hj => cases hj; exact inn 3 (by omega) (by omega)
      | j + 4, h, _ => omega
    · have hj4 : j < 4 := (List.getElem?_eq_some_iff.mp hj).1
      match j, hj4, hj with
      | 0, _, hj => cases hj; simp [mm_slotI, mm_isI] at hs
      | 1, _, hj => rw [hn, m0 1 k (by omega)]; exact ⟨by decide, by decide⟩
      | 2, _, hj => rw [hn, m0 2 k (by omega)]; exact ⟨by decide, by decide⟩
      | 3, _, hj => rw [hn, m0 3 k (by omega)]; exact ⟨by decide, by decide⟩
      | j + 4, h, _ => omega
  have hAs : mm_A E T.heap.size := by show E.2.2.2.1 ≤ T.heap.size; omega
  have hS1 : va_S (mm_A E) s.heap F.heap (locs ++ [⟨T.heap.size, 0⟩] ++ [⟨T.heap.size, 1⟩] ++ [⟨T.heap.size, 2⟩]) := ⟨Nat.le_trans hS.1 (by omega), fun x h1 h2 => (old x (Nat.lt_of_lt_of_le h1 hS.1)).trans (hS.2.1 x h1 h2), fun x hx => by
    simp only [List.mem_append, List.mem_singleton] at hx
    rcases hx with ((hx | rfl) | rfl) | rfl
    · exact hS.2.2 x hx
    · exact hAs
    · exact hAs
    · exact hAs⟩
  have K := kk p l e s m args below meth c9 F.heap _ la QM hC hX hR1 hS1 hL hret
  rw [List.map_cons, ← hn, hu] at K
  obtain ⟨t, s1, s2⟩ := K F rfl Y4
  refine ⟨t, ?_, s2⟩
  show Steps p.tables e below (T.setTop (F0 m pc la (.int (Int32.ofInt 1000) :: .int (Int32.ofInt 3) :: st.map (mm_up E)))) t
  generalize hst : st.map (mm_up E) = rest9 at *
  obtain ⟨y1, hy1⟩ : ∃ y, Int32.ofInt 1000 = y := ⟨_, rfl⟩
  obtain ⟨y3, hy3⟩ : ∃ y, Int32.ofInt 3 = y := ⟨_, rfl⟩
  rw [hy1, hy3]
  have hl2 : ¬ 1000 > e.platform.arrayLengthLimit := by rw [Launch.admits_arrayLengthLimit XS.admits]; omega
  have hh2 : ¬ 1000 * componentBytes .int > e.platform.maxHeapBytes := by rw [Launch.admits_maxHeapBytes XS.admits]; show ¬ 1000 * 4 > 536870912; omega
  have hd' : decode c9.code pc = .ok (.multianewarray i 2, 4) := by rw [hC.2.1]; exact hd
  jvm_step XS.here [hC.1, hd']
  simp only [multianewarray.sem, wp_bind', W.resolveClassAt_links (State.method?_setTop (F0 m pc la (.int y1 :: .int (y3) :: rest9)) XS.here.top) hg1]
  rw [W.popN, if_neg (by decide)]
  refine ⟨F0 m pc la (.int y1 :: .int (y3) :: rest9), State.topJava?_setTop' (s := T.setVm vm1) _ XS.here.top, [.int (y3), .int (y1)], rest9, rfl, rfl, ?_⟩
  simp only [List.mapM_cons, List.mapM_nil, wp_bind', wp_pure']
  subst hy1; subst hy3
  refine mu_wp (kc := kC1) (kA := kA1) (cc := cc) (comp := E.2.1 .int) (cA := E.2.1 (.array .int)) hkC1 hkindC1 hkA1 hkindA1 hl2 hh2 (by show T.heap.size + 4 ≤ _; omega) (by show T.slotsUsed + 3003 ≤ _; omega) (fun d9 acts9 => ?_)
  have eS : ((T.setTop (F0 m pc la (.int (Int32.ofInt 1000) :: .int (Int32.ofInt 3) :: rest9))).setVm vm1).setTop (F0 m pc la rest9) = (T.setVm vm1).setTop (F0 m pc la rest9) := by
    show ((T.setVm vm1).setTop _).setTop _ = _
    rw [State.setTop_setTop]
  rw [eS, tu3_top, hF]
  simp only [wp_bind', W.mark, W.pushRef, State.topJava?_setTop' _ Y4.here.top, Option.some.injEq, exists_eq_left', State.setTop_setTop, State.heap_setTop]
  intro acts
  simp [jvm, Y4.here.top]
  exact s1
end VxMulti
