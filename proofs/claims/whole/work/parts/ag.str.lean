/-! String's own methods over the one constant -/
def stT : String := "notes long tune keep place note kept door strict window pair lip reset person loses errs worth when or and not all sum first last old here min max "
def stBy : List Int32 := [110, 111, 116, 101, 115, 32, 108, 111, 110, 103, 32, 116, 117, 110, 101, 32, 107, 101, 101, 112, 32, 112, 108, 97, 99, 101, 32, 110, 111, 116, 101, 32, 107, 101, 112, 116, 32, 100, 111, 111, 114, 32, 115, 116, 114, 105, 99, 116, 32, 119, 105, 110, 100, 111, 119, 32, 112, 97, 105, 114, 32, 108, 105, 112, 32, 114, 101, 115, 101, 116, 32, 112, 101, 114, 115, 111, 110, 32, 108, 111, 115, 101, 115, 32, 101, 114, 114, 115, 32, 119, 111, 114, 116, 104, 32, 119, 104, 101, 110, 32, 111, 114, 32, 97, 110, 100, 32, 110, 111, 116, 32, 97, 108, 108, 32, 115, 117, 109, 32, 102, 105, 114, 115, 116, 32, 108, 97, 115, 116, 32, 111, 108, 100, 32, 104, 101, 114, 101, 32, 109, 105, 110, 32, 109, 97, 120, 32]
/-- what is known of the constant: its address a, its bytes' v; and of two static fields -/
def SF (E : mm_Env) (a v : Nat) (r : Value) (s : State) : Prop :=
  vk_R "TuneDoor$Tokens" 24 stT a s ∧ va_O "java/lang/String" a (mm_A E) s s.heap ∧ va_OF "java/lang/String" "coder" "B" (.int 0) a (mm_A E) s s.heap ∧ va_OF "java/lang/String" "value" "[B" (.ref v) a (mm_A E) s s.heap ∧ va_T .byte v 147 (fun j => .int (stBy.getD j 0)) (mm_A E) s s.heap ∧ va_Z "java/lang/String" "COMPACT_STRINGS" "Z" (.int 1) (mm_A E) s s.heap ∧ va_Z "jdk/internal/util/Preconditions" "SIOOBE_FORMATTER" "Ljava/util/function/BiFunction;" r (mm_A E) s s.heap
theorem SF.xo {E : mm_Env} {a v : Nat} {r : Value} : XO E (SF E a v r) := by
  intro s U H locs hS hW hU h
  obtain ⟨h1, h2, h3, h4, h5, h6, h7⟩ := h
  subst hU
  exact ⟨h1.warm hW, (h2.moved hW.alike).kept hS.2.1, (h3.moved hW.alike).kept hS.2.1, (h4.moved hW.alike).kept hS.2.1, (h5.moved hW.alike).kept hS.2.1, (h6.moved hW.alike).kept hS.2.1, (h7.moved hW.alike).kept hS.2.1⟩
/-- a method that changes nothing: its answer at these values -/
def sm (X : State → Prop) (d : Nat) (q : mm_Y) (As : List Value) (v : Option Value) : Prop :=
  ∀ l : Launch, Met l q.1 (mm_ws q) (mm_rm d 0 0) (va_Pc As X) (fun _ st o t => o = .returned v ∧ t.heap = st.heap) 0 0 (fun _ => False)
theorem sm_blind {X : State → Prop} {E : mm_Env} {As : List Value} (hXO : XO E X) : FrameBlind (va_Pc As X) := fun a U g mk q => ⟨q.1, hXO U (U.calling g mk a) U.heap [] va_S.rf (State.WarmedH.refl U) rfl q.2⟩
theorem sm_ofI {X : State → Prop} {d : Nat} {q : mm_Y} {As : List Value} {z : Int32} {ty : FieldType} {la : Array Slot} (hp : plainFor q.1 = true) (hrt : q.2.2.2 = some ty) (hnar : narrow ty (.int z) = .int z) (hla : (lg_sl As ++ List.replicate (q.2.2.1 - (lg_sl As).length) Slot.unset).toArray = la)
    (h : ∀ (p : Program) (l : Launch) (e : Env) (s : State) (m : MethodId) (args : Array Value) (below : List Frame) (meth : Method) (c : Code) (QM : State → Prop), p.tables.exec = Jvm.exec → c.code = q.2.1 → c.maxLocals = q.2.2.1 → s.vm.findClass q.1.cls = some m.cls → (∀ w ∈ mm_T, w.before args s = true) → X s →
      (∀ pc', decode q.2.1 pc' = .ok (.ireturn, 1) → W p l e (mm_rm d 0 0) s m args below meth c s.heap [] 0 0 QM (F0 m pc' la [.int z])) → W p l e (mm_rm d 0 0) s m args below meth c s.heap [] 0 0 QM (F0 m 0 la [])) : sm X d q As (some (.int z)) := by
  intro l
  refine va_MetF (cc := q.2.1) (maxL := q.2.2.1) (ret := q.2.2.2) hp rfl ?_
  intro p e s m args below meth c s₁ B hml hv
  obtain ⟨rfl, hX⟩ := hv
  have hts := atoms_spec (ws := mm_ws q) B.pre
  have hown : s.vm.findClass q.1.cls = some m.cls := findClass_of_methodNamed B.named
  have hlocks := B.notSynchronized
  have hbytes := B.bytes
  have hx := B.exec
  have hr := B.returns
  rw [lg_entry_eq, hla]
  refine h p l e s m _ below meth c _ hx hbytes hml hown (fun w hw => hts w (List.mem_cons_of_mem _ hw)) hX ?_
  intro pc' hd
  exact W.zret hx hbytes (by rw [hr, hrt]) hnar (fun t ht _ => ⟨rfl, ht⟩) (fun _ hq => by cases hq) hd
theorem sm_ofV {X : State → Prop} {d : Nat} {q : mm_Y} {As : List Value} {la : Array Slot} (hp : plainFor q.1 = true) (hrt : q.2.2.2 = none) (hla : (lg_sl As ++ List.replicate (q.2.2.1 - (lg_sl As).length) Slot.unset).toArray = la)
    (h : ∀ (p : Program) (l : Launch) (e : Env) (s : State) (m : MethodId) (args : Array Value) (below : List Frame) (meth : Method) (c : Code) (QM : State → Prop), p.tables.exec = Jvm.exec → c.code = q.2.1 → c.maxLocals = q.2.2.1 → s.vm.findClass q.1.cls = some m.cls → (∀ w ∈ mm_T, w.before args s = true) → X s →
      (∀ pc', decode q.2.1 pc' = .ok (.return_, 1) → W p l e (mm_rm d 0 0) s m args below meth c s.heap [] 0 0 QM (F0 m pc' la [])) → W p l e (mm_rm d 0 0) s m args below meth c s.heap [] 0 0 QM (F0 m 0 la [])) : sm X d q As none := by
  intro l
  refine va_MetF (cc := q.2.1) (maxL := q.2.2.1) (ret := q.2.2.2) hp rfl ?_
  intro p e s m args below meth c s₁ B hml hv
  obtain ⟨rfl, hX⟩ := hv
  have hts := atoms_spec (ws := mm_ws q) B.pre
  have hown : s.vm.findClass q.1.cls = some m.cls := findClass_of_methodNamed B.named
  have hlocks := B.notSynchronized
  have hbytes := B.bytes
  have hx := B.exec
  have hr := B.returns
  rw [lg_entry_eq, hla]
  refine h p l e s m _ below meth c _ hx hbytes hml hown (fun w hw => hts w (List.mem_cons_of_mem _ hw)) hX ?_
  intro pc' hd
  exact W.vret hx hbytes (by rw [hr, hrt]) (fun t ht _ => ⟨rfl, ht⟩) (fun _ hq => by cases hq) hd
section SmCall
variable {X : State → Prop} {E : mm_Env} {p : Program} {l : Launch} {e : Env} {R : Room} {s : State} {m : MethodId} {args : Array Value} {below : List Frame} {meth : Method} {c : Code} {H : Heap} {locs : List Loc} {cells slots pc : Nat} {QM : State → Prop} {la : Array Slot} {cc : ByteArray} {nL : Nat} {own : String}
theorem sm_back {st0 rest : List Value} {v : Option Value}
    (hr : va_Run p l e R s m args below meth c H locs cells slots 0 0 (F0 m pc la st0) rest (fun (st : State) (o : Outcome) (t : State) => o = .returned v ∧ t.heap = st.heap) (fun _ => False))
    (kk : W p l e R s m args below meth c H locs cells slots QM (F0 m (pc + 3) la (v.toList ++ rest))) : W p l e R s m args below meth c H locs cells slots QM (F0 m pc la st0) := by
  intro T hT XX
  obtain ⟨v', st₀, t, T', L, h0, X', hL, e1, e2, ⟨hv, hh⟩, st1⟩ := hr T hT XX
  have hv2 : v' = v := by
    have := hv
    injection this
  subst hv2
  have hl : L = [] := List.eq_nil_iff_forall_not_mem.mpr (fun q hq => hL q hq)
  subst hl
  rw [List.append_nil] at X'
  obtain ⟨t2, a1, b1⟩ := kk T' (by rw [e1, hh, h0]) X'
  exact ⟨t2, st1 t2 a1, b1⟩
theorem sm_ws {q' : mm_Y} {n : Nat} (hts : ∀ w ∈ mm_T, w.before args s = true) (hg : mm_good q' n) : ∀ w ∈ mm_ws q', ∀ (a' : Array Value) (U : State), s.WarmedH U.vm → w.before a' U = true := by
  intro w hw a' U hW
  rcases List.mem_cons.mp hw with rfl | hw
  · exact mm_T_pay hts _ hg.1 a' U hW
  · exact mm_T_pay hts _ hw a' U hW
theorem sm_len {q' : mm_Y} {As : List Value} (hg : mm_good q' As.length) : ∀ sig, parseMethodDescriptor q'.1.desc = some sig → As.length = sig.parameters.length := by
  intro sig h
  have h2 := hg.2.2.2.1
  rw [h] at h2
  exact (Option.some.inj h2).symm
theorem sm_callS {q' : mm_Y} {i d : Nat} {As st0 st : List Value} {v : Option Value} (hXO : XO E X) (hM : sm X d q' As v) (hx : p.tables.exec = Jvm.exec) (hb : c.code = cc) (hml : c.maxLocals = nL) (hown : s.vm.findClass own = some m.cls) (hts : ∀ w ∈ mm_T, w.before args s = true) (hla : la.size = nL) (hX : X s) (hS : va_S (mm_A E) s.heap H locs) (hd : decode cc pc = .ok (.invokestatic i, 3)) (hg : mm_good q' As.length) (hl : Cond.methodLink own i q'.1 ∈ mm_T) (hstt : Cond.static q'.1 ∈ mm_T) (hs0 : st0 = As.reverse ++ st) (hfr : d + 1 ≤ R.frames) (hlo : 40 * (d + 1) ≤ R.locals) (hce : cells ≤ R.cells) (hsl : slots ≤ R.slots) (hrm : (st.map fun v => v.category).sum ≤ 8)
    (kk : W p l e R s m args below meth c H locs cells slots QM (F0 m (pc + 3) la (v.toList ++ st))) : W p l e R s m args below meth c H locs cells slots QM (F0 m pc la st0) := by
  have hcw : Cond.code q'.1 q'.2.1 q'.2.2.1 q'.2.2.2 ∈ mm_ws q' := by show Cond.code q'.1 q'.2.1 q'.2.2.1 q'.2.2.2 ∈ Cond.code q'.1 q'.2.1 q'.2.2.1 q'.2.2.2 :: mm_T; exact List.mem_cons_self
  have hrun := va_runS (l := l) (e := e) (below := below) (meth := meth) (locs := locs) (cells := cells) (slots := slots) (g := F0 m pc la st0) (As := As) (rest := st) (bytes := q'.2.1) (maxL := q'.2.2.1) (ret := q'.2.2.2) (n := As.length) (H := H) (R := R) ⟨hx, hb, hml, hown, hts⟩ (hM l)
    ⟨⟨rfl, rfl, hfr, by have := hg.2.2.2.2; show 8 + (q'.2.2.1 + 11) + 40 * d ≤ R.locals; omega, sm_ws hts hg, hcw, hts _ hg.1, hts _ hg.2.1, hg.2.2.1, sm_len hg, hts _ hl⟩, hts _ hstt⟩
    ⟨sm_blind hXO, fun U hU hW => ⟨rfl, hXO s U H locs hS hW hU hX⟩⟩
    rfl rfl hla hs0 (by show 2 * 0 + _ ≤ 8; omega) hd ⟨hce, hsl⟩
  exact sm_back hrun kk
theorem sm_callV {q' : mm_Y} {i d b : Nat} {As st0 st : List Value} {v : Option Value} (hXO : XO E X) (hM : sm X d q' (.ref b :: As) v) (hx : p.tables.exec = Jvm.exec) (hb : c.code = cc) (hml : c.maxLocals = nL) (hown : s.vm.findClass own = some m.cls) (hts : ∀ w ∈ mm_T, w.before args s = true) (hla : la.size = nL) (hX : X s) (hS : va_S (mm_A E) s.heap H locs) (hd : decode cc pc = .ok (.invokevirtual i, 3)) (hg : mm_good q' As.length) (hl : Cond.methodLink own i q'.1 ∈ mm_T) (hrc : va_O q'.1.cls b (mm_A E) s s.heap) (hin : Cond.instanceMethod q'.1 ∈ mm_T) (hse : Cond.selects q'.1.cls q'.1 q'.1 ∈ mm_T) (hs0 : st0 = As.reverse ++ .ref b :: st) (hfr : d + 1 ≤ R.frames) (hlo : 40 * (d + 1) ≤ R.locals) (hce : cells ≤ R.cells) (hsl : slots ≤ R.slots) (hrm : (st.map fun v => v.category).sum ≤ 8)
    (kk : W p l e R s m args below meth c H locs cells slots QM (F0 m (pc + 3) la (v.toList ++ st))) : W p l e R s m args below meth c H locs cells slots QM (F0 m pc la st0) := by
  have hcw : Cond.code q'.1 q'.2.1 q'.2.2.1 q'.2.2.2 ∈ mm_ws q' := by show Cond.code q'.1 q'.2.1 q'.2.2.1 q'.2.2.2 ∈ Cond.code q'.1 q'.2.1 q'.2.2.1 q'.2.2.2 :: mm_T; exact List.mem_cons_self
  obtain ⟨cell, r1, r2, r3, -⟩ := hrc.kept hS.2.1
  have hrun := va_runV (l := l) (e := e) (below := below) (meth := meth) (locs := locs) (cells := cells) (slots := slots) (g := F0 m pc la st0) (As := As) (b := b) (rest := st) (C := q'.1.cls) (bytes := q'.2.1) (maxL := q'.2.2.1) (ret := q'.2.2.2) (n := As.length) (H := H) (R := R) ⟨hx, hb, hml, hown, hts⟩ (hM l)
    ⟨⟨rfl, rfl, hfr, by have := hg.2.2.2.2; show 8 + (q'.2.2.1 + 11) + 40 * d ≤ R.locals; omega, sm_ws hts hg, hcw, hts _ hg.1, hts _ hg.2.1, hg.2.2.1, sm_len hg, hts _ hl⟩, hts _ hin, hts _ hse⟩
    ⟨sm_blind hXO, ⟨cell, r1, r2, r3⟩, fun U hU hW => ⟨rfl, hXO s U H locs hS hW hU hX⟩⟩
    rfl rfl hla hs0 (by show 2 * 0 + _ ≤ 8; omega) hd ⟨hce, hsl⟩
  exact sm_back hrun kk
end SmCall
/-! the seven methods -/
section SmStr
variable {X : State → Prop} {E : mm_Env} {a v : Nat} {r : Value}
theorem st_pre {i n : Int32} (hr : r = .null ∨ ∃ t, r = .ref t) (h0 : ¬ i < 0) (h1 : i < n) : sm X 1 qJ3_checkIndex_8e157 [.int i, .int n, r] (some (.int i)) := by
  refine sm_ofI (ty := .int) (la := #[.val (.int i), .val (.int n), .val r]) (by decide +kernel) rfl (vp_nar_int i) (by rcases hr with rfl | ⟨t, rfl⟩ <;> rfl) ?_
  intro p l e s m args below meth c QM hx hb hml hown hts hX hret
  refine lv_iload_n (i := 0) hx hb dJ3_checkIndex_8e157_0 rfl rfl ?_
  refine lv_if_lt (tgt := 9) hx hb dJ3_checkIndex_8e157_1 (by decide) (fun h => absurd h h0) (fun _ => ?_)
  refine lv_iload_n (i := 0) hx hb dJ3_checkIndex_8e157_4 rfl rfl ?_
  refine lv_iload_n (i := 1) hx hb dJ3_checkIndex_8e157_5 rfl rfl ?_
  refine lv_icmp_lt (tgt := 16) hx hb dJ3_checkIndex_8e157_6 (by decide) (fun _ => ?_) (fun h => absurd h1 h)
  refine lv_iload_n (i := 0) hx hb dJ3_checkIndex_8e157_16 rfl rfl ?_
  exact hret 17 dJ3_checkIndex_8e157_17
theorem st_check {i n : Int32} (hXO : XO E X) (hXS : ∀ s, X s → SF E a v r s) (hr : r = .null ∨ ∃ t, r = .ref t) (h0 : ¬ i < 0) (h1 : i < n) : sm X 2 qJ0_checkIndex_df160 [.int i, .int n] none := by
  refine sm_ofV (la := #[.val (.int i), .val (.int n)]) (by decide +kernel) rfl rfl ?_
  intro p l e s m args below meth c QM hx hb hml hown hts hX hret
  obtain ⟨x1, x2, x3, x4, x5, x6, x7⟩ := hXS s hX
  refine lv_iload_n (i := 0) hx hb dJ0_checkIndex_df160_0 rfl rfl ?_
  refine lv_iload_n (i := 1) hx hb dJ0_checkIndex_df160_1 rfl rfl ?_
  refine va_gets hx hb x7 va_S.rf hown (hts _ wm_276) (fun _ h => h) dJ0_checkIndex_df160_2 ?_
  refine sm_callS (d := 1) (As := [.int i, .int n, r]) (st := []) hXO (st_pre hr h0 h1) hx hb hml hown hts rfl hX va_S.rf dJ0_checkIndex_df160_5 gJ3_checkIndex_8e157 wm_278 wm_279 rfl (by decide) (by decide) (by decide) (by decide) (by decide) ?_
  refine lv_pop hx hb dJ0_checkIndex_df160_8 rfl ?_
  exact hret 9 dJ0_checkIndex_df160_9
theorem st_k : ∀ k : Nat, k < 147 → (¬ Int32.ofInt (k : Int) < 0) ∧ Int32.ofInt (k : Int) < 147 ∧ (Int32.ofInt (k : Int)).toNatClampNeg = k := by decide +kernel
theorem st_at {k : Nat} (hXO : XO E X) (hXS : ∀ s, X s → SF E a v r s) (hr : r = .null ∨ ∃ t, r = .ref t) (hk : k < 147) : sm X 3 qJ1_charAt_3b067 [.ref v, .int (Int32.ofInt (k : Int))] (some (.int (stBy.getD k 0 &&& 255))) := by
  obtain ⟨k0, k1, k2⟩ := st_k k hk
  refine sm_ofI (ty := .char) (la := #[.val (.ref v), .val (.int (Int32.ofInt (k : Int)))]) (by decide +kernel) rfl (sc_nar _) rfl ?_
  intro p l e s m args below meth c QM hx hb hml hown hts hX hret
  obtain ⟨x1, x2, x3, x4, x5, x6, x7⟩ := hXS s hX
  refine lv_iload_n (i := 1) hx hb dJ1_charAt_3b067_0 rfl rfl ?_
  refine lv_aload_n (i := 0) hx hb dJ1_charAt_3b067_1 rfl rfl ?_
  refine va_tlen (v := 147) hx hb x5 va_S.rf (by decide) dJ1_charAt_3b067_2 ?_
  refine sm_callS (d := 2) (As := [.int (Int32.ofInt (k : Int)), .int 147]) (st := []) hXO (st_check hXO hXS hr k0 k1) hx hb hml hown hts rfl hX va_S.rf dJ1_charAt_3b067_3 gJ0_checkIndex_df160 wm_273 wm_274 rfl (by decide) (by decide) (by decide) (by decide) (by decide) ?_
  refine lv_aload_n (i := 0) hx hb dJ1_charAt_3b067_6 rfl rfl ?_
  refine lv_iload_n (i := 1) hx hb dJ1_charAt_3b067_7 rfl rfl ?_
  refine va_tb (v := .int (stBy.getD k 0)) hx hb x5 va_S.rf (fun h => h.elim k0 (fun q => by rw [k2] at q; omega)) (by rw [k2]) dJ1_charAt_3b067_8 ?_
  refine lv_sipush (v := 255) hx hb dJ1_charAt_3b067_9 (by decide) ?_
  refine lv_iand hx hb dJ1_charAt_3b067_12 ?_
  refine lv_i2c hx hb dJ1_charAt_3b067_13 (sc_c2 _) ?_
  exact hret 14 dJ1_charAt_3b067_14
theorem st_latin (hXS : ∀ s, X s → SF E a v r s) : sm X 1 qJ0_isLatin1_aae02 [.ref a] (some (.int 1)) := by
  refine sm_ofI (ty := .boolean) (la := #[.val (.ref a)]) (by decide +kernel) rfl rfl rfl ?_
  intro p l e s m args below meth c QM hx hb hml hown hts hX hret
  obtain ⟨x1, x2, x3, x4, x5, x6, x7⟩ := hXS s hX
  refine va_gets hx hb x6 va_S.rf hown (hts _ wm_260) (fun _ h => h) dJ0_isLatin1_aae02_0 ?_
  refine lv_if_eq (tgt := 17) hx hb dJ0_isLatin1_aae02_3 (by decide) (fun h => absurd h (by decide)) (fun _ => ?_)
  refine lv_aload_n (i := 0) hx hb dJ0_isLatin1_aae02_6 rfl rfl ?_
  refine vk_getf hx hb x3 va_S.rf hown (hts _ wm_1991) (fun _ h => h) dJ0_isLatin1_aae02_7 ?_
  refine lv_if_ne (tgt := 17) hx hb dJ0_isLatin1_aae02_10 (by decide) (fun h => absurd rfl h) (fun _ => ?_)
  refine lv_iconst (v := 1) hx hb dJ0_isLatin1_aae02_13 (by decide) ?_
  refine lv_goto (tgt := 18) hx hb dJ0_isLatin1_aae02_14 (by decide) ?_
  exact hret 18 dJ0_isLatin1_aae02_18
theorem st_coder (hXS : ∀ s, X s → SF E a v r s) : sm X 1 qJ0_coder_7d493 [.ref a] (some (.int 0)) := by
  refine sm_ofI (ty := .byte) (la := #[.val (.ref a)]) (by decide +kernel) rfl rfl rfl ?_
  intro p l e s m args below meth c QM hx hb hml hown hts hX hret
  obtain ⟨x1, x2, x3, x4, x5, x6, x7⟩ := hXS s hX
  refine va_gets hx hb x6 va_S.rf hown (hts _ wm_260) (fun _ h => h) dJ0_coder_7d493_0 ?_
  refine lv_if_eq (tgt := 13) hx hb dJ0_coder_7d493_3 (by decide) (fun h => absurd h (by decide)) (fun _ => ?_)
  refine lv_aload_n (i := 0) hx hb dJ0_coder_7d493_6 rfl rfl ?_
  refine vk_getf hx hb x3 va_S.rf hown (hts _ wm_1991) (fun _ h => h) dJ0_coder_7d493_7 ?_
  refine lv_goto (tgt := 14) hx hb dJ0_coder_7d493_10 (by decide) ?_
  exact hret 14 dJ0_coder_7d493_14
theorem st_length (hXO : XO E X) (hXS : ∀ s, X s → SF E a v r s) : sm X 2 qJ0_length_8abf5 [.ref a] (some (.int 147)) := by
  refine sm_ofI (ty := .int) (la := #[.val (.ref a)]) (by decide +kernel) rfl (vp_nar_int _) rfl ?_
  intro p l e s m args below meth c QM hx hb hml hown hts hX hret
  obtain ⟨x1, x2, x3, x4, x5, x6, x7⟩ := hXS s hX
  refine lv_aload_n (i := 0) hx hb dJ0_length_8abf5_0 rfl rfl ?_
  refine vk_getf hx hb x4 va_S.rf hown (hts _ wm_1990) (fun _ h => h) dJ0_length_8abf5_1 ?_
  refine va_tlen (v := 147) hx hb x5 va_S.rf (by decide) dJ0_length_8abf5_4 ?_
  refine lv_aload_n (i := 0) hx hb dJ0_length_8abf5_5 rfl rfl ?_
  refine sm_callV (d := 1) (As := []) (st := [.int 147]) hXO (st_coder hXS) hx hb hml hown hts rfl hX va_S.rf dJ0_length_8abf5_6 gJ0_coder_7d493 wm_256 x2 wm_257 wm_258 rfl (by decide) (by decide) (by decide) (by decide) (by decide) ?_
  refine lv_ishr hx hb dJ0_length_8abf5_9 ?_
  exact hret 10 dJ0_length_8abf5_10
theorem st_charAt {k : Nat} (hXO : XO E X) (hXS : ∀ s, X s → SF E a v r s) (hr : r = .null ∨ ∃ t, r = .ref t) (hk : k < 147) : sm X 4 qJ0_charAt_5068e [.ref a, .int (Int32.ofInt (k : Int))] (some (.int (stBy.getD k 0 &&& 255))) := by
  refine sm_ofI (ty := .char) (la := #[.val (.ref a), .val (.int (Int32.ofInt (k : Int)))]) (by decide +kernel) rfl (sc_nar _) rfl ?_
  intro p l e s m args below meth c QM hx hb hml hown hts hX hret
  obtain ⟨x1, x2, x3, x4, x5, x6, x7⟩ := hXS s hX
  refine lv_aload_n (i := 0) hx hb dJ0_charAt_5068e_0 rfl rfl ?_
  refine sm_callV (d := 1) (As := []) (st := []) hXO (st_latin hXS) hx hb hml hown hts rfl hX va_S.rf dJ0_charAt_5068e_1 gJ0_isLatin1_aae02 wm_266 x2 wm_267 wm_268 rfl (by decide) (by decide) (by decide) (by decide) (by decide) ?_
  refine lv_if_eq (tgt := 16) hx hb dJ0_charAt_5068e_4 (by decide) (fun h => absurd h (by decide)) (fun _ => ?_)
  refine lv_aload_n (i := 0) hx hb dJ0_charAt_5068e_7 rfl rfl ?_
  refine vk_getf hx hb x4 va_S.rf hown (hts _ wm_1990) (fun _ h => h) dJ0_charAt_5068e_8 ?_
  refine lv_iload_n (i := 1) hx hb dJ0_charAt_5068e_11 rfl rfl ?_
  refine sm_callS (d := 3) (As := [.ref v, .int (Int32.ofInt (k : Int))]) (st := []) hXO (st_at hXO hXS hr hk) hx hb hml hown hts rfl hX va_S.rf dJ0_charAt_5068e_12 gJ1_charAt_3b067 wm_270 wm_271 rfl (by decide) (by decide) (by decide) (by decide) (by decide) ?_
  exact hret 15 dJ0_charAt_5068e_15
/-! the two places in Tokens' constructor -/
def chI (k : Nat) : Int := (stBy.getD k 0 &&& 255).toInt
variable {R : Room} {mc ms cs sl : Nat} {Sh : List mm_Kd} {ls : List (Option mm_PV)} {σ : mm_Mem} {Q : mm_Q}
theorem vx_slen {x : Int} (hXO : XO E X) (hXS : ∀ s, X s → SF E a v r s) (hfr : 3 ≤ R.frames) (hlo : 120 ≤ R.locals) (hce : cs ≤ R.cells) (hsl : sl ≤ R.slots) (k : vx X E R qX6_init mc ms cs sl Sh 51 ls [vI 147, vI x] σ Q) : vx X E R qX6_init mc ms cs sl Sh 46 ls [vI x] σ Q := by
  intro p l e s m args below meth c H locs la QM hC hX hR hS hL hret
  obtain ⟨x1, x2, x3, x4, x5, x6, x7⟩ := hXS s hX
  refine va_ldcS hC.1 hC.2.1 (own := "TuneDoor$Tokens") hC.2.2.2.1 x1 dX6_init_46 ?_
  refine sm_callV (d := 2) (As := []) (st := [.int (Int32.ofInt x)]) hXO (st_length hXO hXS) hC.1 hC.2.1 hC.2.2.1 hC.2.2.2.1 hC.2.2.2.2.1 hL.1 hX hS dX6_init_48 gJ0_length_8abf5 wm_252 x2 wm_253 wm_254 rfl hfr hlo hce hsl (Nat.le_of_ble_eq_true rfl) ?_
  exact k p l e s m args below meth c H locs la QM hC hX hR hS hL hret
theorem vx_schar {j : Nat} (hj : j < 147) (hls : ls[3]? = some (some (vI (j : Int)))) (hXO : XO E X) (hXS : ∀ s, X s → SF E a v r s) (hr : r = .null ∨ ∃ t, r = .ref t) (hfr : 5 ≤ R.frames) (hlo : 200 ≤ R.locals) (hce : cs ≤ R.cells) (hsl : sl ≤ R.slots) (k : vx X E R qX6_init mc ms cs sl Sh 66 ls [vI (chI j)] σ Q) : vx X E R qX6_init mc ms cs sl Sh 60 ls [] σ Q := by
  intro p l e s m args below meth c H locs la QM hC hX hR hS hL hret
  obtain ⟨x1, x2, x3, x4, x5, x6, x7⟩ := hXS s hX
  refine va_ldcS hC.1 hC.2.1 (own := "TuneDoor$Tokens") hC.2.2.2.1 x1 dX6_init_60 ?_
  refine lv_iload_n (i := 3) hC.1 hC.2.1 dX6_init_62 rfl (hL.at hls) ?_
  refine sm_callV (d := 4) (As := [.int (Int32.ofInt (j : Int))]) (st := []) hXO (st_charAt hXO hXS hr hj) hC.1 hC.2.1 hC.2.2.1 hC.2.2.2.1 hC.2.2.2.2.1 hL.1 hX hS dX6_init_63 gJ0_charAt_5068e wm_262 x2 wm_263 wm_264 rfl hfr hlo hce hsl (Nat.le_of_ble_eq_true rfl) ?_
  have e9 : ([vI (chI j)] : List mm_PV).map (mm_up E) = [.int (stBy.getD j 0 &&& 255)] := by
    show [Value.int (Int32.ofInt (chI j))] = _
    rw [chI, Int32.ofInt_toInt]
  have h9 := k p l e s m args below meth c H locs la QM hC hX hR hS hL hret
  rw [e9] at h9
  exact h9
end SmStr
