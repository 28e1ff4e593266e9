/-! the law's walk from its entry, over Tokens' constructor -/
theorem whole_W {X : State → Prop} {E : mm_Env} (hTok : ∀ {Sh : List mm_Kd} {σ : mm_Mem} {Q : mm_Q} {o n : Nat}, SZ n Sh σ → 2 ≤ o → Sh[o]? = some (.inr 6) → (SZ (n + 4) (Sh ++ [.inl (.int, 1601), .inl (.int, 1601), .inl (.int, 1601), .inl (.int, 29)]) (oxW (wr (wr (wr (wr σ o 0 ((n : Nat) : Int)) o 1 (((n + 1) : Nat) : Int)) o 2 (((n + 2) : Nat) : Int)) o 4 (((n + 3) : Nat) : Int)) (n + 3) 29) → Q none (Sh ++ [.inl (.int, 1601), .inl (.int, 1601), .inl (.int, 1601), .inl (.int, 29)]) (oxW (wr (wr (wr (wr σ o 0 ((n : Nat) : Int)) o 1 (((n + 1) : Nat) : Int)) o 2 (((n + 2) : Nat) : Int)) o 4 (((n + 3) : Nat) : Int)) (n + 3) 29)) → vmX X E 8 4 4832 qX6_init [vR o] Sh σ Q) (hXO : XO E X) (hXD : ∀ s, X s → va_AO "TuneDoor$Door" s) (hXP : ∀ s, X s → va_AO "TuneDoor$Person" s) (hXA : ∀ s, X s → (Cond.arrayOver (.array .int)).before #[] s = true) {p : Program} {l : Launch} {e : Env} {s : State} {m : MethodId} {below : List Frame} {meth : Method} {c : Code} {xs : Nat → Int32} {QM : State → Prop} (hE : E.2.2.2.2 ≤ 3072) (hsz : E.2.2.2.1 = s.heap.size) (hx : p.tables.exec = Jvm.exec) (hb : c.code = code) (hml : c.maxLocals = 4) (hown : s.vm.findClass "TuneDoorLaw" = some m.cls) (hts : ∀ w ∈ mm_T, w.before #[Value.ref E.2.2.1] s = true) (hS : va_X E.2.2.1 E.2.2.2.2 xs s s.heap) (hbl : E.2.2.1 < s.heap.size) (hnm : meth.name = "law") (hK : va_K E.1 vwCl (mm_tys E) s) (hXs : X s)
    (hret : ∀ (pc' : Nat) (la' : Array Slot) (H' : Heap) (locs' : List Loc), va_S (mm_A E) s.heap H' locs' → decode code pc' = .ok (.ireturn, 1) → W p l e room_1 s m #[Value.ref E.2.2.1] below meth c H' locs' 600000 7302250 QM (F0 m pc' la' [.int 1])) : W p l e room_1 s m #[Value.ref E.2.2.1] below meth c s.heap [] 0 0 QM (entryFrame m ([Value.ref E.2.2.1] : List Value).toArray 4) := by
  have hl := lv_entry ([vR 1].map (mm_up E)) (n := 4) (Nat.le_of_ble_eq_true rfl)
  have e1 : [vR 1].map (mm_up E) = [Value.ref E.2.2.1] := by
    rw [List.map_cons, mm_up_ref (by omega)]; rfl
  have hls2 : mm_Ls E ((lg_sl ([vR 1].map (mm_up E)) ++ List.replicate (4 - (lg_sl ([vR 1].map (mm_up E))).length) Slot.unset).toArray) 4 [some (vR 1), none, none, none] := by
    have : ([some (vR 1), none, none, none] : List (Option mm_PV)) = mm_loc [vR 1] 4 := rfl
    rw [this]
    unfold mm_Ls mm_loc
    rw [mm_ent_args]
    exact hl
  rw [e1] at hls2
  rw [lg_entry_eq]
  have hf : ∀ j, inR ((xs j).toInt) := fun j => zm_inR _
  have hR : mm_Rep E [.inr 99, .inl (.int, E.2.2.2.2)] (st0 (fun j => (xs j).toInt)) s s.heap := by
    refine ⟨fun k x hxx => ?_, by rw [hsz]; rfl, Nat.le_refl 2, ?_, by omega, fun o k kd h1 h2 => ?_⟩
    · have h9 : (mm_W E [.inr 99, .inl (.int, E.2.2.2.2)] (st0 (fun j => (xs j).toInt)))[k]? = none := by simp [mm_W]
      rw [h9] at hxx; cases hxx
    · have e : (fun k => Int32.ofInt (st0 (fun j => (xs j).toInt) 1 k)) = xs := by
        funext k
        show Int32.ofInt ((xs k).toInt) = xs k
        exact Int32.ofInt_toInt _
      rw [e]; exact hS
    · unfold st0
      by_cases q : o = 1
      · rw [if_pos q]; exact hf k
      · rw [if_neg q]; exact ⟨by decide, by decide⟩
  exact law_0 (Q := fun v _ => v = some (vB true)) hTok hXO hXD hXP hXA hE hf (fun _ => rfl) p l e s m #[Value.ref E.2.2.1] below meth c s.heap [] _ QM ⟨hx, hb, hml, hown, hts, hK, by omega, hnm⟩ hXs hR va_S.rf hls2 (fun pc' la' v Sh' σ' H' locs' hq hfit hR' hS' hd => by
    obtain ⟨-, τ', -, hv⟩ := hq
    have hv : v = some (vB true) := hv
    subst hv
    exact hret pc' la' H' locs' hS' hd)
