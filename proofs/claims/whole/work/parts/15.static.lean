/-! the heap behind the constructors -/
def mm_SH0 (L : Nat) : List mm_Kd := [.inr 99, .inl (.int, L), .inr 10, .inl (.int, 1600), .inr 2, .inl (.int, 3), .inl (.int, 3), .inl (.int, 3), .inl (.object "TuneDoor$Door", 4), .inl (.object "TuneDoor$Person", 4), .inr 5, .inl (.int, 1600), .inl (.int, 3), .inl (.int, 18), .inl (.int, 18), .inl (.int, 18), .inl (.int, 6), .inl (.int, 64), .inr 0, .inl (.int, 3), .inl (.int, 3), .inl (.int, 3), .inr 0, .inl (.int, 3), .inl (.int, 3), .inl (.int, 3), .inr 0, .inl (.int, 3), .inl (.int, 3), .inl (.int, 3), .inr 0, .inl (.int, 3), .inl (.int, 3), .inl (.int, 3), .inr 3, .inr 3, .inr 3, .inr 3, .inr 2, .inl (.int, 3)]
def mm_SH1 : List mm_Kd := [.inl (.int, 3), .inl (.int, 3), .inl (.object "TuneDoor$Door", 4), .inl (.object "TuneDoor$Person", 4), .inr 5, .inl (.int, 1600), .inl (.int, 3), .inl (.int, 18), .inl (.int, 18), .inl (.int, 18), .inl (.int, 6), .inl (.int, 64), .inr 0, .inl (.int, 3), .inl (.int, 3), .inl (.int, 3), .inr 0, .inl (.int, 3), .inl (.int, 3), .inl (.int, 3), .inr 0, .inl (.int, 3), .inl (.int, 3), .inl (.int, 3), .inr 0, .inl (.int, 3), .inl (.int, 3), .inl (.int, 3), .inr 3, .inr 3, .inr 3, .inr 3, .inr 6, .inl (.int, 1601), .inl (.int, 1601), .inl (.int, 1601), .inl (.int, 29), .inr 4, .inr 9, .inl (.array .int, 3)]
def mm_SH2 : List mm_Kd := [.inl (.int, 1000), .inl (.int, 1000), .inl (.int, 1000), .inl (.array .int, 3), .inl (.int, 1000), .inl (.int, 1000), .inl (.int, 1000), .inl (.array .int, 3), .inl (.int, 1000), .inl (.int, 1000), .inl (.int, 1000), .inr 0, .inl (.int, 3), .inl (.int, 3), .inl (.int, 3), .inr 8, .inl (.object "TuneDoor$Door", 9), .inr 0, .inl (.int, 3), .inl (.int, 3), .inl (.int, 3), .inr 0, .inl (.int, 3), .inl (.int, 3), .inl (.int, 3), .inr 0, .inl (.int, 3), .inl (.int, 3), .inl (.int, 3), .inr 0, .inl (.int, 3), .inl (.int, 3), .inl (.int, 3), .inr 0, .inl (.int, 3), .inl (.int, 3), .inl (.int, 3), .inr 0, .inl (.int, 3), .inl (.int, 3)]
def mm_SH3 : List mm_Kd := [.inl (.int, 3), .inr 0, .inl (.int, 3), .inl (.int, 3), .inl (.int, 3), .inr 0, .inl (.int, 3), .inl (.int, 3), .inl (.int, 3), .inr 0, .inl (.int, 3), .inl (.int, 3), .inl (.int, 3), .inr 7, .inl (.int, 7776), .inl (.int, 123), .inr 1, .inl (.boolean, 125), .inl (.int, 69), .inl (.int, 6), .inr 11, .inl (.int, 1800), .inl (.int, 2), .inl (.int, 2), .inl (.int, 2), .inl (.long, 6), .inl (.int, 30), .inl (.int, 6), .inl (.int, 6), .inl (.int, 36), .inl (.int, 36), .inl (.int, 36), .inl (.int, 2), .inl (.long, 8), .inl (.int, 8), .inl (.int, 8), .inl (.int, 8), .inl (.int, 2), .inl (.long, 8), .inl (.int, 8)]
def mm_SH4 : List mm_Kd := [.inl (.int, 8), .inl (.int, 8), .inl (.int, 8), .inl (.int, 2), .inl (.int, 2), .inl (.int, 3200), .inl (.int, 3200), .inl (.int, 20), .inl (.int, 20), .inl (.boolean, 20), .inl (.int, 20), .inl (.int, 20), .inl (.int, 500), .inl (.int, 6), .inl (.long, 1650), .inl (.int, 10), .inl (.int, 15000), .inl (.int, 3000), .inl (.int, 3000), .inl (.int, 4), .inl (.int, 4), .inl (.int, 4), .inl (.int, 12), .inl (.int, 12), .inl (.int, 12), .inl (.int, 4), .inl (.int, 4), .inl (.int, 4), .inl (.int, 5), .inl (.int, 4), .inl (.int, 12), .inl (.int, 12), .inl (.int, 12), .inl (.int, 80)]
def mm_SH (L : Nat) : List mm_Kd := mm_SH0 L ++ mm_SH1 ++ mm_SH2 ++ mm_SH3 ++ mm_SH4
def mm_RT0 : List (List (Option Nat)) := [[], [], [some 3, none, none, none, some 72, some 77, some 78, some 91, some 95, some 133, some 136, some 138, none, some 139, none], [], [none, none, none, none, none, none, none, some 5, some 6, some 7, some 8, some 9, some 10], [], [], [], [some 18, some 22, some 26, some 30], [some 34, some 35, some 36, some 37], [some 11, none, some 12, some 13, some 14, some 15, some 16, some 17, none], [], [], [], [], [], [], [], [none, none, none, none, none, none, none, none, some 19, some 20, some 21], [], [], [], [none, none, none, none, none, none, none, none, some 23, some 24, some 25], [], [], [], [none, none, none, none, none, none, none, none, some 27, some 28, some 29], [], [], [], [none, none, none, none, none, none, none, none, some 31, some 32, some 33], [], [], [], [none, none, none, none, none, none, none, none], [none, none, none, none, none, none, none, none], [none, none, none, none, none, none, none, none], [none, none, none, none, none, none, none, none], [none, none, none, none, none, none, none, some 39, some 40, some 41, some 42, some 43, some 44], []]
def mm_RT1 : List (List (Option Nat)) := [[], [], [some 52, some 56, some 60, some 64], [some 68, some 69, some 70, some 71], [some 45, none, some 46, some 47, some 48, some 49, some 50, some 51, none], [], [], [], [], [], [], [], [none, none, none, none, none, none, none, none, some 53, some 54, some 55], [], [], [], [none, none, none, none, none, none, none, none, some 57, some 58, some 59], [], [], [], [none, none, none, none, none, none, none, none, some 61, some 62, some 63], [], [], [], [none, none, none, none, none, none, none, none, some 65, some 66, some 67], [], [], [], [none, none, none, none, none, none, none, none], [none, none, none, none, none, none, none, none], [none, none, none, none, none, none, none, none], [none, none, none, none, none, none, none, none], [some 73, some 74, some 75, none, some 76, none], [], [], [], [], [some 72, none, none, none, none, none, none, none, none], [some 79, some 83, some 87, none, none, none], [some 80, some 81, some 82]]
def mm_RT2 : List (List (Option Nat)) := [[], [], [], [some 84, some 85, some 86], [], [], [], [some 88, some 89, some 90], [], [], [], [none, none, none, none, none, none, none, none, some 92, some 93, some 94], [], [], [], [some 78, some 96, none, none, none], [some 97, some 101, some 105, some 109, some 113, some 117, some 121, some 125, some 129], [none, none, none, none, none, none, none, none, some 98, some 99, some 100], [], [], [], [none, none, none, none, none, none, none, none, some 102, some 103, some 104], [], [], [], [none, none, none, none, none, none, none, none, some 106, some 107, some 108], [], [], [], [none, none, none, none, none, none, none, none, some 110, some 111, some 112], [], [], [], [none, none, none, none, none, none, none, none, some 114, some 115, some 116], [], [], [], [none, none, none, none, none, none, none, none, some 118, some 119, some 120], [], []]
def mm_RT3 : List (List (Option Nat)) := [[], [none, none, none, none, none, none, none, none, some 122, some 123, some 124], [], [], [], [none, none, none, none, none, none, none, none, some 126, some 127, some 128], [], [], [], [none, none, none, none, none, none, none, none, some 130, some 131, some 132], [], [], [], [some 78, some 134, none, some 135], [], [], [some 137, none, none, none], [], [], [], [some 141, none, none, none, none, none, none, none, none, none, none, none, none, some 142, some 143, some 144, some 145, some 146, some 147, some 148, some 149, some 150, some 151, some 152, some 153, some 154, some 155, some 156, some 157, some 158, some 159, some 160, some 161, some 162, some 163, some 164, some 165, some 166, none, none, some 167, some 168, some 169, some 170, some 171, none, none, some 172, none, none, some 173, some 174, some 175, some 176, some 177, some 178, some 179, some 180, some 181, some 182, some 183, some 184, some 185, some 186, some 187, some 188, none, some 189, some 190, some 191, some 192, none, some 193, none], [], [], [], [], [], [], [], [], [], [], [], [], [], [], [], [], [], [], []]
def mm_RT4 : List (List (Option Nat)) := [[], [], [], [], [], [], [], [], [], [], [], [], [], [], [], [], [], [], [], [], [], [], [], [], [], [], [], [], [], [], [], [], [], []]
def mm_RT : List (List (Option Nat)) := mm_RT0 ++ mm_RT1 ++ mm_RT2 ++ mm_RT3 ++ mm_RT4
def KD (o : Nat) : Option mm_Kd := (mm_SH 0)[o]?
def mm_R0 (o k : Nat) : Option Nat := (mm_RT.getD o []).getD k none
def fm (τ : mm_Mem) : mm_Mem := fun o k => match mm_R0 o k with
  | some a => (a : Int)
  | none => τ o k
set_option maxRecDepth 100000 in
theorem mm_SH_len (L : Nat) : (mm_SH L).length = 194 := rfl
theorem KD_lt {o : Nat} {kd : mm_Kd} (h : KD o = some kd) : o < 194 := (List.getElem?_eq_some_iff.mp h).1
theorem KD_SH {o : Nat} {kd : mm_Kd} (L : Nat) (ho : 2 ≤ o) (h : KD o = some kd) : (mm_SH L)[o]? = some kd := by
  rw [← h]
  match o, ho with
  | o + 2, _ => rfl
theorem mm_fin_all {P : Nat → Prop} [DecidablePred P] (n : Nat) (h : (List.range n).all (fun i => decide (P i)) = true) {i : Nat} (hi : i < n) : P i := of_decide_eq_true (List.all_eq_true.mp h i (List.mem_range.mpr hi))
theorem mm_R0_len : (List.range 194).all (fun o => decide ((mm_RT.getD o []).length ≤ 74)) = true := by decide +kernel
theorem mm_R0_ch : (List.range 194).all (fun o => (List.range 74).all (fun k => match KD o with
  | some kd => !(mm_slotI kd k) || (mm_R0 o k).isNone
  | none => true)) = true := by decide +kernel
theorem mm_R0_I {o k : Nat} {kd : mm_Kd} (h : KD o = some kd) (hs : mm_slotI kd k = true) : mm_R0 o k = none := by
  have ho := KD_lt h
  by_cases hk : k < 74
  · have h1 := List.all_eq_true.mp (List.all_eq_true.mp mm_R0_ch o (List.mem_range.mpr ho)) k (List.mem_range.mpr hk)
    rw [h] at h1
    simpa [hs] using h1
  · have h1 := of_decide_eq_true (List.all_eq_true.mp mm_R0_len o (List.mem_range.mpr ho))
    unfold mm_R0
    rw [List.getD_eq_getElem?_getD, List.getElem?_eq_none (by omega)]
    rfl
theorem fm_none {τ : mm_Mem} {o k : Nat} (h : mm_R0 o k = none) : fm τ o k = τ o k := by simp [fm, h]
theorem fm_some {τ : mm_Mem} {o k a : Nat} (h : mm_R0 o k = some a) : fm τ o k = (a : Int) := by simp [fm, h]
theorem fm_wr {τ : mm_Mem} {o k : Nat} {z : Int} (h : mm_R0 o k = none) : wr (fm τ) o k z = fm (wr τ o k z) := by
  funext o' k'
  by_cases e : o' = o ∧ k' = k
  · obtain ⟨rfl, rfl⟩ := e
    simp [wr, fm, h]
  · simp only [wr, fm, if_neg e]
abbrev mm_Q0 : Type := Option mm_PV → mm_Mem → Prop
def mm_QQ (E : mm_Env) (Q : mm_Q0) : mm_Q := fun v Sh' σ' => Sh' = mm_SH E.2.2.2.2 ∧ ∃ τ', σ' = fm τ' ∧ Q v τ'
/-- from here the method comes to a return with Q (nothing is made) -/
def V0 (E : mm_Env) (d : Nat) (q : mm_Y) (pc : Nat) (ls : List (Option mm_PV)) (st : List mm_PV) (τ : mm_Mem) (Q : mm_Q0) : Prop := vv E (mm_rm d 0 0) q 0 0 0 0 (mm_SH E.2.2.2.2) pc ls st (fm τ) (mm_QQ E Q)
/-- a method's contract (nothing is made) -/
def M0 (E : mm_Env) (d : Nat) (q : mm_Y) (As : List mm_PV) (τ : mm_Mem) (Q : mm_Q0) : Prop := vm E d 0 0 q As (mm_SH E.2.2.2.2) (fm τ) (mm_QQ E Q)
theorem M0.mono {E : mm_Env} {d : Nat} {q : mm_Y} {As : List mm_PV} {τ : mm_Mem} {Q Q' : mm_Q0} (h : M0 E d q As τ Q) (hQ : ∀ v τ', Q v τ' → Q' v τ') : M0 E d q As τ Q' :=
  vm.mono h (fun _ _ _ hh => ⟨hh.1, hh.2.choose, hh.2.choose_spec.1, hQ _ _ hh.2.choose_spec.2⟩)
theorem M0_of {E : mm_Env} {d : Nat} {q : mm_Y} {As : List mm_PV} {τ : mm_Mem} {Q : mm_Q0} (hp : plainName q.1.cls = true) (hn : (mm_ent As).length ≤ q.2.2.1) (ls : List (Option mm_PV)) (hls : mm_loc As q.2.2.1 = ls) (h : V0 E d q 0 ls [] τ Q) : M0 E d q As τ Q := vm_of hp hn ls hls h
def bI (b : Bool) : Int := if b then 1 else 0
abbrev vB (b : Bool) : mm_PV := vI (bI b)
theorem bI_t : bI true = 1 := rfl
theorem bI_f : bI false = 0 := rfl
theorem bI_01 (b : Bool) : bI b = 0 ∨ bI b = 1 := by cases b <;> simp [bI]
theorem bI_R (b : Bool) : inR (bI b) := by cases b <;> exact ⟨by decide, by decide⟩
theorem bI_0 {b : Bool} : bI b = 0 ↔ b = false := by cases b <;> simp [bI]
theorem bI_n0 {b : Bool} : bI b ≠ 0 ↔ b = true := by cases b <;> simp [bI]
theorem kd_2 : KD 2 = some (.inr 10) := rfl
theorem kd_3 : KD 3 = some (.inl (.int, 1600)) := rfl
theorem kd_4 : KD 4 = some (.inr 2) := rfl
theorem kd_5 : KD 5 = some (.inl (.int, 3)) := rfl
theorem kd_6 : KD 6 = some (.inl (.int, 3)) := rfl
theorem kd_7 : KD 7 = some (.inl (.int, 3)) := rfl
theorem kd_8 : KD 8 = some (.inl (.object "TuneDoor$Door", 4)) := rfl
theorem kd_9 : KD 9 = some (.inl (.object "TuneDoor$Person", 4)) := rfl
theorem kd_10 : KD 10 = some (.inr 5) := rfl
theorem kd_11 : KD 11 = some (.inl (.int, 1600)) := rfl
theorem kd_12 : KD 12 = some (.inl (.int, 3)) := rfl
theorem kd_13 : KD 13 = some (.inl (.int, 18)) := rfl
theorem kd_14 : KD 14 = some (.inl (.int, 18)) := rfl
theorem kd_15 : KD 15 = some (.inl (.int, 18)) := rfl
theorem kd_16 : KD 16 = some (.inl (.int, 6)) := rfl
theorem kd_17 : KD 17 = some (.inl (.int, 64)) := rfl
theorem kd_18 : KD 18 = some (.inr 0) := rfl
theorem kd_19 : KD 19 = some (.inl (.int, 3)) := rfl
theorem kd_20 : KD 20 = some (.inl (.int, 3)) := rfl
theorem kd_21 : KD 21 = some (.inl (.int, 3)) := rfl
theorem kd_22 : KD 22 = some (.inr 0) := rfl
theorem kd_23 : KD 23 = some (.inl (.int, 3)) := rfl
theorem kd_24 : KD 24 = some (.inl (.int, 3)) := rfl
theorem kd_25 : KD 25 = some (.inl (.int, 3)) := rfl
theorem kd_26 : KD 26 = some (.inr 0) := rfl
theorem kd_27 : KD 27 = some (.inl (.int, 3)) := rfl
theorem kd_28 : KD 28 = some (.inl (.int, 3)) := rfl
theorem kd_29 : KD 29 = some (.inl (.int, 3)) := rfl
theorem kd_30 : KD 30 = some (.inr 0) := rfl
theorem kd_31 : KD 31 = some (.inl (.int, 3)) := rfl
theorem kd_32 : KD 32 = some (.inl (.int, 3)) := rfl
theorem kd_33 : KD 33 = some (.inl (.int, 3)) := rfl
theorem kd_34 : KD 34 = some (.inr 3) := rfl
theorem kd_35 : KD 35 = some (.inr 3) := rfl
theorem kd_36 : KD 36 = some (.inr 3) := rfl
theorem kd_37 : KD 37 = some (.inr 3) := rfl
theorem kd_38 : KD 38 = some (.inr 2) := rfl
theorem kd_39 : KD 39 = some (.inl (.int, 3)) := rfl
theorem kd_40 : KD 40 = some (.inl (.int, 3)) := rfl
theorem kd_41 : KD 41 = some (.inl (.int, 3)) := rfl
theorem kd_42 : KD 42 = some (.inl (.object "TuneDoor$Door", 4)) := rfl
theorem kd_43 : KD 43 = some (.inl (.object "TuneDoor$Person", 4)) := rfl
theorem kd_44 : KD 44 = some (.inr 5) := rfl
theorem kd_45 : KD 45 = some (.inl (.int, 1600)) := rfl
theorem kd_46 : KD 46 = some (.inl (.int, 3)) := rfl
theorem kd_47 : KD 47 = some (.inl (.int, 18)) := rfl
theorem kd_48 : KD 48 = some (.inl (.int, 18)) := rfl
theorem kd_49 : KD 49 = some (.inl (.int, 18)) := rfl
theorem kd_50 : KD 50 = some (.inl (.int, 6)) := rfl
theorem kd_51 : KD 51 = some (.inl (.int, 64)) := rfl
theorem kd_52 : KD 52 = some (.inr 0) := rfl
theorem kd_53 : KD 53 = some (.inl (.int, 3)) := rfl
theorem kd_54 : KD 54 = some (.inl (.int, 3)) := rfl
theorem kd_55 : KD 55 = some (.inl (.int, 3)) := rfl
theorem kd_56 : KD 56 = some (.inr 0) := rfl
theorem kd_57 : KD 57 = some (.inl (.int, 3)) := rfl
theorem kd_58 : KD 58 = some (.inl (.int, 3)) := rfl
theorem kd_59 : KD 59 = some (.inl (.int, 3)) := rfl
theorem kd_60 : KD 60 = some (.inr 0) := rfl
theorem kd_61 : KD 61 = some (.inl (.int, 3)) := rfl
theorem kd_62 : KD 62 = some (.inl (.int, 3)) := rfl
theorem kd_63 : KD 63 = some (.inl (.int, 3)) := rfl
theorem kd_64 : KD 64 = some (.inr 0) := rfl
theorem kd_65 : KD 65 = some (.inl (.int, 3)) := rfl
theorem kd_66 : KD 66 = some (.inl (.int, 3)) := rfl
theorem kd_67 : KD 67 = some (.inl (.int, 3)) := rfl
theorem kd_68 : KD 68 = some (.inr 3) := rfl
theorem kd_69 : KD 69 = some (.inr 3) := rfl
theorem kd_70 : KD 70 = some (.inr 3) := rfl
theorem kd_71 : KD 71 = some (.inr 3) := rfl
theorem kd_72 : KD 72 = some (.inr 6) := rfl
theorem kd_73 : KD 73 = some (.inl (.int, 1601)) := rfl
theorem kd_74 : KD 74 = some (.inl (.int, 1601)) := rfl
theorem kd_75 : KD 75 = some (.inl (.int, 1601)) := rfl
theorem kd_76 : KD 76 = some (.inl (.int, 29)) := rfl
theorem kd_77 : KD 77 = some (.inr 4) := rfl
theorem kd_78 : KD 78 = some (.inr 9) := rfl
theorem kd_79 : KD 79 = some (.inl (.array .int, 3)) := rfl
theorem kd_80 : KD 80 = some (.inl (.int, 1000)) := rfl
theorem kd_81 : KD 81 = some (.inl (.int, 1000)) := rfl
theorem kd_82 : KD 82 = some (.inl (.int, 1000)) := rfl
theorem kd_83 : KD 83 = some (.inl (.array .int, 3)) := rfl
theorem kd_84 : KD 84 = some (.inl (.int, 1000)) := rfl
theorem kd_85 : KD 85 = some (.inl (.int, 1000)) := rfl
theorem kd_86 : KD 86 = some (.inl (.int, 1000)) := rfl
theorem kd_87 : KD 87 = some (.inl (.array .int, 3)) := rfl
theorem kd_88 : KD 88 = some (.inl (.int, 1000)) := rfl
theorem kd_89 : KD 89 = some (.inl (.int, 1000)) := rfl
theorem kd_90 : KD 90 = some (.inl (.int, 1000)) := rfl
theorem kd_91 : KD 91 = some (.inr 0) := rfl
theorem kd_92 : KD 92 = some (.inl (.int, 3)) := rfl
theorem kd_93 : KD 93 = some (.inl (.int, 3)) := rfl
theorem kd_94 : KD 94 = some (.inl (.int, 3)) := rfl
theorem kd_95 : KD 95 = some (.inr 8) := rfl
theorem kd_96 : KD 96 = some (.inl (.object "TuneDoor$Door", 9)) := rfl
theorem kd_97 : KD 97 = some (.inr 0) := rfl
theorem kd_98 : KD 98 = some (.inl (.int, 3)) := rfl
theorem kd_99 : KD 99 = some (.inl (.int, 3)) := rfl
theorem kd_100 : KD 100 = some (.inl (.int, 3)) := rfl
theorem kd_101 : KD 101 = some (.inr 0) := rfl
theorem kd_102 : KD 102 = some (.inl (.int, 3)) := rfl
theorem kd_103 : KD 103 = some (.inl (.int, 3)) := rfl
theorem kd_104 : KD 104 = some (.inl (.int, 3)) := rfl
theorem kd_105 : KD 105 = some (.inr 0) := rfl
theorem kd_106 : KD 106 = some (.inl (.int, 3)) := rfl
theorem kd_107 : KD 107 = some (.inl (.int, 3)) := rfl
theorem kd_108 : KD 108 = some (.inl (.int, 3)) := rfl
theorem kd_109 : KD 109 = some (.inr 0) := rfl
theorem kd_110 : KD 110 = some (.inl (.int, 3)) := rfl
theorem kd_111 : KD 111 = some (.inl (.int, 3)) := rfl
theorem kd_112 : KD 112 = some (.inl (.int, 3)) := rfl
theorem kd_113 : KD 113 = some (.inr 0) := rfl
theorem kd_114 : KD 114 = some (.inl (.int, 3)) := rfl
theorem kd_115 : KD 115 = some (.inl (.int, 3)) := rfl
theorem kd_116 : KD 116 = some (.inl (.int, 3)) := rfl
theorem kd_117 : KD 117 = some (.inr 0) := rfl
theorem kd_118 : KD 118 = some (.inl (.int, 3)) := rfl
theorem kd_119 : KD 119 = some (.inl (.int, 3)) := rfl
theorem kd_120 : KD 120 = some (.inl (.int, 3)) := rfl
theorem kd_121 : KD 121 = some (.inr 0) := rfl
theorem kd_122 : KD 122 = some (.inl (.int, 3)) := rfl
theorem kd_123 : KD 123 = some (.inl (.int, 3)) := rfl
theorem kd_124 : KD 124 = some (.inl (.int, 3)) := rfl
theorem kd_125 : KD 125 = some (.inr 0) := rfl
theorem kd_126 : KD 126 = some (.inl (.int, 3)) := rfl
theorem kd_127 : KD 127 = some (.inl (.int, 3)) := rfl
theorem kd_128 : KD 128 = some (.inl (.int, 3)) := rfl
theorem kd_129 : KD 129 = some (.inr 0) := rfl
theorem kd_130 : KD 130 = some (.inl (.int, 3)) := rfl
theorem kd_131 : KD 131 = some (.inl (.int, 3)) := rfl
theorem kd_132 : KD 132 = some (.inl (.int, 3)) := rfl
theorem kd_133 : KD 133 = some (.inr 7) := rfl
theorem kd_134 : KD 134 = some (.inl (.int, 7776)) := rfl
theorem kd_135 : KD 135 = some (.inl (.int, 123)) := rfl
theorem kd_136 : KD 136 = some (.inr 1) := rfl
theorem kd_137 : KD 137 = some (.inl (.boolean, 125)) := rfl
theorem kd_138 : KD 138 = some (.inl (.int, 69)) := rfl
theorem kd_139 : KD 139 = some (.inl (.int, 6)) := rfl
theorem kd_140 : KD 140 = some (.inr 11) := rfl
theorem kd_141 : KD 141 = some (.inl (.int, 1800)) := rfl
theorem kd_142 : KD 142 = some (.inl (.int, 2)) := rfl
theorem kd_143 : KD 143 = some (.inl (.int, 2)) := rfl
theorem kd_144 : KD 144 = some (.inl (.int, 2)) := rfl
theorem kd_145 : KD 145 = some (.inl (.long, 6)) := rfl
theorem kd_146 : KD 146 = some (.inl (.int, 30)) := rfl
theorem kd_147 : KD 147 = some (.inl (.int, 6)) := rfl
theorem kd_148 : KD 148 = some (.inl (.int, 6)) := rfl
theorem kd_149 : KD 149 = some (.inl (.int, 36)) := rfl
theorem kd_150 : KD 150 = some (.inl (.int, 36)) := rfl
theorem kd_151 : KD 151 = some (.inl (.int, 36)) := rfl
theorem kd_152 : KD 152 = some (.inl (.int, 2)) := rfl
theorem kd_153 : KD 153 = some (.inl (.long, 8)) := rfl
theorem kd_154 : KD 154 = some (.inl (.int, 8)) := rfl
theorem kd_155 : KD 155 = some (.inl (.int, 8)) := rfl
theorem kd_156 : KD 156 = some (.inl (.int, 8)) := rfl
theorem kd_157 : KD 157 = some (.inl (.int, 2)) := rfl
theorem kd_158 : KD 158 = some (.inl (.long, 8)) := rfl
theorem kd_159 : KD 159 = some (.inl (.int, 8)) := rfl
theorem kd_160 : KD 160 = some (.inl (.int, 8)) := rfl
theorem kd_161 : KD 161 = some (.inl (.int, 8)) := rfl
theorem kd_162 : KD 162 = some (.inl (.int, 8)) := rfl
theorem kd_163 : KD 163 = some (.inl (.int, 2)) := rfl
theorem kd_164 : KD 164 = some (.inl (.int, 2)) := rfl
theorem kd_165 : KD 165 = some (.inl (.int, 3200)) := rfl
theorem kd_166 : KD 166 = some (.inl (.int, 3200)) := rfl
theorem kd_167 : KD 167 = some (.inl (.int, 20)) := rfl
theorem kd_168 : KD 168 = some (.inl (.int, 20)) := rfl
theorem kd_169 : KD 169 = some (.inl (.boolean, 20)) := rfl
theorem kd_170 : KD 170 = some (.inl (.int, 20)) := rfl
theorem kd_171 : KD 171 = some (.inl (.int, 20)) := rfl
theorem kd_172 : KD 172 = some (.inl (.int, 500)) := rfl
theorem kd_173 : KD 173 = some (.inl (.int, 6)) := rfl
theorem kd_174 : KD 174 = some (.inl (.long, 1650)) := rfl
theorem kd_175 : KD 175 = some (.inl (.int, 10)) := rfl
theorem kd_176 : KD 176 = some (.inl (.int, 15000)) := rfl
theorem kd_177 : KD 177 = some (.inl (.int, 3000)) := rfl
theorem kd_178 : KD 178 = some (.inl (.int, 3000)) := rfl
theorem kd_179 : KD 179 = some (.inl (.int, 4)) := rfl
theorem kd_180 : KD 180 = some (.inl (.int, 4)) := rfl
theorem kd_181 : KD 181 = some (.inl (.int, 4)) := rfl
theorem kd_182 : KD 182 = some (.inl (.int, 12)) := rfl
theorem kd_183 : KD 183 = some (.inl (.int, 12)) := rfl
theorem kd_184 : KD 184 = some (.inl (.int, 12)) := rfl
theorem kd_185 : KD 185 = some (.inl (.int, 4)) := rfl
theorem kd_186 : KD 186 = some (.inl (.int, 4)) := rfl
theorem kd_187 : KD 187 = some (.inl (.int, 4)) := rfl
theorem kd_188 : KD 188 = some (.inl (.int, 5)) := rfl
theorem kd_189 : KD 189 = some (.inl (.int, 4)) := rfl
theorem kd_190 : KD 190 = some (.inl (.int, 12)) := rfl
theorem kd_191 : KD 191 = some (.inl (.int, 12)) := rfl
theorem kd_192 : KD 192 = some (.inl (.int, 12)) := rfl
theorem kd_193 : KD 193 = some (.inl (.int, 80)) := rfl
theorem kDoor_ch : (List.range 194).all (fun d => decide (KD d = some (.inr 0) → 2 ≤ d ∧ mm_R0 d 8 = some (d + 1) ∧ mm_R0 d 9 = some (d + 2) ∧ mm_R0 d 10 = some (d + 3) ∧ KD (d + 1) = some (.inl (.int, 3)) ∧ KD (d + 2) = some (.inl (.int, 3)) ∧ KD (d + 3) = some (.inl (.int, 3)))) = true := by decide +kernel
theorem kDoor {d : Nat} (h : KD d = some (.inr 0)) : 2 ≤ d ∧ mm_R0 d 8 = some (d + 1) ∧ mm_R0 d 9 = some (d + 2) ∧ mm_R0 d 10 = some (d + 3) ∧ KD (d + 1) = some (.inl (.int, 3)) ∧ KD (d + 2) = some (.inl (.int, 3)) ∧ KD (d + 3) = some (.inl (.int, 3)) := of_decide_eq_true (List.all_eq_true.mp kDoor_ch d (List.mem_range.mpr (KD_lt h))) h
theorem kRules_ch : (List.range 194).all (fun d => decide (KD d = some (.inr 5) → d = 10 ∨ d = 44)) = true := by decide +kernel
theorem kRules_or {d : Nat} (h : KD d = some (.inr 5)) : d = 10 ∨ d = 44 := of_decide_eq_true (List.all_eq_true.mp kRules_ch d (List.mem_range.mpr (KD_lt h))) h
theorem kRules {d : Nat} (h : KD d = some (.inr 5)) : 2 ≤ d ∧ mm_R0 d 0 = some (d + 1) ∧ mm_R0 d 2 = some (d + 2) ∧ mm_R0 d 3 = some (d + 3) ∧ mm_R0 d 4 = some (d + 4) ∧ mm_R0 d 5 = some (d + 5) ∧ mm_R0 d 6 = some (d + 6) ∧ mm_R0 d 7 = some (d + 7) ∧ KD (d + 1) = some (.inl (.int, 1600)) ∧ KD (d + 2) = some (.inl (.int, 3)) ∧ KD (d + 3) = some (.inl (.int, 18)) ∧ KD (d + 4) = some (.inl (.int, 18)) ∧ KD (d + 5) = some (.inl (.int, 18)) ∧ KD (d + 6) = some (.inl (.int, 6)) ∧ KD (d + 7) = some (.inl (.int, 64)) := by
  rcases kRules_or h with rfl | rfl <;> exact ⟨by decide, rfl, rfl, rfl, rfl, rfl, rfl, rfl, rfl, rfl, rfl, rfl, rfl, rfl, rfl⟩
theorem kHouse_ch : (List.range 194).all (fun d => decide (KD d = some (.inr 2) → d = 4 ∨ d = 38)) = true := by decide +kernel
theorem kHouse_or {d : Nat} (h : KD d = some (.inr 2)) : d = 4 ∨ d = 38 := of_decide_eq_true (List.all_eq_true.mp kHouse_ch d (List.mem_range.mpr (KD_lt h))) h
theorem kHouse {d : Nat} (h : KD d = some (.inr 2)) : 2 ≤ d ∧ mm_R0 d 7 = some (d + 1) ∧ mm_R0 d 8 = some (d + 2) ∧ mm_R0 d 9 = some (d + 3) ∧ mm_R0 d 10 = some (d + 4) ∧ mm_R0 d 11 = some (d + 5) ∧ mm_R0 d 12 = some (d + 6) ∧ KD (d + 1) = some (.inl (.int, 3)) ∧ KD (d + 2) = some (.inl (.int, 3)) ∧ KD (d + 3) = some (.inl (.int, 3)) ∧ KD (d + 4) = some (.inl (.object "TuneDoor$Door", 4)) ∧ KD (d + 5) = some (.inl (.object "TuneDoor$Person", 4)) ∧ KD (d + 6) = some (.inr 5) ∧ mm_R0 (d + 4) 0 = some (d + 14) ∧ mm_R0 (d + 4) 1 = some (d + 18) ∧ mm_R0 (d + 4) 2 = some (d + 22) ∧ mm_R0 (d + 4) 3 = some (d + 26) ∧ mm_R0 (d + 5) 0 = some (d + 30) ∧ mm_R0 (d + 5) 1 = some (d + 31) ∧ mm_R0 (d + 5) 2 = some (d + 32) ∧ mm_R0 (d + 5) 3 = some (d + 33) ∧ KD (d + 14) = some (.inr 0) ∧ KD (d + 18) = some (.inr 0) ∧ KD (d + 22) = some (.inr 0) ∧ KD (d + 26) = some (.inr 0) ∧ KD (d + 30) = some (.inr 3) ∧ KD (d + 31) = some (.inr 3) ∧ KD (d + 32) = some (.inr 3) ∧ KD (d + 33) = some (.inr 3) := by
  rcases kHouse_or h with rfl | rfl <;> exact ⟨by decide, rfl, rfl, rfl, rfl, rfl, rfl, rfl, rfl, rfl, rfl, rfl, rfl, rfl, rfl, rfl, rfl, rfl, rfl, rfl, rfl, rfl, rfl, rfl, rfl, rfl, rfl, rfl, rfl⟩
theorem kPerson_ch : (List.range 194).all (fun d => decide (KD d = some (.inr 3) → 2 ≤ d)) = true := by decide +kernel
theorem kPerson {d : Nat} (h : KD d = some (.inr 3)) : 2 ≤ d := of_decide_eq_true (List.all_eq_true.mp kPerson_ch d (List.mem_range.mpr (KD_lt h))) h
theorem kHouseD {h j : Nat} (hh : KD h = some (.inr 2)) (hj : j < 4) : mm_R0 (h + 4) j = some (h + 14 + 4 * j) ∧ KD (h + 14 + 4 * j) = some (.inr 0) := by
  have k := kHouse hh
  obtain ⟨-, -, -, -, -, -, -, -, -, -, -, -, -, a0, a1, a2, a3, -, -, -, -, c0, c1, c2, c3, -⟩ := k
  match j, hj with
  | 0, _ => exact ⟨a0, c0⟩
  | 1, _ => exact ⟨a1, c1⟩
  | 2, _ => exact ⟨a2, c2⟩
  | 3, _ => exact ⟨a3, c3⟩
theorem kHouseP {h j : Nat} (hh : KD h = some (.inr 2)) (hj : j < 4) : mm_R0 (h + 5) j = some (h + 30 + j) ∧ KD (h + 30 + j) = some (.inr 3) := by
  have k := kHouse hh
  obtain ⟨-, -, -, -, -, -, -, -, -, -, -, -, -, -, -, -, -, a0, a1, a2, a3, -, -, -, -, c0, c1, c2, c3⟩ := k
  match j, hj with
  | 0, _ => exact ⟨a0, c0⟩
  | 1, _ => exact ⟨a1, c1⟩
  | 2, _ => exact ⟨a2, c2⟩
  | 3, _ => exact ⟨a3, c3⟩
theorem kWays {j : Nat} (hj : j < 9) : mm_R0 96 j = some (97 + 4 * j) ∧ KD (97 + 4 * j) = some (.inr 0) := by
  match j, hj with
  | 0, _ => exact ⟨rfl, rfl⟩
  | 1, _ => exact ⟨rfl, rfl⟩
  | 2, _ => exact ⟨rfl, rfl⟩
  | 3, _ => exact ⟨rfl, rfl⟩
  | 4, _ => exact ⟨rfl, rfl⟩
  | 5, _ => exact ⟨rfl, rfl⟩
  | 6, _ => exact ⟨rfl, rfl⟩
  | 7, _ => exact ⟨rfl, rfl⟩
  | 8, _ => exact ⟨rfl, rfl⟩
theorem kWhi {o j : Nat} (ho : o = 79 ∨ o = 83 ∨ o = 87) (hj : j < 3) : mm_R0 o j = some (o + 1 + j) ∧ KD (o + 1 + j) = some (.inl (.int, 1000)) := by
  rcases ho with rfl | rfl | rfl <;> match j, hj with
  | 0, _ => exact ⟨rfl, rfl⟩
  | 1, _ => exact ⟨rfl, rfl⟩
  | 2, _ => exact ⟨rfl, rfl⟩
section V0Rows
variable {E : mm_Env} {d : Nat} {q : mm_Y} {pc pc' : Nat} {ls : List (Option mm_PV)} {st : List mm_PV} {τ : mm_Mem} {Q : mm_Q0}
theorem u_iconst {n : Int} (hd : decode q.2.1 pc = .ok (.iconst n, 1)) (hp : pc + 1 = pc') (k : V0 E d q pc' ls (vI n :: st) τ Q) : V0 E d q pc ls (st) τ Q := vv_iconst hd hp k
theorem u_bipush {n : Int} (hd : decode q.2.1 pc = .ok (.bipush n, 2)) (hp : pc + 2 = pc') (hv : (Int8.ofInt n).toInt32 = Int32.ofInt n) (k : V0 E d q pc' ls (vI n :: st) τ Q) : V0 E d q pc ls (st) τ Q := vv_bipush hd hp hv k
theorem u_sipush {n : Int} (hd : decode q.2.1 pc = .ok (.sipush n, 3)) (hp : pc + 3 = pc') (hv : (Int16.ofInt n).toInt32 = Int32.ofInt n) (k : V0 E d q pc' ls (vI n :: st) τ Q) : V0 E d q pc ls (st) τ Q := vv_sipush hd hp hv k
theorem u_lconst {n : Fin 2} {z : Int} (hd : decode q.2.1 pc = .ok (.lconst n, 1)) (hp : pc + 1 = pc') (hv : Int64.ofNat (n : Nat) = Int64.ofInt z) (k : V0 E d q pc' ls (vL z :: st) τ Q) : V0 E d q pc ls (st) τ Q := vv_lconst hd hp hv k
theorem u_ldc {i : Nat} {z : Int} {v : Int32} (hd : decode q.2.1 pc = .ok (.ldc i, 2)) (hp : pc + 2 = pc') (hw : Cond.constant q.1.cls i v ∈ mm_T) (hv : v = Int32.ofInt z) (k : V0 E d q pc' ls (vI z :: st) τ Q) : V0 E d q pc ls (st) τ Q := vv_ldc hd hp hw hv k
theorem u_ldcw {i : Nat} {z : Int} {v : Int32} (hd : decode q.2.1 pc = .ok (.ldc_w i, 3)) (hp : pc + 3 = pc') (hw : Cond.constant q.1.cls i v ∈ mm_T) (hv : v = Int32.ofInt z) (k : V0 E d q pc' ls (vI z :: st) τ Q) : V0 E d q pc ls (st) τ Q := vv_ldcw hd hp hw hv k
theorem u_ldc2 {i : Nat} {z : Int} {v : Int64} (hd : decode q.2.1 pc = .ok (.ldc2_w i, 3)) (hp : pc + 3 = pc') (hw : Cond.constantLong q.1.cls i v ∈ mm_T) (hv : v = Int64.ofInt z) (k : V0 E d q pc' ls (vL z :: st) τ Q) : V0 E d q pc ls (st) τ Q := vv_ldc2 hd hp hw hv k
theorem u_null  (hd : decode q.2.1 pc = .ok (.aconst_null, 1)) (hp : pc + 1 = pc') (k : V0 E d q pc' ls (vR 0 :: st) τ Q) : V0 E d q pc ls (st) τ Q := vv_null hd hp k
theorem u_iload_n {k9 : Fin 4} {i : Nat} {z : Int} (hd : decode q.2.1 pc = .ok (.iload_n k9, 1)) (hp : pc + 1 = pc') (hi : (k9 : Nat) = i) (hl : ls[i]? = some (some (vI z))) (k : V0 E d q pc' ls (vI z :: st) τ Q) : V0 E d q pc ls (st) τ Q := vv_iload_n hd hp hi hl k
theorem u_iload {i : Nat} {z : Int} (hd : decode q.2.1 pc = .ok (.iload i, 2)) (hp : pc + 2 = pc') (hl : ls[i]? = some (some (vI z))) (k : V0 E d q pc' ls (vI z :: st) τ Q) : V0 E d q pc ls (st) τ Q := vv_iload hd hp hl k
theorem u_lload_n {k9 : Fin 4} {i : Nat} {z : Int} (hd : decode q.2.1 pc = .ok (.lload_n k9, 1)) (hp : pc + 1 = pc') (hi : (k9 : Nat) = i) (hl : ls[i]? = some (some (vL z))) (k : V0 E d q pc' ls (vL z :: st) τ Q) : V0 E d q pc ls (st) τ Q := vv_lload_n hd hp hi hl k
theorem u_lload {i : Nat} {z : Int} (hd : decode q.2.1 pc = .ok (.lload i, 2)) (hp : pc + 2 = pc') (hl : ls[i]? = some (some (vL z))) (k : V0 E d q pc' ls (vL z :: st) τ Q) : V0 E d q pc ls (st) τ Q := vv_lload hd hp hl k
theorem u_aload_n {k9 : Fin 4} {i : Nat} {o : Nat} (hd : decode q.2.1 pc = .ok (.aload_n k9, 1)) (hp : pc + 1 = pc') (hi : (k9 : Nat) = i) (hl : ls[i]? = some (some (vR o))) (k : V0 E d q pc' ls (vR o :: st) τ Q) : V0 E d q pc ls (st) τ Q := vv_aload_n hd hp hi hl k
theorem u_aload {i : Nat} {o : Nat} (hd : decode q.2.1 pc = .ok (.aload i, 2)) (hp : pc + 2 = pc') (hl : ls[i]? = some (some (vR o))) (k : V0 E d q pc' ls (vR o :: st) τ Q) : V0 E d q pc ls (st) τ Q := vv_aload hd hp hl k
theorem u_istore_n {k9 : Fin 4} {i : Nat} {z : Int} (hd : decode q.2.1 pc = .ok (.istore_n k9, 1)) (hp : pc + 1 = pc') (hi : (k9 : Nat) = i) (hn : i < q.2.2.1) (ok : mm_ok ls i = true) (k : V0 E d q pc' (ls.set i (some (vI z))) (st) τ Q) : V0 E d q pc ls (vI z :: st) τ Q := vv_istore_n hd hp hi hn ok k
theorem u_istore {i : Nat} {z : Int} (hd : decode q.2.1 pc = .ok (.istore i, 2)) (hp : pc + 2 = pc') (hn : i < q.2.2.1) (ok : mm_ok ls i = true) (k : V0 E d q pc' (ls.set i (some (vI z))) (st) τ Q) : V0 E d q pc ls (vI z :: st) τ Q := vv_istore hd hp hn ok k
theorem u_astore_n {k9 : Fin 4} {i : Nat} {z : Nat} (hd : decode q.2.1 pc = .ok (.astore_n k9, 1)) (hp : pc + 1 = pc') (hi : (k9 : Nat) = i) (hn : i < q.2.2.1) (ok : mm_ok ls i = true) (k : V0 E d q pc' (ls.set i (some (vR z))) (st) τ Q) : V0 E d q pc ls (vR z :: st) τ Q := vv_astore_n hd hp hi hn ok k
theorem u_astore {i : Nat} {z : Nat} (hd : decode q.2.1 pc = .ok (.astore i, 2)) (hp : pc + 2 = pc') (hn : i < q.2.2.1) (ok : mm_ok ls i = true) (k : V0 E d q pc' (ls.set i (some (vR z))) (st) τ Q) : V0 E d q pc ls (vR z :: st) τ Q := vv_astore hd hp hn ok k
theorem u_lstore_n {k9 : Fin 4} {i : Nat} {z : Int} (hd : decode q.2.1 pc = .ok (.lstore_n k9, 1)) (hp : pc + 1 = pc') (hi : (k9 : Nat) = i) (hn : i + 1 < q.2.2.1) (ok : mm_ok ls i = true) (k : V0 E d q pc' ((ls.set i (some (vL z))).set (i + 1) none) (st) τ Q) : V0 E d q pc ls (vL z :: st) τ Q := vv_lstore_n hd hp hi hn ok k
theorem u_lstore {i : Nat} {z : Int} (hd : decode q.2.1 pc = .ok (.lstore i, 2)) (hp : pc + 2 = pc') (hn : i + 1 < q.2.2.1) (ok : mm_ok ls i = true) (k : V0 E d q pc' ((ls.set i (some (vL z))).set (i + 1) none) (st) τ Q) : V0 E d q pc ls (vL z :: st) τ Q := vv_lstore hd hp hn ok k
theorem u_iinc {i : Nat} {n z : Int} (hd : decode q.2.1 pc = .ok (.iinc i n, 3)) (hp : pc + 3 = pc') (hl : ls[i]? = some (some (vI z))) (hn : i < q.2.2.1) (ok : mm_ok ls i = true) (k : V0 E d q pc' (ls.set i (some (vI (z + n)))) (st) τ Q) : V0 E d q pc ls (st) τ Q := vv_iinc hd hp hl hn ok k
theorem u_iadd {a b : Int} (hd : decode q.2.1 pc = .ok (.iadd, 1)) (hp : pc + 1 = pc') (k : V0 E d q pc' ls (vI (a + b) :: st) τ Q) : V0 E d q pc ls (vI b :: vI a :: st) τ Q := vv_iadd hd hp k
theorem u_isub {a b : Int} (hd : decode q.2.1 pc = .ok (.isub, 1)) (hp : pc + 1 = pc') (k : V0 E d q pc' ls (vI (a - b) :: st) τ Q) : V0 E d q pc ls (vI b :: vI a :: st) τ Q := vv_isub hd hp k
theorem u_imul {a b : Int} (hd : decode q.2.1 pc = .ok (.imul, 1)) (hp : pc + 1 = pc') (k : V0 E d q pc' ls (vI (a * b) :: st) τ Q) : V0 E d q pc ls (vI b :: vI a :: st) τ Q := vv_imul hd hp k
theorem u_ladd {a b : Int} (hd : decode q.2.1 pc = .ok (.ladd, 1)) (hp : pc + 1 = pc') (k : V0 E d q pc' ls (vL (a + b) :: st) τ Q) : V0 E d q pc ls (vL b :: vL a :: st) τ Q := vv_ladd hd hp k
theorem u_lsub {a b : Int} (hd : decode q.2.1 pc = .ok (.lsub, 1)) (hp : pc + 1 = pc') (k : V0 E d q pc' ls (vL (a - b) :: st) τ Q) : V0 E d q pc ls (vL b :: vL a :: st) τ Q := vv_lsub hd hp k
theorem u_lmul {a b : Int} (hd : decode q.2.1 pc = .ok (.lmul, 1)) (hp : pc + 1 = pc') (k : V0 E d q pc' ls (vL (a * b) :: st) τ Q) : V0 E d q pc ls (vL b :: vL a :: st) τ Q := vv_lmul hd hp k
theorem u_iand {a b : Int} (hd : decode q.2.1 pc = .ok (.iand, 1)) (hp : pc + 1 = pc') (k : V0 E d q pc' ls (vI (mm_and a b) :: st) τ Q) : V0 E d q pc ls (vI b :: vI a :: st) τ Q := vv_iand hd hp k
theorem u_ior {a b : Int} (hd : decode q.2.1 pc = .ok (.ior, 1)) (hp : pc + 1 = pc') (k : V0 E d q pc' ls (vI (mm_or a b) :: st) τ Q) : V0 E d q pc ls (vI b :: vI a :: st) τ Q := vv_ior hd hp k
theorem u_ixor {a b : Int} (hd : decode q.2.1 pc = .ok (.ixor, 1)) (hp : pc + 1 = pc') (k : V0 E d q pc' ls (vI (mm_xor a b) :: st) τ Q) : V0 E d q pc ls (vI b :: vI a :: st) τ Q := vv_ixor hd hp k
theorem u_ishl {a b : Int} (hd : decode q.2.1 pc = .ok (.ishl, 1)) (hp : pc + 1 = pc') (k : V0 E d q pc' ls (vI (mm_shl a b) :: st) τ Q) : V0 E d q pc ls (vI b :: vI a :: st) τ Q := vv_ishl hd hp k
theorem u_ishr {a b : Int} (hd : decode q.2.1 pc = .ok (.ishr, 1)) (hp : pc + 1 = pc') (k : V0 E d q pc' ls (vI (mm_shr a b) :: st) τ Q) : V0 E d q pc ls (vI b :: vI a :: st) τ Q := vv_ishr hd hp k
theorem u_land {a b : Int} (hd : decode q.2.1 pc = .ok (.land, 1)) (hp : pc + 1 = pc') (k : V0 E d q pc' ls (vL (mm_land a b) :: st) τ Q) : V0 E d q pc ls (vL b :: vL a :: st) τ Q := vv_land hd hp k
theorem u_lor {a b : Int} (hd : decode q.2.1 pc = .ok (.lor, 1)) (hp : pc + 1 = pc') (k : V0 E d q pc' ls (vL (mm_lor a b) :: st) τ Q) : V0 E d q pc ls (vL b :: vL a :: st) τ Q := vv_lor hd hp k
theorem u_iushr {a b : Int} (hd : decode q.2.1 pc = .ok (.iushr, 1)) (hp : pc + 1 = pc') (k : V0 E d q pc' ls (vI (mm_ushr a b) :: st) τ Q) : V0 E d q pc ls (vI b :: vI a :: st) τ Q := vv_iushr hd hp k
theorem u_lushr {a b : Int} (hd : decode q.2.1 pc = .ok (.lushr, 1)) (hp : pc + 1 = pc') (k : V0 E d q pc' ls (vL (mm_lushr a b) :: st) τ Q) : V0 E d q pc ls (vI b :: vL a :: st) τ Q := vv_lushr hd hp k
theorem u_lshl {a b : Int} (hd : decode q.2.1 pc = .ok (.lshl, 1)) (hp : pc + 1 = pc') (k : V0 E d q pc' ls (vL (mm_lshl a b) :: st) τ Q) : V0 E d q pc ls (vI b :: vL a :: st) τ Q := vv_lshl hd hp k
theorem u_idiv {a b : Int} (hd : decode q.2.1 pc = .ok (.idiv, 1)) (hp : pc + 1 = pc') (ha : inR a) (hb : inR b) (hne : b ≠ 0) (k : V0 E d q pc' ls (vI (a.tdiv b) :: st) τ Q) : V0 E d q pc ls (vI b :: vI a :: st) τ Q := vv_idiv hd hp ha hb hne k
theorem u_irem {a b : Int} (hd : decode q.2.1 pc = .ok (.irem, 1)) (hp : pc + 1 = pc') (ha : inR a) (hb : inR b) (hne : b ≠ 0) (k : V0 E d q pc' ls (vI (a.tmod b) :: st) τ Q) : V0 E d q pc ls (vI b :: vI a :: st) τ Q := vv_irem hd hp ha hb hne k
theorem u_ldiv {a b : Int} (hd : decode q.2.1 pc = .ok (.ldiv, 1)) (hp : pc + 1 = pc') (ha : inL a) (hb : inL b) (hne : b ≠ 0) (k : V0 E d q pc' ls (vL (a.tdiv b) :: st) τ Q) : V0 E d q pc ls (vL b :: vL a :: st) τ Q := vv_ldiv hd hp ha hb hne k
theorem u_lrem {a b : Int} (hd : decode q.2.1 pc = .ok (.lrem, 1)) (hp : pc + 1 = pc') (ha : inL a) (hb : inL b) (hne : b ≠ 0) (k : V0 E d q pc' ls (vL (a.tmod b) :: st) τ Q) : V0 E d q pc ls (vL b :: vL a :: st) τ Q := vv_lrem hd hp ha hb hne k
theorem u_i2l {a : Int} (hd : decode q.2.1 pc = .ok (.i2l, 1)) (hp : pc + 1 = pc') (ha : inR a) (k : V0 E d q pc' ls (vL a :: st) τ Q) : V0 E d q pc ls (vI a :: st) τ Q := vv_i2l hd hp ha k
theorem u_l2i {a : Int} (hd : decode q.2.1 pc = .ok (.l2i, 1)) (hp : pc + 1 = pc') (ha : inL a) (k : V0 E d q pc' ls (vI a :: st) τ Q) : V0 E d q pc ls (vL a :: st) τ Q := vv_l2i hd hp ha k
theorem u_lcmp {a b : Int} (hd : decode q.2.1 pc = .ok (.lcmp, 1)) (hp : pc + 1 = pc') (ha : inL a) (hb : inL b) (k : V0 E d q pc' ls (vI (mm_cmp a b) :: st) τ Q) : V0 E d q pc ls (vL b :: vL a :: st) τ Q := vv_lcmp hd hp ha hb k
theorem u_dup {v : mm_PV} (hd : decode q.2.1 pc = .ok (.dup, 1)) (hp : pc + 1 = pc') (hv : ∀ z, v ≠ vL z) (k : V0 E d q pc' ls (v :: v :: st) τ Q) : V0 E d q pc ls (v :: st) τ Q := vv_dup hd hp hv k
theorem u_pop {v : mm_PV} (hd : decode q.2.1 pc = .ok (.pop, 1)) (hp : pc + 1 = pc') (hv : ∀ z, v ≠ vL z) (k : V0 E d q pc' ls (st) τ Q) : V0 E d q pc ls (v :: st) τ Q := vv_pop hd hp hv k
theorem u_dup2 {v w : mm_PV} (hd : decode q.2.1 pc = .ok (.dup2, 1)) (hp : pc + 1 = pc') (hv : ∀ z, v ≠ vL z) (hw : ∀ z, w ≠ vL z) (k : V0 E d q pc' ls (v :: w :: v :: w :: st) τ Q) : V0 E d q pc ls (v :: w :: st) τ Q := vv_dup2 hd hp hv hw k
theorem u_if_eq {a : Int} {off : Int} {tgt : Nat} (hd : decode q.2.1 pc = .ok (.ifCond .eq off, 3)) (hp : pc + 3 = pc') (ht : (pc : Int) + off = (tgt : Int)) (ha : inR a) (kt : a = 0 → V0 E d q tgt ls st τ Q) (kf : ¬ a = 0 → V0 E d q pc' ls st τ Q) : V0 E d q pc ls (vI a :: st) τ Q := vv_if_eq hd hp ht ha kt kf
theorem u_icmp_eq {a b : Int} {off : Int} {tgt : Nat} (hd : decode q.2.1 pc = .ok (.if_icmp .eq off, 3)) (hp : pc + 3 = pc') (ht : (pc : Int) + off = (tgt : Int)) (ha : inR a) (hb : inR b) (kt : a = b → V0 E d q tgt ls st τ Q) (kf : ¬ a = b → V0 E d q pc' ls st τ Q) : V0 E d q pc ls (vI b :: vI a :: st) τ Q := vv_icmp_eq hd hp ht ha hb kt kf
theorem u_if_ne {a : Int} {off : Int} {tgt : Nat} (hd : decode q.2.1 pc = .ok (.ifCond .ne off, 3)) (hp : pc + 3 = pc') (ht : (pc : Int) + off = (tgt : Int)) (ha : inR a) (kt : a ≠ 0 → V0 E d q tgt ls st τ Q) (kf : a = 0 → V0 E d q pc' ls st τ Q) : V0 E d q pc ls (vI a :: st) τ Q := vv_if_ne hd hp ht ha kt kf
theorem u_icmp_ne {a b : Int} {off : Int} {tgt : Nat} (hd : decode q.2.1 pc = .ok (.if_icmp .ne off, 3)) (hp : pc + 3 = pc') (ht : (pc : Int) + off = (tgt : Int)) (ha : inR a) (hb : inR b) (kt : a ≠ b → V0 E d q tgt ls st τ Q) (kf : a = b → V0 E d q pc' ls st τ Q) : V0 E d q pc ls (vI b :: vI a :: st) τ Q := vv_icmp_ne hd hp ht ha hb kt kf
theorem u_if_lt {a : Int} {off : Int} {tgt : Nat} (hd : decode q.2.1 pc = .ok (.ifCond .lt off, 3)) (hp : pc + 3 = pc') (ht : (pc : Int) + off = (tgt : Int)) (ha : inR a) (kt : a < 0 → V0 E d q tgt ls st τ Q) (kf : ¬ a < 0 → V0 E d q pc' ls st τ Q) : V0 E d q pc ls (vI a :: st) τ Q := vv_if_lt hd hp ht ha kt kf
theorem u_icmp_lt {a b : Int} {off : Int} {tgt : Nat} (hd : decode q.2.1 pc = .ok (.if_icmp .lt off, 3)) (hp : pc + 3 = pc') (ht : (pc : Int) + off = (tgt : Int)) (ha : inR a) (hb : inR b) (kt : a < b → V0 E d q tgt ls st τ Q) (kf : ¬ a < b → V0 E d q pc' ls st τ Q) : V0 E d q pc ls (vI b :: vI a :: st) τ Q := vv_icmp_lt hd hp ht ha hb kt kf
theorem u_if_ge {a : Int} {off : Int} {tgt : Nat} (hd : decode q.2.1 pc = .ok (.ifCond .ge off, 3)) (hp : pc + 3 = pc') (ht : (pc : Int) + off = (tgt : Int)) (ha : inR a) (kt : 0 ≤ a → V0 E d q tgt ls st τ Q) (kf : ¬ 0 ≤ a → V0 E d q pc' ls st τ Q) : V0 E d q pc ls (vI a :: st) τ Q := vv_if_ge hd hp ht ha kt kf
theorem u_icmp_ge {a b : Int} {off : Int} {tgt : Nat} (hd : decode q.2.1 pc = .ok (.if_icmp .ge off, 3)) (hp : pc + 3 = pc') (ht : (pc : Int) + off = (tgt : Int)) (ha : inR a) (hb : inR b) (kt : b ≤ a → V0 E d q tgt ls st τ Q) (kf : ¬ b ≤ a → V0 E d q pc' ls st τ Q) : V0 E d q pc ls (vI b :: vI a :: st) τ Q := vv_icmp_ge hd hp ht ha hb kt kf
theorem u_if_gt {a : Int} {off : Int} {tgt : Nat} (hd : decode q.2.1 pc = .ok (.ifCond .gt off, 3)) (hp : pc + 3 = pc') (ht : (pc : Int) + off = (tgt : Int)) (ha : inR a) (kt : 0 < a → V0 E d q tgt ls st τ Q) (kf : ¬ 0 < a → V0 E d q pc' ls st τ Q) : V0 E d q pc ls (vI a :: st) τ Q := vv_if_gt hd hp ht ha kt kf
theorem u_icmp_gt {a b : Int} {off : Int} {tgt : Nat} (hd : decode q.2.1 pc = .ok (.if_icmp .gt off, 3)) (hp : pc + 3 = pc') (ht : (pc : Int) + off = (tgt : Int)) (ha : inR a) (hb : inR b) (kt : b < a → V0 E d q tgt ls st τ Q) (kf : ¬ b < a → V0 E d q pc' ls st τ Q) : V0 E d q pc ls (vI b :: vI a :: st) τ Q := vv_icmp_gt hd hp ht ha hb kt kf
theorem u_if_le {a : Int} {off : Int} {tgt : Nat} (hd : decode q.2.1 pc = .ok (.ifCond .le off, 3)) (hp : pc + 3 = pc') (ht : (pc : Int) + off = (tgt : Int)) (ha : inR a) (kt : a ≤ 0 → V0 E d q tgt ls st τ Q) (kf : ¬ a ≤ 0 → V0 E d q pc' ls st τ Q) : V0 E d q pc ls (vI a :: st) τ Q := vv_if_le hd hp ht ha kt kf
theorem u_icmp_le {a b : Int} {off : Int} {tgt : Nat} (hd : decode q.2.1 pc = .ok (.if_icmp .le off, 3)) (hp : pc + 3 = pc') (ht : (pc : Int) + off = (tgt : Int)) (ha : inR a) (hb : inR b) (kt : a ≤ b → V0 E d q tgt ls st τ Q) (kf : ¬ a ≤ b → V0 E d q pc' ls st τ Q) : V0 E d q pc ls (vI b :: vI a :: st) τ Q := vv_icmp_le hd hp ht ha hb kt kf
theorem u_goto {off : Int} {tgt : Nat} (hd : decode q.2.1 pc = .ok (.goto off, 3)) (ht : (pc : Int) + off = (tgt : Int)) (k : V0 E d q tgt ls st τ Q) : V0 E d q pc ls st τ Q := vv_goto hd ht k
theorem u_ifnull {o : Nat} {off : Int} {tgt : Nat} (hd : decode q.2.1 pc = .ok (.ifnull off, 3)) (hp : pc + 3 = pc') (ht : (pc : Int) + off = (tgt : Int)) (kt : o = 0 → V0 E d q tgt ls st τ Q) (kf : ¬ o = 0 → V0 E d q pc' ls st τ Q) : V0 E d q pc ls (vR o :: st) τ Q := vv_ifnull hd hp ht kt kf
theorem u_ifnonnull {o : Nat} {off : Int} {tgt : Nat} (hd : decode q.2.1 pc = .ok (.ifnonnull off, 3)) (hp : pc + 3 = pc') (ht : (pc : Int) + off = (tgt : Int)) (kt : ¬ o = 0 → V0 E d q tgt ls st τ Q) (kf : o = 0 → V0 E d q pc' ls st τ Q) : V0 E d q pc ls (vR o :: st) τ Q := vv_ifnonnull hd hp ht kt kf
theorem u_tableswitch {dflt lo hi : Int} {offs : Array Int} {len : Nat} {a : Int} {dt : Nat} (hd : decode q.2.1 pc = .ok (.tableswitch dflt lo hi offs, len)) (ha : inR a) (hdt : (pc : Int) + dflt = (dt : Int)) (ko : a < lo ∨ hi < a → V0 E d q dt ls st τ Q) (ki : lo ≤ a → a ≤ hi → ∃ (off : Int) (tgt : Nat), offs[(a - lo).toNat]? = some off ∧ (pc : Int) + off = (tgt : Int) ∧ V0 E d q tgt ls st τ Q) : V0 E d q pc ls (vI a :: st) τ Q := vv_tableswitch hd ha hdt ko ki
theorem u_lookup {dflt : Int} {ps : Array (Int × Int)} {len : Nat} {a : Int} {off : Int} {tgt : Nat} (hd : decode q.2.1 pc = .ok (.lookupswitch dflt ps, len)) (ha : inR a) (hp : (ps.toList.zip (ps.toList.drop 1)).all (fun (a, next) => a.1 < next.1) = true) (ho : Op.lookupswitch.offset ps.toList dflt a = off) (ht : (pc : Int) + off = (tgt : Int)) (k : V0 E d q tgt ls st τ Q) : V0 E d q pc ls (vI a :: st) τ Q := vv_lookup hd ha hp ho ht k
theorem u_less {ls' : List (Option mm_PV)} (h : mm_le ls' ls) (k : V0 E d q pc ls' st τ Q) : V0 E d q pc ls st τ Q := vv_less h k
theorem u_ret  (hd : decode q.2.1 pc = .ok (.return_, 1)) (hr : q.2.2.2 = none) (k : Q (none) τ) : V0 E d q pc ls ([]) τ Q := vv_ret hd hr (Nat.le_refl _) (Nat.le_refl _) ⟨rfl, τ, rfl, k⟩
theorem u_iret {z : Int} (hd : decode q.2.1 pc = .ok (.ireturn, 1)) (hr : q.2.2.2 = some .int) (k : Q (some (vI z)) τ) : V0 E d q pc ls ([vI z]) τ Q := vv_iret hd hr (Nat.le_refl _) (Nat.le_refl _) ⟨rfl, τ, rfl, k⟩
theorem u_lret {z : Int} (hd : decode q.2.1 pc = .ok (.lreturn, 1)) (hr : q.2.2.2 = some .long) (k : Q (some (vL z)) τ) : V0 E d q pc ls ([vL z]) τ Q := vv_lret hd hr (Nat.le_refl _) (Nat.le_refl _) ⟨rfl, τ, rfl, k⟩
theorem u_aret {C : String} {o : Nat} (hd : decode q.2.1 pc = .ok (.areturn, 1)) (hr : q.2.2.2 = some (.object C)) (k : Q (some (vR o)) τ) : V0 E d q pc ls ([vR o]) τ Q := vv_aret hd hr (Nat.le_refl _) (Nat.le_refl _) ⟨rfl, τ, rfl, k⟩
theorem u_zret {b : Bool} {z : Int} (hd : decode q.2.1 pc = .ok (.ireturn, 1)) (hr : q.2.2.2 = some .boolean) (hz : z = bI b) (k : Q (some (vB b)) τ) : V0 E d q pc ls ([vI z]) τ Q := by
  subst hz
  exact vv_zret hd hr (bI_01 b) (Nat.le_refl _) (Nat.le_refl _) ⟨rfl, τ, rfl, k⟩
theorem u_getI {o c k i : Nat} {z : Int} (hd : decode q.2.1 pc = .ok (.getfield i, 3)) (hp : pc + 3 = pc') (hf : mm_FL q.1.cls i c k) (hty : mm_isI (mm_ty c k) = true) (hk9 : k < mm_N c) (ho : 2 ≤ o) (hs : KD o = some (.inr c)) (hz : τ o k = z) (kk : inR z → V0 E d q pc' ls (vI z :: st) τ Q) : V0 E d q pc ls (vR o :: st) τ Q := by
  have e : fm τ o k = z := by rw [← hz]; exact fm_none (mm_R0_I hs (by simp [mm_slotI, hty, hk9]))
  exact vv_getI hd hp hf hty ho (KD_SH _ ho hs) (fun h => by rw [e] at h ⊢; exact kk h)
theorem u_getL {o c k i : Nat} {z : Int} (hd : decode q.2.1 pc = .ok (.getfield i, 3)) (hp : pc + 3 = pc') (hf : mm_FL q.1.cls i c k) (hty : mm_ty c k = .long) (hr : mm_R0 o k = none) (ho : 2 ≤ o) (hs : KD o = some (.inr c)) (hz : τ o k = z) (kk : V0 E d q pc' ls (vL z :: st) τ Q) : V0 E d q pc ls (vR o :: st) τ Q := by
  have e : fm τ o k = z := by rw [← hz]; exact fm_none hr
  exact vv_getL hd hp hf hty ho (KD_SH _ ho hs) (by rw [e]; exact kk)
theorem u_getR {o c k i a : Nat} (hd : decode q.2.1 pc = .ok (.getfield i, 3)) (hp : pc + 3 = pc') (hf : mm_FL q.1.cls i c k) (hty : mm_isR (mm_ty c k) = true) (ho : 2 ≤ o) (hs : KD o = some (.inr c)) (hr : mm_R0 o k = some a) (kk : V0 E d q pc' ls (vR a :: st) τ Q) : V0 E d q pc ls (vR o :: st) τ Q := by
  have e : (fm τ o k).toNat = a := by rw [fm_some hr]; simp
  exact vv_getR hd hp hf hty ho (KD_SH _ ho hs) (by rw [e]; exact kk)
theorem u_getD {o c k i a : Nat} (hd : decode q.2.1 pc = .ok (.getfield i, 3)) (hp : pc + 3 = pc') (hf : mm_FL q.1.cls i c k) (hty : mm_isR (mm_ty c k) = true) (ho : 2 ≤ o) (hs : KD o = some (.inr c)) (hr : mm_R0 o k = none) (hz : τ o k = (a : Int)) (kk : V0 E d q pc' ls (vR a :: st) τ Q) : V0 E d q pc ls (vR o :: st) τ Q := by
  have e : (fm τ o k).toNat = a := by rw [fm_none hr, hz]; simp
  exact vv_getR hd hp hf hty ho (KD_SH _ ho hs) (by rw [e]; exact kk)
theorem u_putI {o c k i : Nat} {z : Int} (hd : decode q.2.1 pc = .ok (.putfield i, 3)) (hp : pc + 3 = pc') (hf : mm_FL q.1.cls i c k) (hfin : mm_fin c k = false) (hty : mm_ty c k = .int) (hk9 : k < mm_N c) (ho : 2 ≤ o) (hs : KD o = some (.inr c)) (hz : inR z) (kk : V0 E d q pc' ls st (wr τ o k z) Q) : V0 E d q pc ls (vI z :: vR o :: st) τ Q :=
  vv_putI hd hp hf hfin hty ho (KD_SH _ ho hs) hz (by rw [fm_wr (mm_R0_I hs (by simp [mm_slotI, hty, mm_isI, hk9]))]; exact kk)
theorem u_putZ {o c k i : Nat} {b : Bool} {z : Int} (hd : decode q.2.1 pc = .ok (.putfield i, 3)) (hp : pc + 3 = pc') (hf : mm_FL q.1.cls i c k) (hfin : mm_fin c k = false) (hty : mm_ty c k = .boolean) (hk9 : k < mm_N c) (ho : 2 ≤ o) (hs : KD o = some (.inr c)) (hz : z = bI b) (kk : V0 E d q pc' ls st (wr τ o k z) Q) : V0 E d q pc ls (vI z :: vR o :: st) τ Q :=
  vv_putZ hd hp hf hfin hty ho (KD_SH _ ho hs) (by rw [hz]; exact bI_01 b) (by rw [fm_wr (mm_R0_I hs (by simp [mm_slotI, hty, mm_isI, hk9]))]; exact kk)
theorem u_putL {o c k i : Nat} {z : Int} (hd : decode q.2.1 pc = .ok (.putfield i, 3)) (hp : pc + 3 = pc') (hf : mm_FL q.1.cls i c k) (hfin : mm_fin c k = false) (hty : mm_ty c k = .long) (hr : mm_R0 o k = none) (ho : 2 ≤ o) (hs : KD o = some (.inr c)) (kk : V0 E d q pc' ls st (wr τ o k z) Q) : V0 E d q pc ls (vL z :: vR o :: st) τ Q :=
  vv_putL hd hp hf hfin hty ho (KD_SH _ ho hs) (by rw [fm_wr hr]; exact kk)
theorem u_putR {o c k i r : Nat} (hd : decode q.2.1 pc = .ok (.putfield i, 3)) (hp : pc + 3 = pc') (hf : mm_FL q.1.cls i c k) (hfin : mm_fin c k = false) (hty : mm_isR (mm_ty c k) = true) (hr : mm_R0 o k = none) (ho : 2 ≤ o) (hs : KD o = some (.inr c)) (kk : V0 E d q pc' ls st (wr τ o k (r : Int)) Q) : V0 E d q pc ls (vR r :: vR o :: st) τ Q :=
  vv_putR hd hp hf hfin hty ho (KD_SH _ ho hs) (by rw [fm_wr hr]; exact kk)
theorem u_iaload {o n k : Nat} {j z : Int} (hd : decode q.2.1 pc = .ok (.iaload, 1)) (hp : pc + 1 = pc') (ho : 2 ≤ o) (hs : KD o = some (.inl (.int, n))) (hj : 0 ≤ j) (hj2 : j < n) (hn : n ≤ 2147483647) (hk : j.toNat = k) (hz : τ o k = z) (kk : inR z → V0 E d q pc' ls (vI z :: st) τ Q) : V0 E d q pc ls (vI j :: vR o :: st) τ Q := by
  subst hk
  have e : fm τ o j.toNat = z := by rw [← hz]; exact fm_none (mm_R0_I hs (by simp [mm_slotI, mm_isI]; omega))
  exact vv_iaload hd hp ho (KD_SH _ ho hs) hj hj2 hn (fun h => by rw [e] at h ⊢; exact kk h)
theorem u_baload {o n k : Nat} {j z : Int} (hd : decode q.2.1 pc = .ok (.baload, 1)) (hp : pc + 1 = pc') (ho : 2 ≤ o) (hs : KD o = some (.inl (.boolean, n))) (hj : 0 ≤ j) (hj2 : j < n) (hn : n ≤ 2147483647) (hk : j.toNat = k) (hz : τ o k = z) (kk : inR z → V0 E d q pc' ls (vI z :: st) τ Q) : V0 E d q pc ls (vI j :: vR o :: st) τ Q := by
  subst hk
  have e : fm τ o j.toNat = z := by rw [← hz]; exact fm_none (mm_R0_I hs (by simp [mm_slotI, mm_isI]; omega))
  exact vv_baload hd hp ho (KD_SH _ ho hs) hj hj2 hn (fun h => by rw [e] at h ⊢; exact kk h)
theorem u_laload {o n k : Nat} {j z : Int} (hd : decode q.2.1 pc = .ok (.laload, 1)) (hp : pc + 1 = pc') (ho : 2 ≤ o) (hs : KD o = some (.inl (.long, n))) (hj : 0 ≤ j) (hj2 : j < n) (hn : n ≤ 2147483647) (hk : j.toNat = k) (hr : mm_R0 o k = none) (hz : τ o k = z) (kk : V0 E d q pc' ls (vL z :: st) τ Q) : V0 E d q pc ls (vI j :: vR o :: st) τ Q := by
  subst hk
  have e : fm τ o j.toNat = z := by rw [← hz]; exact fm_none hr
  exact vv_laload hd hp ho (KD_SH _ ho hs) hj hj2 hn (by rw [e]; exact kk)
theorem u_iastore {o n k : Nat} {j z : Int} (hd : decode q.2.1 pc = .ok (.iastore, 1)) (hp : pc + 1 = pc') (ho : 2 ≤ o) (hs : KD o = some (.inl (.int, n))) (hj : 0 ≤ j) (hj2 : j < n) (hn : n ≤ 2147483647) (hk : j.toNat = k) (hz : inR z) (kk : V0 E d q pc' ls st (wr τ o k z) Q) : V0 E d q pc ls (vI z :: vI j :: vR o :: st) τ Q := by
  subst hk
  exact vv_iastore hd hp ho (KD_SH _ ho hs) hj hj2 hn hz (by rw [fm_wr (mm_R0_I hs (by simp [mm_slotI, mm_isI]; omega))]; exact kk)
theorem u_bastore {o n k : Nat} {b : Bool} {j z : Int} (hd : decode q.2.1 pc = .ok (.bastore, 1)) (hp : pc + 1 = pc') (ho : 2 ≤ o) (hs : KD o = some (.inl (.boolean, n))) (hj : 0 ≤ j) (hj2 : j < n) (hn : n ≤ 2147483647) (hk : j.toNat = k) (hz : z = bI b) (kk : V0 E d q pc' ls st (wr τ o k z) Q) : V0 E d q pc ls (vI z :: vI j :: vR o :: st) τ Q := by
  subst hk
  exact vv_bastore hd hp ho (KD_SH _ ho hs) hj hj2 hn (by rw [hz]; exact bI_01 b) (by rw [fm_wr (mm_R0_I hs (by simp [mm_slotI, mm_isI]; omega))]; exact kk)
theorem u_lastore {o n k : Nat} {j z : Int} (hd : decode q.2.1 pc = .ok (.lastore, 1)) (hp : pc + 1 = pc') (ho : 2 ≤ o) (hs : KD o = some (.inl (.long, n))) (hj : 0 ≤ j) (hj2 : j < n) (hn : n ≤ 2147483647) (hk : j.toNat = k) (hr : mm_R0 o k = none) (kk : V0 E d q pc' ls st (wr τ o k z) Q) : V0 E d q pc ls (vL z :: vI j :: vR o :: st) τ Q := by
  subst hk
  exact vv_lastore hd hp ho (KD_SH _ ho hs) hj hj2 hn (by rw [fm_wr hr]; exact kk)
theorem u_aaload_D {o n a k : Nat} {j : Int} (hd : decode q.2.1 pc = .ok (.aaload, 1)) (hp : pc + 1 = pc') (ho : 2 ≤ o) (hs : KD o = some (.inl (.object "TuneDoor$Door", n))) (hj : 0 ≤ j) (hj2 : j < n) (hn : n ≤ 2147483647) (hk : j.toNat = k) (hr : mm_R0 o k = some a) (kk : V0 E d q pc' ls (vR a :: st) τ Q) : V0 E d q pc ls (vI j :: vR o :: st) τ Q := by
  subst hk
  have e : (fm τ o j.toNat).toNat = a := by rw [fm_some hr]; simp
  exact vv_aaload_D hd hp ho (KD_SH _ ho hs) hj hj2 hn (by rw [e]; exact kk)
theorem u_aaload_P {o n a k : Nat} {j : Int} (hd : decode q.2.1 pc = .ok (.aaload, 1)) (hp : pc + 1 = pc') (ho : 2 ≤ o) (hs : KD o = some (.inl (.object "TuneDoor$Person", n))) (hj : 0 ≤ j) (hj2 : j < n) (hn : n ≤ 2147483647) (hk : j.toNat = k) (hr : mm_R0 o k = some a) (kk : V0 E d q pc' ls (vR a :: st) τ Q) : V0 E d q pc ls (vI j :: vR o :: st) τ Q := by
  subst hk
  have e : (fm τ o j.toNat).toNat = a := by rw [fm_some hr]; simp
  exact vv_aaload_P hd hp ho (KD_SH _ ho hs) hj hj2 hn (by rw [e]; exact kk)
theorem u_aaload_A {o n a k : Nat} {j : Int} (hd : decode q.2.1 pc = .ok (.aaload, 1)) (hp : pc + 1 = pc') (ho : 2 ≤ o) (hs : KD o = some (.inl (.array .int, n))) (hj : 0 ≤ j) (hj2 : j < n) (hn : n ≤ 2147483647) (hk : j.toNat = k) (hr : mm_R0 o k = some a) (kk : V0 E d q pc' ls (vR a :: st) τ Q) : V0 E d q pc ls (vI j :: vR o :: st) τ Q := by
  subst hk
  have e : (fm τ o j.toNat).toNat = a := by rw [fm_some hr]; simp
  exact vv_aaload_A hd hp ho (KD_SH _ ho hs) hj hj2 hn (by rw [e]; exact kk)
theorem u_alen {o n : Nat} {ty : FieldType} {t0 : Nat} (hd : decode q.2.1 pc = .ok (.arraylength, 1)) (hp : pc + 1 = pc') (ho : 2 ≤ o) (hs : KD o = some (.inl (ty, n))) (ht : ∀ E : mm_Env, (mm_tys E)[t0]? = some (E.2.1 ty, ty)) (kk : V0 E d q pc' ls (vI (n : Int) :: st) τ Q) : V0 E d q pc ls (vR o :: st) τ Q := vv_alen hd hp ho (KD_SH _ ho hs) ht kk
theorem u_slen (hd : decode q.2.1 pc = .ok (.arraylength, 1)) (hp : pc + 1 = pc') (kk : V0 E d q pc' ls (vI (E.2.2.2.2 : Int) :: st) τ Q) : V0 E d q pc ls (vR 1 :: st) τ Q := vv_slen hd hp kk
theorem u_sld {j : Int} (hd : decode q.2.1 pc = .ok (.iaload, 1)) (hp : pc + 1 = pc') (hj : 0 ≤ j) (hj2 : j < E.2.2.2.2) (hn : E.2.2.2.2 ≤ 2147483647) (kk : V0 E d q pc' ls (vI (τ 1 j.toNat) :: st) τ Q) : V0 E d q pc ls (vI j :: vR 1 :: st) τ Q := by
  have e : fm τ 1 j.toNat = τ 1 j.toNat := fm_none rfl
  exact vv_sld hd hp hj hj2 hn (by rw [e]; exact kk)
end V0Rows
section V0Calls
variable {E : mm_Env} {d : Nat} {q : mm_Y} {pc pc' : Nat} {ls : List (Option mm_PV)} {st : List mm_PV} {τ : mm_Mem} {Q : mm_Q0}
theorem mm_qq {q' : mm_Y} {As : List mm_PV} (kk : M0 E d q' As τ (fun v τ' => V0 E (d + 1) q pc' ls (v.toList ++ st) τ' Q)) : vm E d 0 0 q' As (mm_SH E.2.2.2.2) (fm τ) (fun v Sh' σ' => vv E (mm_rm (d + 1) 0 0) q 0 0 (0 + 0) (0 + 0) Sh' pc' ls (v.toList ++ st) σ' (mm_QQ E Q)) := by
  refine vm.mono kk ?_
  rintro v Sh' σ' ⟨rfl, τ', rfl, h⟩
  exact h
theorem u_invV {i : Nat} {q' : mm_Y} {As st0 : List mm_PV} {o c : Nat} {C : String} {T : u_T} {N : Nat} (hd : decode q.2.1 pc = .ok (.invokevirtual i, 3)) (hp : pc + 3 = pc') (hg : mm_good q' As.length) (hl : Cond.methodLink q.1.cls i q'.1 ∈ mm_T) (hc : vwCl[c]? = some (C, T, N)) (hcl : q'.1.cls = C) (ho : 2 ≤ o) (hs : KD o = some (.inr c)) (hin : Cond.instanceMethod q'.1 ∈ mm_T) (hse : Cond.selects q'.1.cls q'.1 q'.1 ∈ mm_T) (hs0 : st0 = As.reverse ++ vR o :: st) (hrm : (st.map mm_cw).sum ≤ 8) (kk : M0 E d q' (vR o :: As) τ (fun v τ' => V0 E (d + 1) q pc' ls (v.toList ++ st) τ' Q)) : V0 E (d + 1) q pc ls st0 τ Q :=
  vv_invV hd hp hg hl hc hcl ho (KD_SH _ ho hs) hin hse hs0 (Nat.le_refl _) (Nat.le_refl _) (Nat.le_refl _) (Nat.le_refl _) hrm (mm_qq kk)
theorem u_invVN {i : Nat} {q' : mm_Y} {As st0 : List mm_PV} {o c : Nat} {C : String} {T : u_T} {N : Nat} {host : String} (hd : decode q.2.1 pc = .ok (.invokevirtual i, 3)) (hp : pc + 3 = pc') (hg : mm_good q' As.length) (hl : Cond.methodLinkNest q.1.cls i q'.1 host ∈ mm_T) (hc : vwCl[c]? = some (C, T, N)) (hcl : q'.1.cls = C) (ho : 2 ≤ o) (hs : KD o = some (.inr c)) (hin : Cond.instanceMethod q'.1 ∈ mm_T) (hse : Cond.selects q'.1.cls q'.1 q'.1 ∈ mm_T) (hs0 : st0 = As.reverse ++ vR o :: st) (hrm : (st.map mm_cw).sum ≤ 8) (kk : M0 E d q' (vR o :: As) τ (fun v τ' => V0 E (d + 1) q pc' ls (v.toList ++ st) τ' Q)) : V0 E (d + 1) q pc ls st0 τ Q :=
  vv_invVN hd hp hg hl hc hcl ho (KD_SH _ ho hs) hin hse hs0 (Nat.le_refl _) (Nat.le_refl _) (Nat.le_refl _) (Nat.le_refl _) hrm (mm_qq kk)
theorem u_invS {i : Nat} {q' : mm_Y} {As st0 : List mm_PV} (hd : decode q.2.1 pc = .ok (.invokestatic i, 3)) (hp : pc + 3 = pc') (hg : mm_good q' As.length) (hl : Cond.methodLink q.1.cls i q'.1 ∈ mm_T) (hstt : Cond.static q'.1 ∈ mm_T) (hs0 : st0 = As.reverse ++ st) (hrm : (st.map mm_cw).sum ≤ 8) (kk : M0 E d q' (As) τ (fun v τ' => V0 E (d + 1) q pc' ls (v.toList ++ st) τ' Q)) : V0 E (d + 1) q pc ls st0 τ Q :=
  vv_invS hd hp hg hl hstt hs0 (Nat.le_refl _) (Nat.le_refl _) (Nat.le_refl _) (Nat.le_refl _) hrm (mm_qq kk)
theorem u_invSN {i : Nat} {q' : mm_Y} {As st0 : List mm_PV} {host : String} (hd : decode q.2.1 pc = .ok (.invokestatic i, 3)) (hp : pc + 3 = pc') (hg : mm_good q' As.length) (hl : Cond.methodLinkNest q.1.cls i q'.1 host ∈ mm_T) (hstt : Cond.static q'.1 ∈ mm_T) (hs0 : st0 = As.reverse ++ st) (hrm : (st.map mm_cw).sum ≤ 8) (kk : M0 E d q' (As) τ (fun v τ' => V0 E (d + 1) q pc' ls (v.toList ++ st) τ' Q)) : V0 E (d + 1) q pc ls st0 τ Q :=
  vv_invSN hd hp hg hl hstt hs0 (Nat.le_refl _) (Nat.le_refl _) (Nat.le_refl _) (Nat.le_refl _) hrm (mm_qq kk)
theorem s_istore_n {k9 : Fin 4} {i : Nat} {z : Int} {ls' : List (Option mm_PV)} (hd : decode q.2.1 pc = .ok (.istore_n k9, 1)) (hp : pc + 1 = pc') (hi : (k9 : Nat) = i) (hn : i < q.2.2.1) (ok : mm_ok ls i = true) (hls : ls.set i (some (vI z)) = ls') (k : V0 E d q pc' ls' st τ Q) : V0 E d q pc ls (vI z :: st) τ Q := u_istore_n hd hp hi hn ok (hls ▸ k)
theorem s_istore {i : Nat} {z : Int} {ls' : List (Option mm_PV)} (hd : decode q.2.1 pc = .ok (.istore i, 2)) (hp : pc + 2 = pc') (hn : i < q.2.2.1) (ok : mm_ok ls i = true) (hls : ls.set i (some (vI z)) = ls') (k : V0 E d q pc' ls' st τ Q) : V0 E d q pc ls (vI z :: st) τ Q := u_istore hd hp hn ok (hls ▸ k)
theorem s_astore_n {k9 : Fin 4} {i : Nat} {z : Nat} {ls' : List (Option mm_PV)} (hd : decode q.2.1 pc = .ok (.astore_n k9, 1)) (hp : pc + 1 = pc') (hi : (k9 : Nat) = i) (hn : i < q.2.2.1) (ok : mm_ok ls i = true) (hls : ls.set i (some (vR z)) = ls') (k : V0 E d q pc' ls' st τ Q) : V0 E d q pc ls (vR z :: st) τ Q := u_astore_n hd hp hi hn ok (hls ▸ k)
theorem s_astore {i : Nat} {z : Nat} {ls' : List (Option mm_PV)} (hd : decode q.2.1 pc = .ok (.astore i, 2)) (hp : pc + 2 = pc') (hn : i < q.2.2.1) (ok : mm_ok ls i = true) (hls : ls.set i (some (vR z)) = ls') (k : V0 E d q pc' ls' st τ Q) : V0 E d q pc ls (vR z :: st) τ Q := u_astore hd hp hn ok (hls ▸ k)
theorem s_lstore_n {k9 : Fin 4} {i : Nat} {z : Int} {ls' : List (Option mm_PV)} (hd : decode q.2.1 pc = .ok (.lstore_n k9, 1)) (hp : pc + 1 = pc') (hi : (k9 : Nat) = i) (hn : i + 1 < q.2.2.1) (ok : mm_ok ls i = true) (hls : (ls.set i (some (vL z))).set (i + 1) none = ls') (k : V0 E d q pc' ls' st τ Q) : V0 E d q pc ls (vL z :: st) τ Q := u_lstore_n hd hp hi hn ok (hls ▸ k)
theorem s_lstore {i : Nat} {z : Int} {ls' : List (Option mm_PV)} (hd : decode q.2.1 pc = .ok (.lstore i, 2)) (hp : pc + 2 = pc') (hn : i + 1 < q.2.2.1) (ok : mm_ok ls i = true) (hls : (ls.set i (some (vL z))).set (i + 1) none = ls') (k : V0 E d q pc' ls' st τ Q) : V0 E d q pc ls (vL z :: st) τ Q := u_lstore hd hp hn ok (hls ▸ k)
theorem s_iinc {i : Nat} {n z : Int} {ls' : List (Option mm_PV)} (hd : decode q.2.1 pc = .ok (.iinc i n, 3)) (hp : pc + 3 = pc') (hl : ls[i]? = some (some (vI z))) (hn : i < q.2.2.1) (ok : mm_ok ls i = true) (hls : ls.set i (some (vI (z + n))) = ls') (k : V0 E d q pc' ls' st τ Q) : V0 E d q pc ls st τ Q := u_iinc hd hp hl hn ok (hls ▸ k)
theorem mm_cmp_R (a b : Int) : inR (mm_cmp a b) := by
  unfold mm_cmp
  split
  · exact ⟨by decide, by decide⟩
  · split
    · exact ⟨by decide, by decide⟩
    · exact ⟨by decide, by decide⟩
theorem mm_cmp_0 {a b : Int} : mm_cmp a b = 0 ↔ a = b := by
  unfold mm_cmp
  split
  · constructor <;> intro h <;> omega
  · split <;> constructor <;> intro h <;> omega
theorem mm_cmp_lt {a b : Int} : mm_cmp a b < 0 ↔ a < b := by
  unfold mm_cmp
  split
  · constructor <;> intro h <;> omega
  · split <;> constructor <;> intro h <;> omega
theorem mm_cmp_gt {a b : Int} : 0 < mm_cmp a b ↔ b < a := by
  unfold mm_cmp
  split
  · constructor <;> intro h <;> omega
  · split <;> constructor <;> intro h <;> omega
theorem mm_cmp_le {a b : Int} : mm_cmp a b ≤ 0 ↔ a ≤ b := by
  unfold mm_cmp
  split
  · constructor <;> intro h <;> omega
  · split <;> constructor <;> intro h <;> omega
theorem mm_cmp_ge {a b : Int} : 0 ≤ mm_cmp a b ↔ b ≤ a := by
  unfold mm_cmp
  split
  · constructor <;> intro h <;> omega
  · split <;> constructor <;> intro h <;> omega
theorem mm_cmp_ne {a b : Int} : mm_cmp a b ≠ 0 ↔ a ≠ b := not_congr mm_cmp_0
theorem inL_R {a : Int} (h : inR a) : inL a := ⟨by have := h.1; omega, by have := h.2; omega⟩
theorem mm_R0_L : (List.range 194).all (fun o => match KD o with
  | some (.inl (.long, _)) => (mm_RT.getD o []).isEmpty
  | _ => true) = true := by decide +kernel
theorem mm_R0_La {o k n : Nat} (h : KD o = some (.inl (.long, n))) : mm_R0 o k = none := by
  have h1 := List.all_eq_true.mp mm_R0_L o (List.mem_range.mpr (KD_lt h))
  rw [h] at h1
  unfold mm_R0
  rw [List.isEmpty_iff.mp h1]
  rfl
end V0Calls
