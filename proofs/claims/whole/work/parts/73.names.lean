/-! names: letters of five bits, letters of eight; letter, the reference's door and person -/
theorem zl_of (a : Nat) : Int64.ofInt (a : Int) = Int64.ofNat a := Int64.ofInt_eq_ofNat
theorem zl_to {a : Nat} (h : a < 2 ^ 63) : (Int64.ofNat a).toInt = (a : Int) := Int64.toInt_ofNat_of_lt h
theorem zl_tn {n : Nat} (h : n < 2 ^ 64) : (Int64.ofNat n).toBitVec.toNat = n := Nat.mod_eq_of_lt h
theorem zl_land (a b : Nat) (ha : a < 2 ^ 63) : mm_land (a : Int) (b : Int) = ((a &&& b : Nat) : Int) := by
  unfold mm_land
  have e : Int64.ofNat a &&& Int64.ofNat b = Int64.ofNat (a &&& b) := by
    apply Int64.toBitVec_inj.1
    show BitVec.ofNat 64 a &&& BitVec.ofNat 64 b = BitVec.ofNat 64 (a &&& b)
    apply BitVec.eq_of_getLsbD_eq
    intro i hi
    simp [hi]
  rw [zl_of, zl_of, e, zl_to (Nat.lt_of_le_of_lt Nat.and_le_left ha)]
theorem zs_ul : ∀ n, n < 64 → (((nI n).toInt64.toUInt64 &&& Int64.toUInt64 63).toBitVec % 64).toNat = n := by decide +kernel
theorem zl_ushr {a k : Nat} (ha : a < 2 ^ 63) (hk : k < 64) : mm_lushr (a : Int) (k : Int) = ((a / 2 ^ k : Nat) : Int) := by
  unfold mm_lushr
  rw [zl_of, zi_of]
  have e : ((Int64.ofNat a).toUInt64 >>> ((nI k).toInt64.toUInt64 &&& Int64.toUInt64 63)).toInt64 = Int64.ofNat (a / 2 ^ k) := by
    apply Int64.toBitVec_inj.mp
    apply BitVec.eq_of_toNat_eq
    have e2 : ((Int64.ofNat a).toUInt64 >>> ((nI k).toInt64.toUInt64 &&& Int64.toUInt64 63)).toInt64.toBitVec = (Int64.ofNat a).toBitVec >>> k := by
      have := zs_ul k hk
      conv => rhs; rw [← this]
      exact UInt64.toBitVec_shiftRight _ _
    rw [e2, BitVec.toNat_ushiftRight, Nat.shiftRight_eq_div_pow, zl_tn (by omega), zl_tn (by have := Nat.div_le_self a (2 ^ k); omega)]
  rw [e, zl_to (by have := Nat.div_le_self a (2 ^ k); omega)]
/-- a name: one to six letters -/
def nmF (f : Nat → Nat) (n : Nat) : Prop := (1 ≤ n ∧ n ≤ 6) ∧ ∀ i, i < n → 97 ≤ f i ∧ f i ≤ 122
def pkN (m : Nat) (f : Nat → Nat) : Nat → Nat
  | 0 => 0
  | i + 1 => pkN m f i * m + f i
def nmW (w : Int) : Prop := ∃ n f, nmF f n ∧ w = (pkN 256 f n : Nat)
theorem pkN_lt {m : Nat} {f : Nat → Nat} (hm : 0 < m) : ∀ n, (∀ i, i < n → f i < m) → pkN m f n < m ^ n
  | 0, _ => by rw [pkN, Nat.pow_zero]; omega
  | n + 1, h => by
    have a := pkN_lt hm n (fun i hi => h i (by omega))
    have b := h n (by omega)
    have c : (pkN m f n + 1) * m ≤ m ^ n * m := Nat.mul_le_mul_right _ a
    rw [Nat.add_mul] at c
    rw [pkN, Nat.pow_succ]; omega
theorem pkN_div {m : Nat} {f : Nat → Nat} (hm : 0 < m) {n : Nat} : ∀ c, (∀ i, n ≤ i → i < n + c → f i < m) → pkN m f (n + c) / m ^ c = pkN m f n
  | 0, _ => by rw [Nat.pow_zero, Nat.div_one]; rfl
  | c + 1, h => by
    have a := pkN_div hm c (fun i h1 h2 => h i h1 (by omega))
    have b := h (n + c) (by omega) (by omega)
    have e : pkN m f (n + (c + 1)) = pkN m f (n + c) * m + f (n + c) := rfl
    rw [e, Nat.pow_succ, Nat.mul_comm (m ^ c), ← Nat.div_div_eq_div_mul, Nat.mul_comm (pkN m f (n + c)), Nat.mul_add_div hm, Nat.div_eq_of_lt b, Nat.add_zero, a]
theorem pkN_pos {m : Nat} {f : Nat → Nat} (hm : 0 < m) (h0 : 1 ≤ f 0) : ∀ n, 1 ≤ n → 1 ≤ pkN m f n
  | 0, h => by omega
  | 1, _ => by show 1 ≤ 0 * m + f 0; omega
  | n + 2, _ => by
    have a := pkN_pos hm h0 (n + 1) (by omega)
    have : 1 * m ≤ pkN m f (n + 1) * m := Nat.mul_le_mul_right _ a
    show 1 ≤ pkN m f (n + 1) * m + f (n + 1)
    omega
/-- the letter at k of a name of n, in digits of m -/
theorem pkN_at {m : Nat} {f : Nat → Nat} (hm : 0 < m) {n i : Nat} (hi : i < n) (h : ∀ i, i < n → f i < m) : pkN m f n / m ^ (n - 1 - i) % m = f i := by
  have a := pkN_div (f := f) hm (n := i + 1) (n - 1 - i) (fun j h1 h2 => h j (by omega))
  rw [show i + 1 + (n - 1 - i) = n by omega] at a
  rw [a]
  show (pkN m f i * m + f i) % m = f i
  rw [Nat.mul_comm, Nat.mul_add_mod, Nat.mod_eq_of_lt (h i hi)]
theorem pkN_0 {m : Nat} {f : Nat → Nat} (hm : 0 < m) {n c : Nat} (hc : n ≤ c) (h : ∀ i, i < n → f i < m) : pkN m f n / m ^ c = 0 := by
  apply Nat.div_eq_of_lt
  exact Nat.lt_of_lt_of_le (pkN_lt hm n h) (Nat.pow_le_pow_right hm hc)
theorem pkN_nz {m : Nat} {f : Nat → Nat} (hm : 0 < m) {n c : Nat} (hc : c < n) (h0 : 1 ≤ f 0) (h : ∀ i, i < n → f i < m) : 1 ≤ pkN m f n / m ^ c := by
  have a := pkN_div (f := f) hm (n := n - c) c (fun j h1 h2 => h j (by omega))
  rw [show n - c + c = n by omega] at a
  rw [a]
  exact pkN_pos hm h0 (n - c) (by omega)
def n5 (f : Nat → Nat) (n : Nat) : Nat := pkN 32 (fun i => f i - 96) n
theorem nm5_dig {f : Nat → Nat} {n : Nat} (h : nmF f n) (c : Nat) : lt5 (((pkN 256 f n / 256 ^ c % 256 : Nat)) : Int) = if c < n then ((f (n - 1 - c) - 96 : Nat) : Int) else 0 := by
  obtain ⟨⟨n1, n6⟩, hf⟩ := h
  by_cases q : c < n
  · have a := pkN_at (f := f) (m := 256) (by omega) (n := n) (i := n - 1 - c) (by omega) (fun i hi => by have := hf i hi; omega)
    rw [show n - 1 - (n - 1 - c) = c by omega] at a
    have := hf (n - 1 - c) (by omega)
    rw [a, if_pos q]; unfold lt5; rw [if_neg (by omega)]; omega
  · rw [pkN_0 (f := f) (m := 256) (by omega) (show n ≤ c by omega) (fun i hi => by have := hf i hi; omega), if_neg q]; rfl
theorem nm5_pk {f : Nat → Nat} {n : Nat} (h : nmF f n) : nm5 ((pkN 256 f n : Nat) : Int) = (n5 f n : Nat) := by
  have a0 := nm5_dig h 0
  have a1 := nm5_dig h 1
  have a2 := nm5_dig h 2
  have a3 := nm5_dig h 3
  have a4 := nm5_dig h 4
  have a5 := nm5_dig h 5
  obtain ⟨⟨n1, n6⟩, hf⟩ := h
  unfold nm5
  generalize pkN 256 f n = w at a0 a1 a2 a3 a4 a5 ⊢
  rw [show ((w : Nat) : Int) / 1099511627776 % 256 = ((w / 256 ^ 5 % 256 : Nat) : Int) by omega, show ((w : Nat) : Int) / 4294967296 % 256 = ((w / 256 ^ 4 % 256 : Nat) : Int) by omega, show ((w : Nat) : Int) / 16777216 % 256 = ((w / 256 ^ 3 % 256 : Nat) : Int) by omega, show ((w : Nat) : Int) / 65536 % 256 = ((w / 256 ^ 2 % 256 : Nat) : Int) by omega, show ((w : Nat) : Int) / 256 % 256 = ((w / 256 ^ 1 % 256 : Nat) : Int) by omega, show ((w : Nat) : Int) % 256 = ((w / 256 ^ 0 % 256 : Nat) : Int) by omega, a0, a1, a2, a3, a4, a5]
  unfold n5
  have : n = 1 ∨ n = 2 ∨ n = 3 ∨ n = 4 ∨ n = 5 ∨ n = 6 := by omega
  rcases this with e | e | e | e | e | e <;> subst e <;> simp [pkN] <;> omega
theorem n5_r {f : Nat → Nat} {n : Nat} (h : nmF f n) : n5 f n < 32 ^ n ∧ (∀ i, i < n → f i - 96 < 32) ∧ 32 ^ n ≤ 32 ^ 6 := by
  obtain ⟨⟨n1, n6⟩, hf⟩ := h
  refine ⟨pkN_lt (by omega) n (fun i hi => by have := hf i hi; omega), fun i hi => by have := hf i hi; omega, Nat.pow_le_pow_right (by omega) n6⟩
/-- the letters of a name -/
def nmLn (w : Int) : Nat := if w ≤ 0 then 0 else if w < 256 then 1 else if w < 65536 then 2 else if w < 16777216 then 3 else if w < 4294967296 then 4 else if w < 1099511627776 then 5 else 6
def ltV (w k : Int) : Int := if 0 ≤ k ∧ k < (nmLn w : Int) then w / 256 ^ (nmLn w - 1 - k.toNat) % 256 else -1
theorem nmLn_n {f : Nat → Nat} {n : Nat} (h : nmF f n) : nmLn (pkN 256 f n : Nat) = n := by
  obtain ⟨⟨n1, n6⟩, hf⟩ := h
  have a := pkN_lt (f := f) (m := 256) (by omega) n (fun i hi => by have := hf i hi; omega)
  have b := pkN_nz (f := f) (m := 256) (by omega) (n := n) (c := n - 1) (by omega) (by have := hf 0 (by omega); omega) (fun i hi => by have := hf i hi; omega)
  unfold nmLn
  generalize pkN 256 f n = w at a b ⊢
  have : n = 1 ∨ n = 2 ∨ n = 3 ∨ n = 4 ∨ n = 5 ∨ n = 6 := by omega
  rcases this with e | e | e | e | e | e <;> subst e <;> simp at a b
  · rw [if_neg (by omega), if_pos (by omega)]
  · rw [if_neg (by omega), if_neg (by omega), if_pos (by omega)]
  · rw [if_neg (by omega), if_neg (by omega), if_neg (by omega), if_pos (by omega)]
  · rw [if_neg (by omega), if_neg (by omega), if_neg (by omega), if_neg (by omega), if_pos (by omega)]
  · rw [if_neg (by omega), if_neg (by omega), if_neg (by omega), if_neg (by omega), if_neg (by omega), if_pos (by omega)]
  · rw [if_neg (by omega), if_neg (by omega), if_neg (by omega), if_neg (by omega), if_neg (by omega), if_neg (by omega)]
theorem ltV_at {f : Nat → Nat} {n : Nat} (h : nmF f n) {k : Int} : ltV (pkN 256 f n : Nat) k = if 0 ≤ k ∧ k < (n : Int) then (f k.toNat : Int) else -1 := by
  unfold ltV
  rw [nmLn_n h]
  by_cases q : 0 ≤ k ∧ k < (n : Int)
  · rw [if_pos q, if_pos q]
    have a := pkN_at (f := f) (m := 256) (by omega) (n := n) (i := k.toNat) (by omega) (fun i hi => by have := h.2 i hi; omega)
    have e : ((pkN 256 f n : Nat) : Int) / 256 ^ (n - 1 - k.toNat) % 256 = ((pkN 256 f n / 256 ^ (n - 1 - k.toNat) % 256 : Nat) : Int) := by
      rw [Int.natCast_emod, Int.natCast_ediv, Int.natCast_pow]; rfl
    rw [e, a]
  · rw [if_neg q, if_neg q]
/-- every name of the house is one -/
def wfNm (α : mm_Mem) : Prop := (∀ t : Nat, (t : Int) < α 0 5 → nmW (α 2 t)) ∧ (∀ d : Nat, (d : Int) < α 0 6 → nmW (α 3 d)) ∧ ∀ p : Nat, (p : Int) < α 0 7 → nmW (α 4 p)
def letR (α : mm_Mem) (a i j : Int) : Int := if a = 0 ∧ 0 ≤ i ∧ i < α 0 5 then ltV (α 2 i.toNat) j else if a = 1 ∧ 0 ≤ i ∧ i < α 0 6 then ltV (α 3 i.toNat) j else if a = 2 ∧ 0 ≤ i ∧ i < α 0 7 then ltV (α 4 i.toNat) j else -1
section Names
variable {E : mm_Env} {d k h b : Nat} {α τ : mm_Mem} {Q : mm_Q0}
theorem c_letL {f : Nat → Nat} {n : Nat} {a : Int} (hf : nmF f n) (ha : inR a) (k1 : Q (some (vI (ltV (pkN 256 f n : Nat) a))) τ) : ∀ (c i : Nat), i + c = n → V0 E (d + 1) qX10_letter 11 [none, none, none, some (vI a), some (vI (n5 f n : Nat)), some (vI (i : Int))] [] τ Q := by
  rw [ltV_at hf] at k1
  obtain ⟨r1, r2, r3⟩ := n5_r hf
  obtain ⟨⟨n1, n6⟩, hl⟩ := id hf
  have big : n5 f n < 2 ^ 31 := by omega
  have fin : inR a ∧ ((a < 0 → Q (some (vI (-1))) τ) ∧ (¬ a < 0 → ((a < (n : Int) → Q (some (vI (96 + (mm_and (mm_shr (n5 f n : Nat) (5 * (((n : Int) - 1) - a))) 31)))) τ) ∧ (¬ a < (n : Int) → Q (some (vI (-1))) τ)))) := by
    refine ⟨ha, fun q => ?_, fun q => ⟨fun q2 => ?_, fun q2 => ?_⟩⟩
    · rw [if_neg (by omega)] at k1; exact k1
    · rw [if_pos ⟨by omega, q2⟩] at k1
      have e1 : (5 * (((n : Int) - 1) - a)) = ((5 * (n - 1 - a.toNat) : Nat) : Int) := by omega
      rw [e1, zm_shr big (by omega), show (31 : Int) = ((31 : Nat) : Int) from rfl, zm_and (by have := Nat.div_le_self (n5 f n) (2 ^ (5 * (n - 1 - a.toNat))); omega)]
      have e2 : n5 f n / 2 ^ (5 * (n - 1 - a.toNat)) &&& 31 = f a.toNat - 96 := by
        rw [Nat.pow_mul, show (2 : Nat) ^ 5 = 32 from rfl, show (31 : Nat) = 2 ^ 5 - 1 from rfl, Nat.and_two_pow_sub_one_eq_mod]
        exact pkN_at (f := fun i => f i - 96) (m := 32) (by omega) (n := n) (i := a.toNat) (by omega) r2
      have := hl a.toNat (by omega)
      rw [e2, show 96 + ((f a.toNat - 96 : Nat) : Int) = (f a.toNat : Int) by omega]
      exact k1
    · rw [if_neg (by omega)] at k1; exact k1
  intro c
  induction c with
  | zero =>
    intro i hi
    have e : i = n := by omega
    subst e
    have z : mm_shr (n5 f i : Nat) (5 * (i : Int)) = (0 : Nat) ∨ i = 6 := by
      by_cases q : i = 6
      · exact Or.inr q
      · left
        rw [show (5 * (i : Int)) = ((5 * i : Nat) : Int) by omega, zm_shr big (by omega), Nat.pow_mul, show (2 : Nat) ^ 5 = 32 from rfl, Nat.div_eq_of_lt r1]
    refine bX10_letter_11 ⟨⟨by omega, by omega⟩, fun _ => fin, fun q => ?_⟩
    rcases z with z | z
    · rw [z]
      exact ⟨⟨by omega, by omega⟩, fun _ => fin, fun q => by omega⟩
    · omega
  | succ c ih =>
    intro i hi
    have z : mm_shr (n5 f n : Nat) (5 * (i : Int)) = ((n5 f n / 32 ^ i : Nat) : Int) := by
      rw [show (5 * (i : Int)) = ((5 * i : Nat) : Int) by omega, zm_shr big (by omega), Nat.pow_mul, show (2 : Nat) ^ 5 = 32 from rfl]
    have nz := pkN_nz (f := fun i => f i - 96) (m := 32) (by omega) (n := n) (c := i) (by omega) (by have := hl 0 (by omega); show 1 ≤ f 0 - 96; omega) r2
    have nz2 : 1 ≤ n5 f n / 32 ^ i := nz
    have le := Nat.div_le_self (n5 f n) (32 ^ i)
    refine bX10_letter_11 ⟨⟨by omega, by omega⟩, fun q => by omega, fun _ => ?_⟩
    rw [z]
    generalize n5 f n / 32 ^ i = y at nz2 le ⊢
    refine ⟨⟨by omega, by omega⟩, fun q => by omega, fun _ => ?_⟩
    rw [show (i : Int) + 1 = ((i + 1 : Nat) : Int) by omega]
    exact ih (i + 1) (by omega)
theorem c_let0 {a : Int} (ha : inR a) (k1 : Q (some (vI (-1))) τ) : V0 E (d + 1) qX10_letter 11 [none, none, none, some (vI a), some (vI 0), some (vI 0)] [] τ Q := by
  refine bX10_letter_11 ⟨⟨by omega, by omega⟩, fun q => by omega, fun _ => ?_⟩
  have z : mm_shr 0 (5 * 0) = 0 := by decide
  rw [z]
  exact ⟨⟨by omega, by omega⟩, fun _ => ⟨ha, fun _ => k1, fun q => ⟨fun q2 => absurd q2 q, fun _ => k1⟩⟩, fun q => absurd (Int.le_refl 0) q⟩
theorem c_letter {a0 a1 a2 : Int} (w : WF k α) (N : wfNm α) (H : RepC k h α τ) (h0 : inR a0) (h1 : inR a1) (h2 : inR a2) (k1 : Q (some (vI (letR α a0 a1 a2))) τ) : M0 E (d + 2) qX10_letter [vR 2, vI a0, vI a1, vI a2] τ Q := by
  obtain ⟨l1, l2⟩ := H.live
  have gn := H.2.2.2.2.1
  have go : ∀ {x : Int}, nmW x → Q (some (vI (ltV x a2))) τ → V0 E (d + 2) qX10_letter 11 [none, none, none, some (vI a2), some (vI (nm5 x)), some (vI 0)] [] τ Q := by
    rintro x ⟨n, f, hf, rfl⟩ kk
    rw [nm5_pk hf]
    exact c_letL (d := d + 1) hf h2 kk n 0 (by omega)
  have tu : α 0 5 ≤ 3 ∧ α 0 6 ≤ 4 ∧ α 0 7 ≤ 4 := by have := w.2.1.1; omega
  unfold letR at k1
  refine mX10_letter (mX10_nameOf ?_)
  by_cases t0 : a0 = 0
  · subst t0
    have nx : ∀ o2 o4 : Nat, inR (0 : Int) ∧ (((0 : Int) ≠ 0 → V0 E (d + 1) qX10_nameOf 35 [none, some (vI 0), none, some (vR o2), some (vR o4)] [] τ (fun v τ1 => ∃ r2 : Int, v = some (vI r2) ∧ V0 E (d + 2) qX10_letter 11 [none, none, none, some (vI a2), some (vI r2), some (vI 0)] [] τ1 Q)) ∧ ((0 : Int) = 0 → M0 E d qX10_isTune [vR 2, vI a1] τ (fun v τ6 => ∃ b7 : Bool, v = some (vB b7) ∧ ((b7 = false → V0 E (d + 1) qX10_nameOf 35 [none, some (vI 0), none, some (vR o2), some (vR o4)] [] τ6 (fun v τ1 => ∃ r2 : Int, v = some (vI r2) ∧ V0 E (d + 2) qX10_letter 11 [none, none, none, some (vI a2), some (vI r2), some (vI 0)] [] τ1 Q)) ∧ (b7 = true → ∃ o8 : Nat, (τ6 2 2) = (o8 : Int) ∧ KD o8 = some (.inr 2) ∧ 0 ≤ a1 ∧ a1 < 3 ∧ ∃ r2 : Int, some (vI (τ6 (o8 + 1) a1.toNat)) = some (vI r2) ∧ V0 E (d + 2) qX10_letter 11 [none, none, none, some (vI a2), some (vI r2), some (vI 0)] [] τ6 Q))))) := by
      intro o2 o4
      refine ⟨⟨by omega, by omega⟩, fun q => absurd rfl q, fun _ => c_isTune w H h1 ⟨_, rfl, fun q => ?_, fun q => ?_⟩⟩
      · have q := of_decide_eq_false q
        rw [if_neg (fun z => q z.2), if_neg (fun z => by omega), if_neg (fun z => by omega)] at k1
        exact bX10_nameOf_35 ⟨⟨by omega, by omega⟩, fun _ => ⟨fun _ => ⟨_, rfl, c_let0 h2 k1⟩, fun z => by omega⟩, fun z => by omega⟩
      · have q := of_decide_eq_true q
        rw [if_pos ⟨rfl, q⟩] at k1
        refine ⟨h, l1, l2, by omega, by omega, _, rfl, ?_⟩
        rw [gn.1 a1.toNat (by omega)]
        exact go (N.1 a1.toNat (by omega)) k1
    exact c_doorAt w H h1 (fun _ _ _ => ⟨_, rfl, c_personAt w H h1 (fun _ _ _ => ⟨_, rfl, nx _ _⟩) (fun _ => ⟨_, rfl, nx _ _⟩)⟩) (fun _ => ⟨_, rfl, c_personAt w H h1 (fun _ _ _ => ⟨_, rfl, nx _ _⟩) (fun _ => ⟨_, rfl, nx _ _⟩)⟩)
  · rw [if_neg (fun z => t0 z.1)] at k1
    by_cases t1 : a0 = 1
    · subst t1
      refine c_doorAt w H h1 (fun d0 d1 kd => ⟨_, rfl, ?_⟩) (fun nd => ⟨_, rfl, ?_⟩)
      · rw [if_pos ⟨rfl, d0, d1⟩] at k1
        have kk : V0 E (d + 2) qX10_letter 11 [none, none, none, some (vI a2), some (vI (τ (h + 14 + 4 * a1.toNat) 0)), some (vI 0)] [] τ Q := by
          rw [gn.2.1 a1.toNat (by omega)]
          exact go (N.2.1 a1.toNat (by omega)) k1
        have hz : ¬ h + 14 + 4 * a1.toNat = 0 := by omega
        exact c_personAt w H h1 (fun _ _ _ => ⟨_, rfl, h0, fun _ => bX10_nameOf_35 ⟨h0, fun z => absurd rfl z, fun _ => ⟨fun z => absurd z hz, fun _ => ⟨kd, _, rfl, kk⟩⟩⟩, fun z => absurd z t0⟩) (fun _ => ⟨_, rfl, h0, fun _ => bX10_nameOf_35 ⟨h0, fun z => absurd rfl z, fun _ => ⟨fun z => absurd z hz, fun _ => ⟨kd, _, rfl, kk⟩⟩⟩, fun z => absurd z t0⟩)
      · rw [if_neg (fun z => nd z.2), if_neg (fun z => by omega)] at k1
        exact c_personAt w H h1 (fun _ _ _ => ⟨_, rfl, h0, fun _ => bX10_nameOf_35 ⟨h0, fun z => absurd rfl z, fun _ => ⟨fun _ => ⟨fun _ => ⟨_, rfl, c_let0 h2 k1⟩, fun z => by omega⟩, fun z => absurd rfl z⟩⟩, fun z => absurd z t0⟩) (fun _ => ⟨_, rfl, h0, fun _ => bX10_nameOf_35 ⟨h0, fun z => absurd rfl z, fun _ => ⟨fun _ => ⟨fun _ => ⟨_, rfl, c_let0 h2 k1⟩, fun z => by omega⟩, fun z => absurd rfl z⟩⟩, fun z => absurd z t0⟩)
    · rw [if_neg (fun z => t1 z.1)] at k1
      by_cases t2 : a0 = 2
      · subst t2
        have nx : ∀ o2 : Nat, M0 E d qX10_personAt [vR 2, vI a1] τ (fun v τ3 => ∃ o4 : Nat, v = some (vR o4) ∧ inR (2 : Int) ∧ (((2 : Int) ≠ 0 → V0 E (d + 1) qX10_nameOf 35 [none, some (vI 2), none, some (vR o2), some (vR o4)] [] τ3 (fun v τ1 => ∃ r2 : Int, v = some (vI r2) ∧ V0 E (d + 2) qX10_letter 11 [none, none, none, some (vI a2), some (vI r2), some (vI 0)] [] τ1 Q)) ∧ ((2 : Int) = 0 → M0 E d qX10_isTune [vR 2, vI a1] τ3 (fun v τ6 => ∃ b7 : Bool, v = some (vB b7) ∧ ((b7 = false → V0 E (d + 1) qX10_nameOf 35 [none, some (vI 2), none, some (vR o2), some (vR o4)] [] τ6 (fun v τ1 => ∃ r2 : Int, v = some (vI r2) ∧ V0 E (d + 2) qX10_letter 11 [none, none, none, some (vI a2), some (vI r2), some (vI 0)] [] τ1 Q)) ∧ (b7 = true → ∃ o8 : Nat, (τ6 2 2) = (o8 : Int) ∧ KD o8 = some (.inr 2) ∧ 0 ≤ a1 ∧ a1 < 3 ∧ ∃ r2 : Int, some (vI (τ6 (o8 + 1) a1.toNat)) = some (vI r2) ∧ V0 E (d + 2) qX10_letter 11 [none, none, none, some (vI a2), some (vI r2), some (vI 0)] [] τ6 Q)))))) := by
          intro o2
          refine c_personAt w H h1 (fun p0 p1 kd => ⟨_, rfl, h0, fun _ => ?_, fun z => absurd z t0⟩) (fun np => ⟨_, rfl, h0, fun _ => ?_, fun z => absurd z t0⟩)
          · rw [if_pos ⟨rfl, p0, p1⟩] at k1
            refine bX10_nameOf_35 ⟨h0, fun _ => ⟨fun z => absurd rfl z, fun _ => ⟨fun z => by omega, fun _ => ⟨kd, _, rfl, ?_⟩⟩⟩, fun z => absurd z t1⟩
            rw [gn.2.2 a1.toNat (by omega)]
            exact go (N.2.2 a1.toNat (by omega)) k1
          · rw [if_neg (fun z => np z.2)] at k1
            exact bX10_nameOf_35 ⟨h0, fun _ => ⟨fun z => absurd rfl z, fun _ => ⟨fun _ => ⟨_, rfl, c_let0 h2 k1⟩, fun z => absurd rfl z⟩⟩, fun z => absurd z t1⟩
        exact c_doorAt w H h1 (fun _ _ _ => ⟨_, rfl, nx _⟩) (fun _ => ⟨_, rfl, nx _⟩)
      · rw [if_neg (fun z => t2 z.1)] at k1
        have nx : ∀ o2 o4 : Nat, V0 E (d + 1) qX10_nameOf 35 [none, some (vI a0), none, some (vR o2), some (vR o4)] [] τ (fun v τ1 => ∃ r2 : Int, v = some (vI r2) ∧ V0 E (d + 2) qX10_letter 11 [none, none, none, some (vI a2), some (vI r2), some (vI 0)] [] τ1 Q) := fun o2 o4 =>
          bX10_nameOf_35 ⟨h0, fun _ => ⟨fun _ => ⟨_, rfl, c_let0 h2 k1⟩, fun z => absurd z t2⟩, fun z => absurd z t1⟩
        exact c_doorAt w H h1 (fun _ _ _ => ⟨_, rfl, c_personAt w H h1 (fun _ _ _ => ⟨_, rfl, h0, fun _ => nx _ _, fun z => absurd z t0⟩) (fun _ => ⟨_, rfl, h0, fun _ => nx _ _, fun z => absurd z t0⟩)⟩) (fun _ => ⟨_, rfl, c_personAt w H h1 (fun _ _ _ => ⟨_, rfl, h0, fun _ => nx _ _, fun z => absurd z t0⟩) (fun _ => ⟨_, rfl, h0, fun _ => nx _ _, fun z => absurd z t0⟩)⟩)
theorem m_letL {f : Nat → Nat} {n : Nat} {a : Int} (hf : nmF f n) (ha : inR a) (k1 : Q (some (vI (ltV (pkN 256 f n : Nat) a))) τ) : ∀ (c i : Nat), i + c = n → V0 E (d + 1) qX11_letter 45 [none, none, none, some (vI a), some (vL (pkN 256 f n : Nat)), none, some (vI (i : Int)), some (vL (pkN 256 f (n - i) : Nat)), none] [] τ Q := by
  rw [ltV_at hf] at k1
  obtain ⟨⟨n1, n6⟩, hl⟩ := id hf
  have lt : ∀ i, i < n → f i < 256 := fun i hi => by have := hl i hi; omega
  have r1 := pkN_lt (f := f) (m := 256) (by omega) n lt
  have r3 : 256 ^ n ≤ 256 ^ 6 := Nat.pow_le_pow_right (by omega) n6
  have big : pkN 256 f n < 2 ^ 63 := by omega
  intro c
  induction c with
  | zero =>
    intro i hi
    have e : i = n := by omega
    subst e
    rw [show i - i = 0 by omega]
    refine bX11_letter_45 ⟨⟨by simp [pkN], by simp [pkN]⟩, fun _ => ⟨ha, fun q => ?_, fun q => ⟨⟨by omega, by omega⟩, fun q2 => ?_, fun q2 => ?_⟩⟩, fun q => absurd rfl q⟩
    · rw [if_neg (by omega)] at k1; exact k1
    · rw [if_pos ⟨by omega, q2⟩] at k1
      have e1 : (8 * (((i : Int) - 1) - a)) = ((8 * (i - 1 - a.toNat) : Nat) : Int) := by omega
      have e2 : pkN 256 f i / 2 ^ (8 * (i - 1 - a.toNat)) &&& 255 = f a.toNat := by
        rw [Nat.pow_mul, show (2 : Nat) ^ 8 = 256 from rfl, show (255 : Nat) = 2 ^ 8 - 1 from rfl, Nat.and_two_pow_sub_one_eq_mod]
        exact pkN_at (f := f) (m := 256) (by omega) (n := i) (i := a.toNat) (by omega) lt
      have := hl a.toNat (by omega)
      rw [e1, zl_ushr big (by omega), show (255 : Int) = ((255 : Nat) : Int) from rfl, zl_land _ _ (by have := Nat.div_le_self (pkN 256 f i) (2 ^ (8 * (i - 1 - a.toNat))); omega), e2]
      exact ⟨⟨by omega, by omega⟩, k1⟩
    · rw [if_neg (by omega)] at k1; exact k1
  | succ c ih =>
    intro i hi
    have p := pkN_pos (f := f) (m := 256) (by omega) (by have := hl 0 (by omega); omega) (n - i) (by omega)
    have r2 := pkN_lt (f := f) (m := 256) (by omega) (n - i) (fun j hj => lt j (by omega))
    have r4 : 256 ^ (n - i) ≤ 256 ^ 6 := Nat.pow_le_pow_right (by omega) (by omega)
    have dv := pkN_div (f := f) (m := 256) (by omega) (n := n - (i + 1)) 1 (fun j h1 h2 => lt j (by omega))
    rw [show n - (i + 1) + 1 = n - i by omega, Nat.pow_one] at dv
    refine bX11_letter_45 ⟨⟨by omega, by omega⟩, fun q => by omega, fun _ => ?_⟩
    rw [show (8 : Int) = ((8 : Nat) : Int) from rfl, zl_ushr (by omega) (by omega), show (2 : Nat) ^ 8 = 256 from rfl, dv, show (i : Int) + 1 = ((i + 1 : Nat) : Int) by omega]
    exact ih (i + 1) (by omega)
theorem m_letter {a0 a1 a2 : Int} (w : WF k α) (N : wfNm α) (H : RepM b α τ) (h0 : inR a0) (h1 : inR a1) (h2 : inR a2) (k1 : Q (some (vI (letR α a0 a1 a2))) τ) : M0 E (d + 1) qX11_letter [vR 140, vI a0, vI a1, vI a2] τ Q := by
  have go : ∀ {x : Int}, nmW x → Q (some (vI (ltV x a2))) τ → V0 E (d + 1) qX11_letter 45 [none, none, none, some (vI a2), some (vL x), none, some (vI 0), some (vL x), none] [] τ Q := by
    rintro x ⟨n, f, hf, rfl⟩ kk
    exact m_letL (d := d) hf h2 kk n 0 (by omega)
  obtain ⟨b1, b2, b3⟩ := H.bk
  obtain ⟨e1, e2, e3, e4, e5, -⟩ := H.hs
  have gn := H.2.2.2.2.1
  have tu : (0 ≤ α 0 5 ∧ 0 ≤ α 0 6 ∧ 0 ≤ α 0 7) ∧ α 0 5 ≤ 3 ∧ α 0 6 ≤ 4 ∧ α 0 7 ≤ 4 := by have := w.2.1.1; omega
  unfold letR at k1
  have ei : ∀ z : Int, (0 ≤ a1 ∧ a1 ≤ z - 1) ↔ (0 ≤ a1 ∧ a1 < z) := fun z => by omega
  refine mX11_letter (m_is h0 ⟨by omega, by omega⟩ ⟨by omega, by omega⟩ ⟨_, rfl, fun q => ?_, fun q => ?_⟩)
  · have q := of_decide_eq_false q
    rw [if_neg (by omega), if_neg (by omega), if_neg (by omega)] at k1; exact k1
  · have q := of_decide_eq_true q
    refine mX11_manyOf ?_
    rw [b3, b1, e3, e4, e5]
    refine ⟨h0, fun q1 => ⟨fun q2 => ⟨by omega, by omega, _, rfl, m_is h1 ⟨by omega, by omega⟩ ⟨by omega, by omega⟩ ⟨_, rfl, fun q3 => ?_, fun q3 => ?_⟩⟩, fun q2 => ⟨by omega, by omega, _, rfl, m_is h1 ⟨by omega, by omega⟩ ⟨by omega, by omega⟩ ⟨_, rfl, fun q3 => ?_, fun q3 => ?_⟩⟩⟩, fun q1 => ⟨by omega, by omega, _, rfl, m_is h1 ⟨by omega, by omega⟩ ⟨by omega, by omega⟩ ⟨_, rfl, fun q3 => ?_, fun q3 => ?_⟩⟩⟩
    · have q3 := of_decide_eq_true q3
      rw [if_neg (by omega), if_neg (by omega), if_pos ⟨by omega, by omega, by omega⟩] at k1
      refine mX11_nameOf ⟨h0, fun _ => ⟨fun _ => ⟨by omega, by omega, _, rfl, ?_⟩, fun z => absurd z q2⟩, fun z => absurd z q1⟩
      have g := gn.2.2 a1.toNat (by omega)
      rw [show (4 * τ 140 12 + a1).toNat = 4 * b + a1.toNat by omega, g]
      exact go (N.2.2 a1.toNat (by omega)) k1
    · have q3 := of_decide_eq_false q3
      rw [if_neg (by omega), if_neg (by omega), if_neg (by omega)] at k1; exact k1
    · have q3 := of_decide_eq_true q3
      rw [if_neg (by omega), if_pos ⟨by omega, by omega, by omega⟩] at k1
      refine mX11_nameOf ⟨h0, fun _ => ⟨fun z => absurd q2 z, fun _ => ⟨by omega, by omega, _, rfl, ?_⟩⟩, fun z => absurd z q1⟩
      have g := gn.2.1 a1.toNat (by omega)
      rw [show (4 * τ 140 12 + a1).toNat = 4 * b + a1.toNat by omega, g]
      exact go (N.2.1 a1.toNat (by omega)) k1
    · have q3 := of_decide_eq_false q3
      rw [if_neg (by omega), if_neg (by omega), if_neg (by omega)] at k1; exact k1
    · have q3 := of_decide_eq_true q3
      rw [if_pos ⟨by omega, by omega, by omega⟩] at k1
      refine mX11_nameOf ⟨h0, fun z => absurd q1 z, fun _ => ⟨by omega, by omega, _, rfl, ?_⟩⟩
      have g := gn.1 a1.toNat (by omega)
      rw [show (3 * τ 140 12 + a1).toNat = 3 * b + a1.toNat by omega, g]
      exact go (N.1 a1.toNat (by omega)) k1
    · have q3 := of_decide_eq_false q3
      rw [if_neg (by omega), if_neg (by omega), if_neg (by omega)] at k1; exact k1
theorem m_person_ {a0 a1 : Int} (w : WF k α) (H : RepM b α τ) (h0 : inR a0) (h1 : inR a1) (k1 : Q (some (vI (personR α a0 a1))) τ) : M0 E (d + 2) qX11_person_ [vR 140, vI a0, vI a1] τ Q := by
  unfold personR at k1
  have b2 := H.bk.2.1
  have tu : α 0 7 ≤ 4 := by have := w.2.1.1; omega
  refine mX11_person_ (m_isPerson w H h0 ⟨_, rfl, fun q => ?_, fun q => ?_⟩)
  · have q := of_decide_eq_true q
    rw [if_pos q] at k1
    obtain ⟨g0, g1, g2, g3⟩ := H.pers q.1 q.2
    obtain ⟨c0, c1, c2⟩ := H.cnt q.1 (show a0 < 4 by omega)
    refine ⟨h1, fun z => ?_, fun z => m_person4 H ⟨_, rfl, by omega, by omega, ?_⟩, fun z => m_person4 H ⟨_, rfl, by omega, by omega, ?_⟩, fun z => ⟨by omega, by omega, ?_⟩, fun z => m_person4 H ⟨_, rfl, by omega, by omega, ?_⟩, fun z => m_person4 H ⟨_, rfl, by omega, by omega, ?_⟩, fun z => ⟨by omega, by omega, ?_⟩, fun z => ⟨by omega, by omega, ?_⟩⟩
    · rw [if_neg (by omega), if_neg (by omega), if_neg (by omega), if_neg (by omega), if_neg (by omega), if_neg (by omega), if_neg (by omega)] at k1; exact k1
    · subst z; rw [g0]; exact k1
    · subst z; rw [g1]; exact k1
    · subst z; rw [c0]; exact k1
    · subst z; rw [g2]; exact k1
    · subst z; rw [g3]; exact k1
    · subst z; rw [c1]; exact k1
    · subst z; rw [c2]; exact k1
  · rw [if_neg (of_decide_eq_false q)] at k1; exact k1
def mkB (α : mm_Mem) (dd : Int) : Nat → Nat
  | 0 => 0
  | t + 1 => mkB α dd t + (if earA α dd t then 2 ^ t else 0)
theorem mkB_lt {dd : Int} : ∀ t, mkB α dd t < 2 ^ t
  | 0 => by rw [mkB]; exact Nat.one_pos
  | t + 1 => by
    have := mkB_lt (dd := dd) t
    rw [mkB, Nat.pow_succ]
    split <;> omega
theorem or_pow2 {a t : Nat} (h : a < 2 ^ t) : a ||| 2 ^ t = a + 2 ^ t := by
  have := Nat.two_pow_add_eq_or_of_lt h 1
  rw [Nat.mul_one] at this
  rw [Nat.or_comm, ← this, Nat.add_comm]
theorem m_doorL {a0 a1 : Int} (w : WF k α) (H : RepM b α τ) (h0 : inR a0) (h1 : inR a1) (q : 0 ≤ a0 ∧ a0 < α 0 6) (k1 : Q (some (vI (doorR α a0 a1))) τ) : ∀ (c t : Nat), (t : Int) + c = α 0 5 → V0 E (d + 2) qX11_door_ 15 [some (vR 140), some (vI a0), some (vI a1), some (vI (mkB α a0 t : Nat)), some (vI (t : Int))] [] τ Q
  | 0, t, ht => by
    have tu : α 0 5 ≤ 3 ∧ α 0 6 ≤ 4 := by have := w.2.1.1; omega
    obtain ⟨b1, b2, b3⟩ := H.bk
    obtain ⟨e1, e2, e3, e4, -⟩ := H.hs
    obtain ⟨g0, g1, g2⟩ := H.door q.1 q.2
    unfold doorR at k1
    rw [if_pos q] at k1
    refine bX11_door__15 ?_
    rw [b3, e3, b1]
    refine ⟨by omega, by omega, ⟨by omega, by omega⟩, fun _ => ⟨h1, fun z0 => ⟨fun z1 => ⟨fun z2 => ⟨fun z3 => ?_, fun z3 => ?_⟩, fun z2 => m_door4 H ⟨_, rfl, by omega, by omega, ?_⟩⟩, fun z1 => m_door4 H ⟨_, rfl, by omega, by omega, ?_⟩⟩, fun z0 => m_door4 H ⟨_, rfl, by omega, by omega, ?_⟩⟩, fun z => by omega⟩
    · rw [if_neg z0, if_neg z1, if_neg z2, if_neg z3] at k1; exact k1
    · rw [if_neg z0, if_neg z1, if_neg z2, if_pos z3] at k1
      have e : ((mkB α a0 t : Nat) : Int) = maskA α a0.toNat := by
        unfold maskA
        rw [show ((a0.toNat : Nat) : Int) = a0 by omega]
        have no : ∀ j : Nat, α 0 5 ≤ (j : Int) → earA α a0 (j : Int) = false := fun j hj => by
          have := noear (dd := a0.toNat) (t := j) w hj
          rw [show ((a0.toNat : Nat) : Int) = a0 by omega] at this; exact this
        have n0 := no 0
        have n1 := no 1
        have n2 := no 2
        have : t = 0 ∨ t = 1 ∨ t = 2 ∨ t = 3 := by omega
        rcases this with e | e | e | e <;> subst e
        · have x0 := n0 (by omega); have x1 := n1 (by omega); have x2 := n2 (by omega)
          have x0' : earA α a0 0 = false := x0
          have x1' : earA α a0 1 = false := x1
          have x2' : earA α a0 2 = false := x2
          rw [x0', x1', x2']; rfl
        · have x1 := n1 (by omega); have x2 := n2 (by omega)
          have x1' : earA α a0 1 = false := x1
          have x2' : earA α a0 2 = false := x2
          rw [x1', x2']
          show ((0 + (if earA α a0 0 then 2 ^ 0 else 0) : Nat) : Int) = _
          cases earA α a0 0 <;> rfl
        · have x2 := n2 (by omega)
          have x2' : earA α a0 2 = false := x2
          rw [x2']
          show ((0 + (if earA α a0 0 then 2 ^ 0 else 0) + (if earA α a0 1 then 2 ^ 1 else 0) : Nat) : Int) = _
          cases earA α a0 0 <;> cases earA α a0 1 <;> rfl
        · show ((0 + (if earA α a0 0 then 2 ^ 0 else 0) + (if earA α a0 1 then 2 ^ 1 else 0) + (if earA α a0 2 then 2 ^ 2 else 0) : Nat) : Int) = _
          cases earA α a0 0 <;> cases earA α a0 1 <;> cases earA α a0 2 <;> rfl
      rw [e]; exact k1
    · rw [if_neg z0, if_neg z1, if_pos z2] at k1; rw [g2]; exact k1
    · rw [if_neg z0, if_pos z1] at k1; rw [g1]; exact k1
    · rw [if_pos z0] at k1; rw [g0]; exact k1
  | c + 1, t, ht => by
    have tu : α 0 5 ≤ 3 ∧ α 0 6 ≤ 4 := by have := w.2.1.1; omega
    obtain ⟨b1, b2, b3⟩ := H.bk
    obtain ⟨e1, e2, e3, e4, -⟩ := H.hs
    have go := m_doorL w H h0 h1 q k1 c (t + 1) (by omega)
    rw [show (((t + 1 : Nat)) : Int) = (t : Int) + 1 by omega] at go
    have ml := mkB_lt (α := α) (dd := a0) t
    have pl : (2 : Nat) ^ t ≤ 2 ^ 3 := Nat.pow_le_pow_right (by omega) (by omega)
    refine bX11_door__15 ?_
    rw [b3, e3, b1]
    refine ⟨by omega, by omega, ⟨by omega, by omega⟩, fun z => by omega, fun _ => m_isEar w H h0 ⟨by omega, by omega⟩ ⟨_, rfl, fun z => ?_, fun z => ?_⟩⟩
    · have e : mm_or ((mkB α a0 t : Nat) : Int) 0 = ((mkB α a0 (t + 1) : Nat) : Int) := by
        rw [show (0 : Int) = ((0 : Nat) : Int) from rfl, zm_or (by omega) (by omega), Nat.or_zero, mkB, if_neg (by rw [z]; decide)]; rfl
      rw [e]; exact go
    · have e : mm_or ((mkB α a0 t : Nat) : Int) (mm_shl 1 (t : Int)) = ((mkB α a0 (t + 1) : Nat) : Int) := by
        rw [show (1 : Int) = ((1 : Nat) : Int) from rfl, zm_shl (by omega) (by omega), zm_or (by omega) (by omega), Nat.one_mul, mkB, if_pos z]
        have e2 := or_pow2 ml
        omega
      rw [e]; exact go
theorem m_door_ {a0 a1 : Int} (w : WF k α) (H : RepM b α τ) (h0 : inR a0) (h1 : inR a1) (k1 : Q (some (vI (doorR α a0 a1))) τ) : M0 E (d + 2) qX11_door_ [vR 140, vI a0, vI a1] τ Q := by
  have tu : 0 ≤ α 0 5 := by have := w.2.1.1; omega
  refine mX11_door_ (m_isDoor w H h0 ⟨_, rfl, fun q => ?_, fun q => ?_⟩)
  · exact m_doorL w H h0 h1 (of_decide_eq_true q) k1 (α 0 5).toNat 0 (by omega)
  · unfold doorR at k1
    rw [if_neg (of_decide_eq_false q)] at k1; exact k1
end Names
