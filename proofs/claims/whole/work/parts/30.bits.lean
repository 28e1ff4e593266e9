/-! bits: tunes as five digits of three bits -/
theorem zi_and (a b : Nat) : nI a &&& nI b = nI (a &&& b) := by
  apply Int32.toBitVec_inj.1
  show BitVec.ofNat 32 a &&& BitVec.ofNat 32 b = BitVec.ofNat 32 (a &&& b)
  apply BitVec.eq_of_getLsbD_eq
  intro i hi
  simp [hi]
theorem zi_or (a b : Nat) : nI a ||| nI b = nI (a ||| b) := by
  apply Int32.toBitVec_inj.1
  show BitVec.ofNat 32 a ||| BitVec.ofNat 32 b = BitVec.ofNat 32 (a ||| b)
  apply BitVec.eq_of_getLsbD_eq
  intro i hi
  simp [hi]
theorem zi_xor (a b : Nat) : nI a ^^^ nI b = nI (a ^^^ b) := by
  apply Int32.toBitVec_inj.1
  show BitVec.ofNat 32 a ^^^ BitVec.ofNat 32 b = BitVec.ofNat 32 (a ^^^ b)
  apply BitVec.eq_of_getLsbD_eq
  intro i hi
  simp [hi]
theorem zi_of (a : Nat) : Int32.ofInt (a : Int) = nI a := Int32.ofInt_eq_ofNat
theorem zm_and {a b : Nat} (ha : a < 2 ^ 31) : mm_and (a : Int) (b : Int) = ((a &&& b : Nat) : Int) := by
  unfold mm_and
  rw [zi_of, zi_of, zi_and, nI_toInt (Nat.lt_of_le_of_lt Nat.and_le_left ha)]
theorem zm_or {a b : Nat} (ha : a < 2 ^ 31) (hb : b < 2 ^ 31) : mm_or (a : Int) (b : Int) = ((a ||| b : Nat) : Int) := by
  unfold mm_or
  rw [zi_of, zi_of, zi_or, nI_toInt (Nat.or_lt_two_pow ha hb)]
theorem zm_xor {a b : Nat} (ha : a < 2 ^ 31) (hb : b < 2 ^ 31) : mm_xor (a : Int) (b : Int) = ((a ^^^ b : Nat) : Int) := by
  unfold mm_xor
  rw [zi_of, zi_of, zi_xor, nI_toInt (Nat.xor_lt_two_pow ha hb)]
theorem zs_l : ∀ n, n < 32 → ((nI n &&& 31).toBitVec.smod 32).toNat = n := by decide +kernel
theorem zs_u : ∀ n, n < 32 → (((nI n).toUInt32 &&& Int32.toUInt32 31).toBitVec % 32).toNat = n := by decide +kernel
theorem zm_shr {a k : Nat} (ha : a < 2 ^ 31) (hk : k < 32) : mm_shr (a : Int) (k : Int) = ((a / 2 ^ k : Nat) : Int) := by
  unfold mm_shr
  rw [zi_of, zi_of, pk_shrN ha _ k (zs_l k hk), nI_toInt (Nat.lt_of_le_of_lt (Nat.div_le_self _ _) ha)]
theorem zm_shl {a k : Nat} (hk : k < 32) (h : a * 2 ^ k < 2 ^ 31) : mm_shl (a : Int) (k : Int) = ((a * 2 ^ k : Nat) : Int) := by
  unfold mm_shl
  rw [zi_of, zi_of, pk_shlN _ k (zs_l k hk) (Nat.lt_of_lt_of_le h (by decide)), nI_toInt h]
theorem zm_ushr {a k : Nat} (ha : a < 2 ^ 31) (hk : k < 32) : mm_ushr (a : Int) (k : Int) = ((a / 2 ^ k : Nat) : Int) := by
  unfold mm_ushr
  rw [zi_of, zi_of, pk_ushrN (Nat.lt_of_lt_of_le ha (by decide)) _ k (zs_u k hk), nI_toInt (Nat.lt_of_le_of_lt (Nat.div_le_self _ _) ha)]
theorem zd_xor {a b c e : Nat} (hb : b < 8) (he : e < 8) : (b + 8 * a) ^^^ (e + 8 * c) = (b ^^^ e) + 8 * (a ^^^ c) := by
  have hx : b ^^^ e < 2 ^ 3 := Nat.xor_lt_two_pow hb he
  rw [Nat.add_comm b, Nat.add_comm e, Nat.add_comm (b ^^^ e)]
  apply Nat.eq_of_testBit_eq
  intro j
  rw [Nat.testBit_xor, Nat.testBit_two_pow_mul_add a (i := 3) hb j, Nat.testBit_two_pow_mul_add c (i := 3) he j, Nat.testBit_two_pow_mul_add (a ^^^ c) (i := 3) hx j]
  by_cases h : j < 3 <;> simp [h]
theorem zd_or {a b c e : Nat} (hb : b < 8) (he : e < 8) : (b + 8 * a) ||| (e + 8 * c) = (b ||| e) + 8 * (a ||| c) := by
  have hx : b ||| e < 2 ^ 3 := Nat.or_lt_two_pow hb he
  rw [Nat.add_comm b, Nat.add_comm e, Nat.add_comm (b ||| e)]
  apply Nat.eq_of_testBit_eq
  intro j
  rw [Nat.testBit_or, Nat.testBit_two_pow_mul_add a (i := 3) hb j, Nat.testBit_two_pow_mul_add c (i := 3) he j, Nat.testBit_two_pow_mul_add (a ||| c) (i := 3) hx j]
  by_cases h : j < 3 <;> simp [h]
theorem zd_and {a b c e : Nat} (hb : b < 8) (he : e < 8) : (b + 8 * a) &&& (e + 8 * c) = (b &&& e) + 8 * (a &&& c) := by
  have hx : b &&& e < 2 ^ 3 := Nat.and_lt_two_pow _ he
  rw [Nat.add_comm b, Nat.add_comm e, Nat.add_comm (b &&& e)]
  apply Nat.eq_of_testBit_eq
  intro j
  rw [Nat.testBit_and, Nat.testBit_two_pow_mul_add a (i := 3) hb j, Nat.testBit_two_pow_mul_add c (i := 3) he j, Nat.testBit_two_pow_mul_add (a &&& c) (i := 3) hx j]
  by_cases h : j < 3 <;> simp [h]
/-- five notes in one number -/
def tp (f : Nat → Nat) : Nat := f 0 + 8 * (f 1 + 8 * (f 2 + 8 * (f 3 + 8 * f 4)))
def tp_ok (f : Nat → Nat) : Prop := ∀ i, i < 5 → f i < 8
theorem tp_lt {f : Nat → Nat} (h : tp_ok f) : tp f < 32768 := by
  have h0 := h 0 (by decide); have h1 := h 1 (by decide); have h2 := h 2 (by decide); have h3 := h 3 (by decide); have h4 := h 4 (by decide)
  unfold tp; omega
theorem tp_dig {f : Nat → Nat} (h : tp_ok f) : tp f % 8 = f 0 ∧ tp f / 8 % 8 = f 1 ∧ tp f / 64 % 8 = f 2 ∧ tp f / 512 % 8 = f 3 ∧ tp f / 4096 % 8 = f 4 := by
  have h0 := h 0 (by decide); have h1 := h 1 (by decide); have h2 := h 2 (by decide); have h3 := h 3 (by decide); have h4 := h 4 (by decide)
  unfold tp
  refine ⟨?_, ?_, ?_, ?_, ?_⟩ <;> omega
theorem tp_congr {f g : Nat → Nat} (h : ∀ i, i < 5 → f i = g i) : tp f = tp g := by
  unfold tp; rw [h 0 (by decide), h 1 (by decide), h 2 (by decide), h 3 (by decide), h 4 (by decide)]
theorem tp_inj {f g : Nat → Nat} (hf : tp_ok f) (hg : tp_ok g) (h : tp f = tp g) : ∀ i, i < 5 → f i = g i := by
  have a0 := hf 0 (by decide); have a1 := hf 1 (by decide); have a2 := hf 2 (by decide); have a3 := hf 3 (by decide); have a4 := hf 4 (by decide)
  have b0 := hg 0 (by decide); have b1 := hg 1 (by decide); have b2 := hg 2 (by decide); have b3 := hg 3 (by decide); have b4 := hg 4 (by decide)
  unfold tp at h
  intro i hi
  match i, hi with
  | 0, _ => omega
  | 1, _ => omega
  | 2, _ => omega
  | 3, _ => omega
  | 4, _ => omega
theorem tp_xor {f g : Nat → Nat} (hf : tp_ok f) (hg : tp_ok g) : tp f ^^^ tp g = tp (fun i => f i ^^^ g i) := by
  unfold tp
  rw [zd_xor (hf 0 (by decide)) (hg 0 (by decide)), zd_xor (hf 1 (by decide)) (hg 1 (by decide)), zd_xor (hf 2 (by decide)) (hg 2 (by decide)), zd_xor (hf 3 (by decide)) (hg 3 (by decide))]
theorem tp_or {f g : Nat → Nat} (hf : tp_ok f) (hg : tp_ok g) : tp f ||| tp g = tp (fun i => f i ||| g i) := by
  unfold tp
  rw [zd_or (hf 0 (by decide)) (hg 0 (by decide)), zd_or (hf 1 (by decide)) (hg 1 (by decide)), zd_or (hf 2 (by decide)) (hg 2 (by decide)), zd_or (hf 3 (by decide)) (hg 3 (by decide))]
theorem tp_and2 {f g : Nat → Nat} (hf : tp_ok f) (hg : tp_ok g) : tp f &&& tp g = tp (fun i => f i &&& g i) := by
  unfold tp
  rw [zd_and (hf 0 (by decide)) (hg 0 (by decide)), zd_and (hf 1 (by decide)) (hg 1 (by decide)), zd_and (hf 2 (by decide)) (hg 2 (by decide)), zd_and (hf 3 (by decide)) (hg 3 (by decide))]
def tp_up (f : Nat → Nat) (p v : Nat) : Nat → Nat := fun i => if i = p then v else f i
theorem tp_up_ok {f : Nat → Nat} {p v : Nat} (hf : tp_ok f) (hv : v < 8) : tp_ok (tp_up f p v) := by
  intro i hi
  unfold tp_up
  split
  · exact hv
  · exact hf i hi
/-- the note at a place -/
theorem tp_note {f : Nat → Nat} {p : Nat} (hf : tp_ok f) (hp : p < 5) : mm_and (mm_shr (tp f : Nat) (3 * (p : Int))) 7 = (f p : Int) := by
  have hl := tp_lt hf
  have e : (3 * (p : Int)) = ((3 * p : Nat) : Int) := by omega
  rw [e, zm_shr (by omega) (by omega)]
  have e2 : (7 : Int) = ((7 : Nat) : Int) := rfl
  rw [e2, zm_and (by have := Nat.div_le_self (tp f) (2 ^ (3 * p)); omega)]
  have a0 := hf 0 (by decide); have a1 := hf 1 (by decide); have a2 := hf 2 (by decide); have a3 := hf 3 (by decide); have a4 := hf 4 (by decide)
  rw [show (7 : Nat) = 2 ^ 3 - 1 by decide, Nat.and_two_pow_sub_one_eq_mod]
  congr 1
  unfold tp
  match p, hp with
  | 0, _ => show _ / 1 % 8 = _; omega
  | 1, _ => show _ / 8 % 8 = _; omega
  | 2, _ => show _ / 64 % 8 = _; omega
  | 3, _ => show _ / 512 % 8 = _; omega
  | 4, _ => show _ / 4096 % 8 = _; omega
theorem zm_mask {a m : Nat} (ha : a < 32768) (hm : m < 32768) : mm_and (a : Int) (mm_xor (m : Int) (-1)) = ((a &&& (32767 ^^^ m) : Nat) : Int) := by
  have e : Int32.ofInt (mm_xor (m : Int) (-1)) = nI m ^^^ (-1) := by rw [mm_xor_eq, zi_of]; rfl
  unfold mm_and
  rw [e, zi_of]
  have e2 : nI a &&& (nI m ^^^ (-1)) = nI (a &&& (32767 ^^^ m)) := by
    apply Int32.toBitVec_inj.1
    show BitVec.ofNat 32 a &&& (BitVec.ofNat 32 m ^^^ BitVec.allOnes 32) = BitVec.ofNat 32 (a &&& (32767 ^^^ m))
    apply BitVec.eq_of_getLsbD_eq
    intro i hi
    simp only [BitVec.getLsbD_and, BitVec.getLsbD_xor, BitVec.getLsbD_ofNat, BitVec.getLsbD_allOnes, hi, decide_true, Bool.true_and, Nat.testBit_and, Nat.testBit_xor]
    by_cases h15 : i < 15
    · have : (32767 : Nat).testBit i = true := by
        have := Nat.testBit_two_pow_sub_one 15 i
        simp [h15] at this
        exact this
      rw [this]
      cases m.testBit i <;> simp
    · have : a.testBit i = false := Nat.testBit_lt_two_pow (Nat.lt_of_lt_of_le (show a < 2 ^ 15 from ha) (Nat.pow_le_pow_right (show 0 < 2 by decide) (Nat.not_lt.mp h15)))
      simp [this]
  rw [e2, nI_toInt (Nat.lt_of_le_of_lt Nat.and_le_left (by omega))]
theorem tp_zero_at {f : Nat → Nat} {p : Nat} (hf : tp_ok f) (hp : p < 5) : tp f &&& (32767 ^^^ (7 * 8 ^ p)) = tp (tp_up f p 0) := by
  have e : 32767 ^^^ (7 * 8 ^ p) = tp (tp_up (fun _ => 7) p 0) := by
    match p, hp with
    | 0, _ => decide
    | 1, _ => decide
    | 2, _ => decide
    | 3, _ => decide
    | 4, _ => decide
  rw [e, tp_and2 hf (tp_up_ok (fun _ _ => by decide) (by decide))]
  apply tp_congr
  intro i hi
  unfold tp_up
  split
  · simp
  · have h7 := hf i hi
    rw [show (7 : Nat) = 2 ^ 3 - 1 by decide, Nat.and_two_pow_sub_one_eq_mod]
    exact Nat.mod_eq_of_lt h7
theorem tp_or_at {f : Nat → Nat} {p v : Nat} (hf : tp_ok f) (hp : p < 5) (hv : v < 8) : tp (tp_up f p 0) ||| (v * 8 ^ p) = tp (tp_up f p v) := by
  have e : v * 8 ^ p = tp (tp_up (fun _ => 0) p v) := by
    match p, hp with
    | 0, _ => simp [tp, tp_up]
    | 1, _ => simp [tp, tp_up]; omega
    | 2, _ => simp [tp, tp_up]; omega
    | 3, _ => simp [tp, tp_up]; omega
    | 4, _ => simp [tp, tp_up]; omega
  rw [e, tp_or (tp_up_ok hf (by decide)) (tp_up_ok (fun _ _ => by decide) hv)]
  apply tp_congr
  intro i hi
  unfold tp_up
  split
  · simp
  · simp
/-- a tune with another note at a place -/
theorem tp_with {f : Nat → Nat} {p v : Nat} (hf : tp_ok f) (hp : p < 5) (hv : v < 8) : mm_or (mm_and (tp f : Nat) (mm_xor (mm_shl 7 (3 * (p : Int))) (-1))) (mm_shl (v : Int) (3 * (p : Int))) = (tp (tp_up f p v) : Nat) := by
  have e : (3 * (p : Int)) = ((3 * p : Nat) : Int) := by omega
  have e8 : (2 : Nat) ^ (3 * p) = 8 ^ p := by rw [Nat.pow_mul]
  have hp8 : 8 ^ p ≤ 4096 := by
    match p, hp with
    | 0, _ => decide
    | 1, _ => decide
    | 2, _ => decide
    | 3, _ => decide
    | 4, _ => decide
  have e7 : (7 : Int) = ((7 : Nat) : Int) := rfl
  have hv8 : v * 8 ^ p ≤ 7 * 4096 := Nat.mul_le_mul (by omega) hp8
  rw [e, e7, zm_shl (by omega) (by rw [e8]; omega), zm_shl (by omega) (by rw [e8]; omega), e8, zm_mask (tp_lt hf) (by omega), tp_zero_at hf hp]
  have hl := tp_lt (tp_up_ok hf (p := p) (v := 0) (by decide))
  rw [zm_or (by omega) (by omega), tp_or_at hf hp hv]
theorem zl_low2 {x : Nat} (h : x < 32768) : (((x ||| x / 2) ||| x / 4) &&& 4681) = ze (x % 8 != 0) + 8 * (ze (x / 8 % 8 != 0) + 8 * (ze (x / 64 % 8 != 0) + 8 * (ze (x / 512 % 8 != 0) + 8 * ze (x / 4096 % 8 != 0)))) := by
  have h1 := List.all_eq_true.mp (List.all_eq_true.mp zl_low (x % 256) (List.mem_range.mpr (by omega))) (x / 256) (List.mem_range.mpr (by omega))
  have e : x % 256 + 256 * (x / 256) = x := by omega
  rw [e] at h1
  exact eq_of_beq h1
/-- in how many notes two tunes differ -/
def tp_df (f g : Nat → Nat) : Nat := ze (f 0 != g 0) + ze (f 1 != g 1) + ze (f 2 != g 2) + ze (f 3 != g 3) + ze (f 4 != g 4)
theorem zx_ne {a b : Nat} (ha : a < 8) (hb : b < 8) : ((a ^^^ b) != 0) = (a != b) := by
  have h : ∀ a, a < 8 → ∀ b, b < 8 → ((a ^^^ b) != 0) = (a != b) := by decide
  exact h a ha b hb
theorem tp_unl {f g : Nat → Nat} (hf : tp_ok f) (hg : tp_ok g) : mm_and (mm_or (mm_or (mm_xor (tp f : Nat) (tp g : Nat)) (mm_shr (mm_xor (tp f : Nat) (tp g : Nat)) 1)) (mm_shr (mm_xor (tp f : Nat) (tp g : Nat)) 2)) 4681 = ((ze (f 0 != g 0) + 8 * (ze (f 1 != g 1) + 8 * (ze (f 2 != g 2) + 8 * (ze (f 3 != g 3) + 8 * ze (f 4 != g 4)))) : Nat) : Int) := by
  have hlf := tp_lt hf
  have hlg := tp_lt hg
  rw [zm_xor (by omega) (by omega), tp_xor hf hg]
  have hx : tp_ok (fun i => f i ^^^ g i) := fun i hi => Nat.xor_lt_two_pow (n := 3) (hf i hi) (hg i hi)
  have hlx := tp_lt hx
  have e1 : (1 : Int) = ((1 : Nat) : Int) := rfl
  have e2 : (2 : Int) = ((2 : Nat) : Int) := rfl
  have e3 : (4681 : Int) = ((4681 : Nat) : Int) := rfl
  rw [e1, e2, e3, zm_shr (by omega) (by omega), zm_shr (by omega) (by omega)]
  have d1 := Nat.div_le_self (tp fun i => f i ^^^ g i) (2 ^ 1)
  have d2 := Nat.div_le_self (tp fun i => f i ^^^ g i) (2 ^ 2)
  have o1 : (tp fun i => f i ^^^ g i) ||| (tp fun i => f i ^^^ g i) / 2 ^ 1 < 2 ^ 15 := Nat.or_lt_two_pow hlx (by omega)
  rw [zm_or (by omega) (by omega), zm_or (by omega) (by omega), zm_and (by
    have : (tp fun i => f i ^^^ g i) ||| (tp fun i => f i ^^^ g i) / 2 ^ 1 ||| (tp fun i => f i ^^^ g i) / 2 ^ 2 < 2 ^ 15 := Nat.or_lt_two_pow o1 (by omega)
    omega)]
  congr 1
  show (((tp fun i => f i ^^^ g i) ||| (tp fun i => f i ^^^ g i) / 2 ||| (tp fun i => f i ^^^ g i) / 4) &&& 4681) = _
  rw [zl_low2 hlx]
  obtain ⟨q0, q1, q2, q3, q4⟩ := tp_dig hx
  rw [q0, q1, q2, q3, q4, zx_ne (hf 0 (by decide)) (hg 0 (by decide)), zx_ne (hf 1 (by decide)) (hg 1 (by decide)), zx_ne (hf 2 (by decide)) (hg 2 (by decide)), zx_ne (hf 3 (by decide)) (hg 3 (by decide)), zx_ne (hf 4 (by decide)) (hg 4 (by decide))]
