/-! likely, lost: the reference -/
def pwV (α : mm_Mem) (dd t : Nat) (L : Int) (miss : Bool) : Nat → Nat → Int → Int → Bool → Bool → mm_ES → Int
  | 0, _, _, wt, l, o, _ => if (if miss = true then o else l) = true then wt else 0
  | n + 1, way, c, wt, _, o, S => pwV α dd t L miss n (way / 2) (min (min (c + ((way % 2 : Nat) : Int)) 1000 + 1) 1000) (wt * prA L ((way % 2 : Nat) : Int) / 100) (oS α dd t (c + ((way % 2 : Nat) : Int)) S).1 (o || !(oS α dd t (c + ((way % 2 : Nat) : Int)) S).1) (oS α dd t (c + ((way % 2 : Nat) : Int)) S).2
def swV (α : mm_Mem) (dd t : Nat) (L : Int) (miss : Bool) (n : Nat) (c wt : Int) (l o : Bool) (S : mm_ES) : Nat → Int
  | 0 => 0
  | j + 1 => swV α dd t L miss n c wt l o S j + pwV α dd t L miss n j c wt l o S
def tbV (α : mm_Mem) (dd t : Nat) (L : Int) (g : Int → Int → Bool → Bool → mm_ES → Int) (c wt : Int) (o : Bool) (S : mm_ES) (x : Int) : Int := g (min (min (c + x) 1000 + 1) 1000) (wt * prA L x / 100) (oS α dd t (c + x) S).1 (o || !(oS α dd t (c + x) S).1) (oS α dd t (c + x) S).2
def trV (α : mm_Mem) (dd t : Nat) (L : Int) (miss : Bool) : Nat → Int → Int → Bool → Bool → mm_ES → Int
  | 0, _, wt, l, o, _ => if (if miss = true then o else l) = true then wt else 0
  | n + 1, c, wt, _, o, S => tbV α dd t L (trV α dd t L miss n) c wt o S 0 + tbV α dd t L (trV α dd t L miss n) c wt o S 1
theorem swV_2 {α : mm_Mem} {dd t : Nat} {L : Int} {miss : Bool} {n : Nat} {c wt : Int} {l o : Bool} {S : mm_ES} : ∀ j, swV α dd t L miss (n + 1) c wt l o S (2 * j) = tbV α dd t L (fun c wt l o S => swV α dd t L miss n c wt l o S j) c wt o S 0 + tbV α dd t L (fun c wt l o S => swV α dd t L miss n c wt l o S j) c wt o S 1
  | 0 => rfl
  | j + 1 => by
    rw [show 2 * (j + 1) = 2 * j + 1 + 1 by omega, swV, swV, swV_2 j]
    unfold tbV
    dsimp only
    rw [swV, swV]
    have e0 : (2 * j) % 2 = 0 := by omega
    have e1 : (2 * j) / 2 = j := by omega
    have e2 : (2 * j + 1) % 2 = 1 := by omega
    have e3 : (2 * j + 1) / 2 = j := by omega
    have p0 : pwV α dd t L miss (n + 1) (2 * j) c wt l o S = pwV α dd t L miss n j (min (min (c + 0) 1000 + 1) 1000) (wt * prA L 0 / 100) (oS α dd t (c + 0) S).1 (o || !(oS α dd t (c + 0) S).1) (oS α dd t (c + 0) S).2 := by
      rw [pwV, e0, e1]; rfl
    have p1 : pwV α dd t L miss (n + 1) (2 * j + 1) c wt l o S = pwV α dd t L miss n j (min (min (c + 1) 1000 + 1) 1000) (wt * prA L 1 / 100) (oS α dd t (c + 1) S).1 (o || !(oS α dd t (c + 1) S).1) (oS α dd t (c + 1) S).2 := by
      rw [pwV, e2, e3]; rfl
    rw [p0, p1]
    omega
theorem swV_tr {α : mm_Mem} {dd t : Nat} {L : Int} {miss : Bool} : ∀ (n : Nat) (c wt : Int) (l o : Bool) (S : mm_ES), swV α dd t L miss n c wt l o S (2 ^ n) = trV α dd t L miss n c wt l o S
  | 0, c, wt, l, o, S => by
    rw [show 2 ^ 0 = 0 + 1 from rfl, swV, swV, pwV, trV, Int.zero_add]
  | n + 1, c, wt, l, o, S => by
    have e : (fun c wt l o S => swV α dd t L miss n c wt l o S (2 ^ n)) = trV α dd t L miss n := by
      funext c wt l o S
      exact swV_tr n c wt l o S
    rw [show 2 ^ (n + 1) = 2 * 2 ^ n by omega, swV_2, e, trV]
theorem trV_0 {α : mm_Mem} {dd t : Nat} {L : Int} {miss : Bool} : ∀ (n : Nat) (c : Int) (l o : Bool) (S : mm_ES), trV α dd t L miss n c 0 l o S = 0
  | 0, c, l, o, S => by rw [trV, ite_self]
  | n + 1, c, l, o, S => by
    rw [trV]
    unfold tbV
    rw [Int.zero_mul, Int.zero_mul, show (0 : Int) / 100 = 0 from rfl, trV_0 n, trV_0 n]
    rfl
theorem wk_tr {α : mm_Mem} {dd t : Nat} {L : Int} {miss : Bool} (hL : 0 ≤ L ∧ L ≤ 100) : ∀ (n : Nat) (c wt : Int) (l o o' : Bool) (S : mm_ES), 0 ≤ wt ∧ wt ≤ 1000000000 → (miss = true → o' = o) → (n = 0 → miss = false → o' = !l) → wkV α dd t L miss n c wt o' S = trV α dd t L miss n c wt l o S
  | 0, c, wt, l, o, o', S, hw, h1, h2 => by
    rw [wkV, trV]
    cases miss
    · rw [h2 rfl rfl]
      cases l <;> rfl
    · rw [h1 rfl]
      cases o <;> rfl
  | n + 1, c, wt, l, o, o', S, hw, h1, h2 => by
    have br : ∀ x : Int, wkN α dd t L miss (wkV α dd t L miss n) c wt o' S x = tbV α dd t L (trV α dd t L miss n) c wt o S x := by
      intro x
      have sr := sh_r (x := x) hL hw
      unfold wkN tbV
      by_cases z : wt * prA L x / 100 ≤ 0
      · rw [if_pos z, show wt * prA L x / 100 = 0 by omega, trV_0]
      · rw [if_neg z]
        have e1 : min (min (c + x) 1000 + 1) 1000 = min (c + x + 1) 1000 := by omega
        rw [e1]
        refine wk_tr hL n _ _ _ _ _ _ (by omega) (fun hm => ?_) (fun _ hm => ?_)
        · rw [hm, h1 hm]
          cases (oS α dd t (c + x) S).1 <;> cases o <;> rfl
        · rw [hm]
          cases (oS α dd t (c + x) S).1 <;> rfl
    rw [wkV, trV, br, br]
theorem like_eq {α : mm_Mem} {dd t n : Nat} {L c : Int} {miss : Bool} {S : mm_ES} (hL : 0 ≤ L ∧ L ≤ 100) (hn : n ≠ 0) : swV α dd t L miss n c 1000000000 false false S (2 ^ n) = wkV α dd t L miss n c 1000000000 false S := by
  rw [swV_tr, wk_tr hL n c 1000000000 false false false S (by omega) (fun _ => rfl) (fun h => absurd h hn)]
section MWays
variable {E : mm_Env} {d k h b : Nat} {α τ : mm_Mem} {Q : mm_Q0}
theorem oS_min {dd t : Nat} {c : Int} {S : mm_ES} (hc : 0 ≤ c) : oS α dd t (min c 1000) S = oS α dd t c S := by
  by_cases q : c < 1000
  · rw [show min c 1000 = c by omega]
  · unfold oS; rw [if_neg (by omega), if_neg (by omega)]
theorem m_way44 {p n way : Nat} {miss : Bool} {acc : Int} (w : WF k α) (p1 : (p : Int) < α 0 7) (hn : n ≤ 8) (hway : way < 256) : ∀ (m i : Nat) (c wt : Int) (l o : Bool) (S : mm_ES) (τ : mm_Mem), i + m = n → RepM b (stE α p c (α 8 p).toNat S) τ → bS S → kpA α τ → 0 ≤ c ∧ c ≤ 1000 → 0 ≤ wt ∧ wt ≤ 1000000000 → (∀ τ', RepM b α τ' → kpA α τ' → FrM τ τ' → V0 E (d + 7) qX11_waysOf 22 [some (vR 140), some (vI (p : Int)), some (vI (n : Int)), some (vB miss), some (vL (acc + pwV α (α 8 p).toNat (α 9 p).toNat (α 10 p) miss m (way / 2 ^ i) c wt l o S)), none, some (vI (α 10 p)), some (vI ((way : Int) + 1)), none, none, none, none, none, none] [] τ' Q) → V0 E (d + 7) qX11_waysOf 44 [some (vR 140), some (vI (p : Int)), some (vI (n : Int)), some (vB miss), some (vL acc), none, some (vI (α 10 p)), some (vI (way : Int)), some (vL wt), none, some (vI (bI l)), some (vI (bI o)), some (vI (i : Int)), none] [] τ Q
  | 0, i, c, wt, l, o, S, τ, hi, H, hS, K, hc, hwt, k1 => by
    have rr : ∀ (c : Int) (S : mm_ES) (j : Nat), j ≠ 12 → j ≠ 15 → j ≠ 16 → j ≠ 17 → stE α p c (α 8 p).toNat S j = α j := fun c S j j1 j2 j3 j4 => stE_o j1 (by omega)
    have bk : ∀ v : Int, v = pwV α (α 8 p).toNat (α 9 p).toNat (α 10 p) miss 0 (way / 2 ^ i) c wt l o S → M0 E (d + 6) qX11_back [vR 140] τ (fun u τ4 => u = none ∧ V0 E (d + 7) qX11_waysOf 22 [some (vR 140), some (vI (p : Int)), some (vI (n : Int)), some (vB miss), some (vL (acc + v)), none, some (vI (α 10 p)), some (vI ((way : Int) + 1)), none, none, none, none, none, none] [] τ4 Q) := by
      intro v hv
      refine m_back H (rr _ _) K (fun τ' F' H' K' => ⟨rfl, ?_⟩)
      rw [hv]
      exact k1 τ' H' K' (fun o ho => F' o (by omega) (by omega) (by omega) (by omega))
    have bi : ∀ x : Bool, inR (bI x) := fun x => by cases x <;> exact ⟨by decide, by decide⟩
    refine bX11_waysOf_44 ⟨⟨by omega, by omega⟩, ⟨by omega, by omega⟩, fun _ => ⟨fun q => ⟨bi _, fun q2 => bk 0 ?_, fun q2 => bk wt ?_⟩, fun q => ⟨bi _, fun q2 => bk 0 ?_, fun q2 => bk wt ?_⟩⟩, fun q => by omega⟩
    · rw [pwV, q]; cases l; rfl; exact absurd q2 (by decide)
    · rw [pwV, q]; cases l; exact absurd rfl q2; rfl
    · rw [pwV, q]; cases o; rfl; exact absurd q2 (by decide)
    · rw [pwV, q]; cases o; exact absurd rfl q2; rfl
  | m + 1, i, c, wt, l, o, S, τ, hi, H, hS, K, hc, hwt, k1 => by
    have hw := w.le
    have wp := w.2.2.2.1 p p1
    have hL : 0 ≤ α 10 p ∧ α 10 p ≤ 100 := by omega
    have en : ((i : Int) + 1) = ((i + 1 : Nat) : Int) := by omega
    have eb : mm_and (mm_shr (way : Int) (i : Int)) 1 = ((way / 2 ^ i % 2 : Nat) : Int) := by
      have h1 : way < 2 ^ 31 := by omega
      have h2 : way / 2 ^ i < 2 ^ 31 := Nat.lt_of_le_of_lt (Nat.div_le_self _ _) h1
      rw [zm_shr h1 (by omega), show (1 : Int) = ((1 : Nat) : Int) from rfl, zm_and h2, Nat.and_one_is_mod]
    have cc := (H.cnt (p := (p : Int)) (by omega) (by omega)).1
    rw [Int.toNat_natCast, stE_12] at cc
    -- with this count and weight
    have go : ∀ (x y0 : Int) (b2 : Nat), way / 2 ^ i % 2 = b2 → (b2 : Int) = x → y0 = (if x = 1 ∧ c < 1000 then 1 else 0) → V0 E (d + 7) qX11_waysOf 122 [some (vR 140), some (vI (p : Int)), some (vI (n : Int)), some (vB miss), some (vL acc), none, some (vI (α 10 p)), some (vI (way : Int)), some (vL (wt * prA (α 10 p) x / 100)), none, none, some (vI (bI o)), some (vI (i : Int)), none] [vI y0, vI c, vI (p : Int), vR 179] τ Q := by
      intro x y0 b2 eb2 ex ey
      have hx : x = 0 ∨ x = 1 := by omega
      have ec : c + y0 = min (c + x) 1000 := by
        rw [ey]
        split <;> omega
      have sr := sh_r (x := x) hL hwt
      have H1 : RepM b (stE α p (min (c + x) 1000) (α 8 p).toNat S) (wr τ 179 p (c + y0)) := by
        rw [ec]
        have := H.cnt1 (p := p) (v := min (c + x) 1000)
        have e : wr (stE α p c (α 8 p).toNat S) 12 p (min (c + x) 1000) = stE α p (min (c + x) 1000) (α 8 p).toNat S := by
          funext u y
          by_cases e : u = 12
          · subst e
            by_cases z : y = p
            · subst z; rw [wr_same, stE_12]
            · rw [wr_row z]; unfold stE; rw [setE_o (by omega), setE_o (by omega), wr_row z, wr_row z]
          · rw [wr_obj e]; unfold stE setE; rw [wr_obj e, wr_obj e]
        rw [e] at this; exact this
      have sp : way / 2 ^ i / 2 = way / 2 ^ (i + 1) := by rw [Nat.pow_succ, Nat.div_div_eq_div_mul]
      refine bX11_waysOf_122 ⟨by omega, by omega, ⟨by omega, by omega⟩, ?_⟩
      rw [Int.toNat_natCast]
      refine m_isLetIn w H1 p1 (by omega) hS (fun τ2 H2 F2 => ?_)
      have K2 : kpA α τ2 := ⟨fun p hp => by rw [F2 189 (by omega) (by omega) (by omega) (by omega) (by omega) (by omega), wr_obj (by omega)]; exact K.1 p hp, fun e he => by rw [F2 190 (by omega) (by omega) (by omega) (by omega) (by omega) (by omega), F2 191 (by omega) (by omega) (by omega) (by omega) (by omega) (by omega), F2 192 (by omega) (by omega) (by omega) (by omega) (by omega) (by omega), wr_obj (by omega), wr_obj (by omega), wr_obj (by omega)]; exact K.2 e he⟩
      have FF : FrM τ τ2 := fun o ho => by rw [F2 o (by omega) (by omega) (by omega) (by omega) (by omega) (by omega), wr_obj (by omega)]
      have ecount : (if min (c + x) 1000 < 1000 then min (c + x) 1000 + 1 else min (c + x) 1000) = min (min (c + x) 1000 + 1) 1000 := by split <;> omega
      rw [ecount] at H2
      rw [oS_min (by omega)] at H2 ⊢
      have nx : ∀ oo : Bool, oo = (o || !(oS α (α 8 p).toNat (α 9 p).toNat (c + x) S).1) → V0 E (d + 7) qX11_waysOf 44 [some (vR 140), some (vI (p : Int)), some (vI (n : Int)), some (vB miss), some (vL acc), none, some (vI (α 10 p)), some (vI (way : Int)), some (vL (wt * prA (α 10 p) x / 100)), none, some (vI (bI (oS α (α 8 p).toNat (α 9 p).toNat (c + x) S).1)), some (vI (bI oo)), some (vI ((i : Int) + 1)), none] [] τ2 Q := by
        intro oo eoo
        rw [en]
        refine m_way44 w p1 hn hway m (i + 1) _ _ _ oo _ τ2 (by omega) H2 (bS_o w (by omega) hS) K2 (by omega) (by omega) (fun τ3 H3 K3 F3 => ?_)
        have := k1 τ3 H3 K3 (FF.tr F3)
        rw [pwV, eb2, ex, sp] at this
        rw [eoo]; exact this
      refine ⟨_, rfl, ⟨by cases o <;> decide, by cases o <;> decide⟩, fun q => nx true ?_, fun q => ⟨fun q2 => nx false ?_, fun q2 => nx true ?_⟩⟩
      · cases o; exact absurd rfl q; rfl
      · rw [q2]; cases o; rfl; exact absurd q (by decide)
      · rw [q2]; cases o <;> rfl
    have dv : ∀ x : Int, Int.tdiv (wt * prA (α 10 p) x) 100 = wt * prA (α 10 p) x / 100 := fun x => Int.tdiv_eq_ediv_of_nonneg (sh_r (x := x) hL hwt).1
    refine bX11_waysOf_44 ⟨⟨by omega, by omega⟩, ⟨by omega, by omega⟩, fun q => by omega, fun _ => ?_⟩
    rw [eb]
    have b01 : way / 2 ^ i % 2 = 0 ∨ way / 2 ^ i % 2 = 1 := by omega
    refine ⟨⟨by omega, by omega⟩, fun q => ?_, fun q => ?_⟩
    · have s0 := sh_r (x := 0) hL hwt
      have e0 : prA (α 10 p) 0 = 100 - α 10 p := rfl
      have d0 := dv 0
      have g0 := go 0 0 0 (by omega) (by omega) rfl
      rw [e0] at s0 d0 g0
      refine bX11_waysOf_66 ⟨⟨by decide, by decide⟩, fun _ => ⟨⟨by omega, by omega⟩, ⟨by omega, by omega⟩, by omega, by omega, ?_⟩, fun z => absurd rfl z⟩
      rw [Int.toNat_natCast, cc, d0]
      exact ⟨fun _ => g0, fun z => absurd rfl z⟩
    · have s0 := sh_r (x := 1) hL hwt
      have e0 : prA (α 10 p) 1 = α 10 p := rfl
      have d0 := dv 1
      rw [e0] at s0 d0
      refine bX11_waysOf_66 ⟨⟨by decide, by decide⟩, fun z => absurd z (by decide), fun _ => ⟨⟨by omega, by omega⟩, ⟨by omega, by omega⟩, by omega, by omega, ?_⟩⟩
      rw [Int.toNat_natCast, cc, d0]
      refine ⟨fun z => absurd z (by decide), fun _ => ⟨by omega, by omega, fun z => ?_, fun z => ?_⟩⟩
      · have g0 := go 1 0 1 (by omega) rfl (by rw [if_neg (by omega)])
        rw [e0] at g0; exact g0
      · have g0 := go 1 1 1 (by omega) rfl (by rw [if_pos (by omega)])
        rw [e0] at g0; exact g0
theorem m_way22 {p n : Nat} {miss : Bool} (w : WF k α) (p1 : (p : Int) < α 0 7) (hn : n ≤ 8) : ∀ (m way : Nat) (τ : mm_Mem), way + m = 2 ^ n → RepM b α τ → kpA α τ → (∀ τ', RepM b α τ' → FrM τ τ' → Q (some (vL (swV α (α 8 p).toNat (α 9 p).toNat (α 10 p) miss n (α 12 p) 1000000000 false false (eS0 α (α 8 p).toNat) (2 ^ n)))) τ') → V0 E (d + 7) qX11_waysOf 22 [some (vR 140), some (vI (p : Int)), some (vI (n : Int)), some (vB miss), some (vL (swV α (α 8 p).toNat (α 9 p).toNat (α 10 p) miss n (α 12 p) 1000000000 false false (eS0 α (α 8 p).toNat) way)), none, some (vI (α 10 p)), some (vI (way : Int)), none, none, none, none, none, none] [] τ Q := by
  have p2 : 2 ^ n ≤ 256 := Nat.pow_le_pow_right (n := 2) (by omega) hn
  have es : mm_shl 1 (n : Int) = ((2 ^ n : Nat) : Int) := by
    have := zm_shl (a := 1) (k := n) (by omega) (by omega)
    rw [Nat.one_mul] at this
    exact this
  have wp := w.2.2.2.1 p p1
  intro m
  induction m with
  | zero =>
    intro way τ hm H K k1
    refine bX11_waysOf_22 ?_
    rw [es]
    refine ⟨⟨by omega, by omega⟩, ⟨by omega, by omega⟩, fun _ => ?_, fun q => by omega⟩
    rw [show way = 2 ^ n by omega]; exact k1 τ H FrM.rf
  | succ m ih =>
    intro way τ hm H K k1
    have en : ((way : Int) + 1) = ((way + 1 : Nat) : Int) := by omega
    refine bX11_waysOf_22 ?_
    rw [es]
    refine ⟨⟨by omega, by omega⟩, ⟨by omega, by omega⟩, fun q => by omega, fun _ => ?_⟩
    refine m_way44 (way := way) w p1 hn (by omega) n 0 (α 12 p) 1000000000 false false (eS0 α (α 8 p).toNat) τ (by omega) (by rw [stE_0]; exact H) (bS_0 w) K (by omega) (by omega) (fun τ1 H1 K1 F1 => ?_)
    rw [Nat.pow_zero, Nat.div_one, en]
    exact ih (way + 1) τ1 (by omega) H1 K1 (fun τ2 H2 F2 => k1 τ2 H2 (F1.tr F2))
theorem m_waysOf {p n : Nat} {miss : Bool} (w : WF k α) (H : RepM b α τ) (p1 : (p : Int) < α 0 7) (hn : 1 ≤ n ∧ n ≤ 8) (k1 : ∀ τ', RepM b α τ' → FrM τ τ' → Q (some (vL (wkV α (α 8 p).toNat (α 9 p).toNat (α 10 p) miss n (α 12 p) 1000000000 false (eS0 α (α 8 p).toNat)))) τ') : M0 E (d + 7) qX11_waysOf [vR 140, vI (p : Int), vI (n : Int), vB miss] τ Q := by
  have hw := w.le
  have hb := H.bk
  have wp := w.2.2.2.1 p p1
  have q3 := (H.pers (p := (p : Int)) (by omega) p1).2.2.1
  rw [Int.toNat_natCast] at q3
  refine mX11_waysOf (m_person4 H ⟨_, rfl, by omega, by omega, ?_⟩)
  rw [q3]
  refine m_keeps H (fun τ1 F1 H1 K1 => ⟨rfl, ?_⟩)
  refine m_way22 w p1 hn.2 (2 ^ n) 0 τ1 (by omega) H1 K1 (fun τ2 H2 F2 => ?_)
  rw [like_eq (by omega) (by omega)]
  exact k1 τ2 H2 (fun o ho => by rw [F2 o ho, F1 o (by omega)])
theorem m_like {a n : Int} {miss : Bool} (w : WF k α) (H : RepM b α τ) (ha : inR a) (hn : inR n) (k1 : ∀ τ', RepM b α τ' → FrM τ τ' → Q (some (vL (likeR α a n miss))) τ') : M0 E (d + 7) qX11_isPerson [vR 140, vI a] τ (fun v τ1 => ∃ b2 : Bool, v = some (vB b2) ∧ ((b2 = false → Q (some (vL (-1))) τ1) ∧ (b2 = true → M0 E (d + 7) qX11_is [vI n, vI 1, vI 8] τ1 (fun v τ3 => ∃ b4 : Bool, v = some (vB b4) ∧ ((b4 = false → Q (some (vL (-1))) τ3) ∧ (b4 = true → M0 E (d + 7) qX11_waysOf [vR 140, vI a, vI n, vB miss] τ3 (fun v τ5 => ∃ r6 : Int, v = some (vL r6) ∧ Q (some (vL r6)) τ5))))))) := by
  unfold likeR at k1
  have no : ¬ ((0 ≤ a ∧ a < α 0 7) ∧ 1 ≤ n ∧ n ≤ 8) → Q (some (vL (-1))) τ := fun z => by
    rw [if_neg z] at k1; exact k1 τ H FrM.rf
  refine m_isPerson w H ha ⟨_, rfl, fun q => no (fun z => of_decide_eq_false q z.1), fun q => m_is hn ⟨by decide, by decide⟩ ⟨by decide, by decide⟩ ⟨_, rfl, fun q2 => no (fun z => of_decide_eq_false q2 z.2), fun q2 => ?_⟩⟩
  have q := of_decide_eq_true q
  have q2 := of_decide_eq_true q2
  rw [if_pos ⟨q, q2⟩] at k1
  have l := m_waysOf (E := E) (d := d) (b := b) (p := a.toNat) (n := n.toNat) (miss := miss) (Q := fun v τ5 => ∃ r6 : Int, v = some (vL r6) ∧ Q (some (vL r6)) τ5) w H (by omega) (by omega) (fun τ' H' F' => ⟨_, rfl, k1 τ' H' F'⟩)
  rw [show ((a.toNat : Nat) : Int) = a by omega, show ((n.toNat : Nat) : Int) = n by omega] at l
  exact l
theorem m_likely {a n : Int} (w : WF k α) (H : RepM b α τ) (ha : inR a) (hn : inR n) (k1 : ∀ τ', RepM b α τ' → FrM τ τ' → Q (some (vL (likeR α a n false))) τ') : M0 E (d + 8) qX11_likely [vR 140, vI a, vI n] τ Q := mX11_likely (m_like w H ha hn k1)
theorem m_lost {a n : Int} (w : WF k α) (H : RepM b α τ) (ha : inR a) (hn : inR n) (k1 : ∀ τ', RepM b α τ' → FrM τ τ' → Q (some (vL (likeR α a n true))) τ') : M0 E (d + 8) qX11_lost [vR 140, vI a, vI n] τ Q := mX11_lost (m_like w H ha hn k1)
end MWays
