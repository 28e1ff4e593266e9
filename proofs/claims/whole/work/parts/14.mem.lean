theorem mm_in0 : ∀ w ∈ u_ws RX0 TX0 11, w ∈ mm_T := by
  have h : u_ws RX0 TX0 11 = [110, 112, 114, 116, 118, 120, 122, 124, 126, 128, 130].filterMap (fun i => tables_1[i]?) := by decide +kernel
  have hg : (u_ws RX0 TX0 11).all mm_gw = true := by decide +kernel
  intro w hw
  have h1 := List.all_eq_true.mp hg w hw
  rw [h] at hw
  obtain ⟨i, -, hi⟩ := List.mem_filterMap.mp hw
  exact mm_T_in (List.mem_append_right _ (List.mem_of_getElem? hi)) h1
theorem mm_in1 : ∀ w ∈ u_ws RX1 TX1 4, w ∈ mm_T := by
  have h : u_ws RX1 TX1 4 = [449, 451, 453, 455].filterMap (fun i => tables_1[i]?) := by decide +kernel
  have hg : (u_ws RX1 TX1 4).all mm_gw = true := by decide +kernel
  intro w hw
  have h1 := List.all_eq_true.mp hg w hw
  rw [h] at hw
  obtain ⟨i, -, hi⟩ := List.mem_filterMap.mp hw
  exact mm_T_in (List.mem_append_right _ (List.mem_of_getElem? hi)) h1
theorem mm_in2 : ∀ w ∈ u_ws RX2 TX2 13, w ∈ mm_T := by
  have h : u_ws RX2 TX2 13 = [218, 220, 222, 224, 226, 228, 230, 232, 234, 236, 238, 240, 242].filterMap (fun i => tables_1[i]?) := by decide +kernel
  have hg : (u_ws RX2 TX2 13).all mm_gw = true := by decide +kernel
  intro w hw
  have h1 := List.all_eq_true.mp hg w hw
  rw [h] at hw
  obtain ⟨i, -, hi⟩ := List.mem_filterMap.mp hw
  exact mm_T_in (List.mem_append_right _ (List.mem_of_getElem? hi)) h1
theorem mm_in3 : ∀ w ∈ u_ws RX3 TX3 8, w ∈ mm_T := by
  have h : u_ws RX3 TX3 8 = [158, 160, 162, 164, 166, 168, 170, 172].filterMap (fun i => tables_1[i]?) := by decide +kernel
  have hg : (u_ws RX3 TX3 8).all mm_gw = true := by decide +kernel
  intro w hw
  have h1 := List.all_eq_true.mp hg w hw
  rw [h] at hw
  obtain ⟨i, -, hi⟩ := List.mem_filterMap.mp hw
  exact mm_T_in (List.mem_append_right _ (List.mem_of_getElem? hi)) h1
theorem mm_in4 : ∀ w ∈ u_ws RX4 TX4 9, w ∈ mm_T := by
  have h : u_ws RX4 TX4 9 = [344, 346, 348, 350, 352, 354, 356, 358, 360].filterMap (fun i => tables_1[i]?) := by decide +kernel
  have hg : (u_ws RX4 TX4 9).all mm_gw = true := by decide +kernel
  intro w hw
  have h1 := List.all_eq_true.mp hg w hw
  rw [h] at hw
  obtain ⟨i, -, hi⟩ := List.mem_filterMap.mp hw
  exact mm_T_in (List.mem_append_right _ (List.mem_of_getElem? hi)) h1
theorem mm_in5 : ∀ w ∈ u_ws RX5 TX5 9, w ∈ mm_T := by
  have h : u_ws RX5 TX5 9 = [53, 55, 57, 59, 61, 63, 65, 67, 69].filterMap (fun i => tables_1[i]?) := by decide +kernel
  have hg : (u_ws RX5 TX5 9).all mm_gw = true := by decide +kernel
  intro w hw
  have h1 := List.all_eq_true.mp hg w hw
  rw [h] at hw
  obtain ⟨i, -, hi⟩ := List.mem_filterMap.mp hw
  exact mm_T_in (List.mem_append_right _ (List.mem_of_getElem? hi)) h1
theorem mm_in6 : ∀ w ∈ u_ws RX6 TX6 6, w ∈ mm_T := by
  have h : u_ws RX6 TX6 6 = [313, 315, 317, 319, 321, 323].filterMap (fun i => tables_1[i]?) := by decide +kernel
  have hg : (u_ws RX6 TX6 6).all mm_gw = true := by decide +kernel
  intro w hw
  have h1 := List.all_eq_true.mp hg w hw
  rw [h] at hw
  obtain ⟨i, -, hi⟩ := List.mem_filterMap.mp hw
  exact mm_T_in (List.mem_append_right _ (List.mem_of_getElem? hi)) h1
theorem mm_in7 : ∀ w ∈ u_ws RX7 TX7 4, w ∈ mm_T := by
  have h : u_ws RX7 TX7 4 = [430, 432, 434, 436].filterMap (fun i => tables_1[i]?) := by decide +kernel
  have hg : (u_ws RX7 TX7 4).all mm_gw = true := by decide +kernel
  intro w hw
  have h1 := List.all_eq_true.mp hg w hw
  rw [h] at hw
  obtain ⟨i, -, hi⟩ := List.mem_filterMap.mp hw
  exact mm_T_in (List.mem_append_right _ (List.mem_of_getElem? hi)) h1
theorem mm_in8 : ∀ w ∈ u_ws RX8 TX8 5, w ∈ mm_T := by
  have h : u_ws RX8 TX8 5 = [409, 411, 413, 415, 417].filterMap (fun i => tables_1[i]?) := by decide +kernel
  have hg : (u_ws RX8 TX8 5).all mm_gw = true := by decide +kernel
  intro w hw
  have h1 := List.all_eq_true.mp hg w hw
  rw [h] at hw
  obtain ⟨i, -, hi⟩ := List.mem_filterMap.mp hw
  exact mm_T_in (List.mem_append_right _ (List.mem_of_getElem? hi)) h1
theorem mm_in9 : ∀ w ∈ u_ws RX9 TX9 6, w ∈ mm_T := by
  have h : u_ws RX9 TX9 6 = [381, 383, 385, 387, 389, 391].filterMap (fun i => tables_1[i]?) := by decide +kernel
  have hg : (u_ws RX9 TX9 6).all mm_gw = true := by decide +kernel
  intro w hw
  have h1 := List.all_eq_true.mp hg w hw
  rw [h] at hw
  obtain ⟨i, -, hi⟩ := List.mem_filterMap.mp hw
  exact mm_T_in (List.mem_append_right _ (List.mem_of_getElem? hi)) h1
theorem mm_in10 : ∀ w ∈ u_ws RX10 TX10 15, w ∈ mm_T := by
  have h : u_ws RX10 TX10 15 = [474, 476, 478, 480, 482, 484, 486, 488, 490, 492, 494, 496, 498, 500, 502].filterMap (fun i => tables_1[i]?) := by decide +kernel
  have hg : (u_ws RX10 TX10 15).all mm_gw = true := by decide +kernel
  intro w hw
  have h1 := List.all_eq_true.mp hg w hw
  rw [h] at hw
  obtain ⟨i, -, hi⟩ := List.mem_filterMap.mp hw
  exact mm_T_in (List.mem_append_right _ (List.mem_of_getElem? hi)) h1
theorem mm_in11 : ∀ w ∈ u_ws RX11 TX11 74, w ∈ mm_T := by
  have h : u_ws RX11 TX11 74 = [1298, 1300, 1302, 1304, 1306, 1308, 1310, 1312, 1314, 1316, 1318, 1320, 1322, 1324, 1326, 1328, 1330, 1332, 1334, 1336, 1338, 1340, 1342, 1344, 1346, 1348, 1350, 1352, 1354, 1356, 1358, 1360, 1362, 1364, 1366, 1368, 1370, 1372, 1374, 1376, 1378, 1380, 1382, 1384, 1386, 1388, 1390, 1392, 1394, 1396, 1398, 1400, 1402, 1404, 1406, 1408, 1410, 1412, 1414, 1416, 1418, 1420, 1422, 1424, 1426, 1428, 1430, 1432, 1434, 1436, 1438, 1440, 1442, 1444].filterMap (fun i => tables_1[i]?) := by decide +kernel
  have hg : (u_ws RX11 TX11 74).all mm_gw = true := by decide +kernel
  intro w hw
  have h1 := List.all_eq_true.mp hg w hw
  rw [h] at hw
  obtain ⟨i, -, hi⟩ := List.mem_filterMap.mp hw
  exact mm_T_in (List.mem_append_right _ (List.mem_of_getElem? hi)) h1
theorem mm_cls {c : Nat} {C : String} {T : u_T} {N : Nat} (h : vwCl[c]? = some (C, T, N)) : N = mm_N c ∧ (∀ k, k < N → parseFieldDescriptor (T k).2.2.1 = some (mm_ty c k)) ∧ (∀ a, a < N → ∀ b, b < N → a ≠ b → (T a).2.1 ≠ (T b).2.1) ∧ (∀ w ∈ u_ws C T N, w ∈ mm_T) := by
  match c, h with
  | 0, h => cases h; exact ⟨rfl, tyX0_ok, nmX0, mm_in0⟩
  | 1, h => cases h; exact ⟨rfl, tyX1_ok, nmX1, mm_in1⟩
  | 2, h => cases h; exact ⟨rfl, tyX2_ok, nmX2, mm_in2⟩
  | 3, h => cases h; exact ⟨rfl, tyX3_ok, nmX3, mm_in3⟩
  | 4, h => cases h; exact ⟨rfl, tyX4_ok, nmX4, mm_in4⟩
  | 5, h => cases h; exact ⟨rfl, tyX5_ok, nmX5, mm_in5⟩
  | 6, h => cases h; exact ⟨rfl, tyX6_ok, nmX6, mm_in6⟩
  | 7, h => cases h; exact ⟨rfl, tyX7_ok, nmX7, mm_in7⟩
  | 8, h => cases h; exact ⟨rfl, tyX8_ok, nmX8, mm_in8⟩
  | 9, h => cases h; exact ⟨rfl, tyX9_ok, nmX9, mm_in9⟩
  | 10, h => cases h; exact ⟨rfl, tyX10_ok, nmX10, mm_in10⟩
  | 11, h => cases h; exact ⟨rfl, tyX11_ok, nmX11, mm_in11⟩
  | c + 12, h => simp [vwCl] at h
def mm_FL (own : String) (i c k : Nat) : Prop := ∃ (C : String) (T : u_T) (N : Nat), vwCl[c]? = some (C, T, N) ∧ k < N ∧ (Cond.fieldLink own i (T k).1 (T k).2.1 (T k).2.2.1 ∈ mm_T ∨ ∃ host : String, Cond.fieldLinkNest own i (T k).1 (T k).2.1 (T k).2.2.1 host ∈ mm_T)
def mm_fin (c k : Nat) : Bool := match vwCl[c]? with
  | some (_, T, _) => (T k).2.2.2
  | none => true
theorem mm_up_ref {E : mm_Env} {o : Nat} (h : o ≠ 0) : mm_up E (vR o) = .ref (mm_ad E o) := by simp [mm_up, mm_rf, mm_ro, h, va_rf]
section MmMem
variable {E : mm_Env} {R : Room} {q : mm_Y} {mc ms cs sl : Nat} {Sh : List mm_Kd} {pc pc' : Nat} {ls : List (Option mm_PV)} {st : List mm_PV} {σ : mm_Mem} {Q : mm_Q}
theorem vv_getV {o c k i : Nat} {v : mm_PV} (hd : decode q.2.1 pc = .ok (.getfield i, 3)) (hp : pc + 3 = pc') (hf : mm_FL q.1.cls i c k) (ho : 2 ≤ o) (hs : Sh[o]? = some (.inr c)) (hv : mm_fv E (mm_ty c k) (σ o k) = mm_up E v) (kk : (mm_isI (mm_ty c k) = true → inR (σ o k)) → vv E R q mc ms cs sl Sh pc' ls (v :: st) σ Q) : vv E R q mc ms cs sl Sh pc ls (vR o :: st) σ Q := by
  subst hp
  intro p l e s m args below meth c9 H locs la QM hC hR hS hL hret
  obtain ⟨C, T, N, hc, hk, hw⟩ := hf
  obtain ⟨hN, hty', hnm, hin⟩ := mm_cls hc
  have he := mm_W_get (E := E) (σ := σ) ho hs
  rw [List.map_cons, mm_up_ref (by omega)]
  have hv2 : (mm_fs E c (σ o))[k]? = some (mm_up E v) := by rw [mm_fs_get (hN ▸ hk), hv]
  have hin2 : mm_isI (mm_ty c k) = true → inR (σ o k) := fun h => hR.2.2.2.2.2 o k _ hs (by simp [mm_slotI, h, hN ▸ hk])
  rcases hw with hw | ⟨host, hw⟩
  · exact va_get hC.1 hC.2.1 hC.2.2.2.2.1 hin hC.2.2.2.1 hC.2.2.2.2.2.1 hR.1 (o - 2) he hc k hk (hC.2.2.2.2.1 _ hw) (fun _ h => h) hv2 hd (kk hin2 p l e s m args below meth c9 H locs la QM hC hR hS hL hret)
  · exact va_getN hC.1 hC.2.1 hC.2.2.2.2.1 hin hC.2.2.2.1 hC.2.2.2.2.2.1 hR.1 (o - 2) he hc k hk (hC.2.2.2.2.1 _ hw) (fun _ h => h) hv2 hd (kk hin2 p l e s m args below meth c9 H locs la QM hC hR hS hL hret)
theorem vv_getI {o c k i : Nat} (hd : decode q.2.1 pc = .ok (.getfield i, 3)) (hp : pc + 3 = pc') (hf : mm_FL q.1.cls i c k) (hty : mm_isI (mm_ty c k) = true) (ho : 2 ≤ o) (hs : Sh[o]? = some (.inr c)) (kk : inR (σ o k) → vv E R q mc ms cs sl Sh pc' ls (vI (σ o k) :: st) σ Q) : vv E R q mc ms cs sl Sh pc ls (vR o :: st) σ Q :=
  vv_getV hd hp hf ho hs (by
    generalize mm_ty c k = ty at hty
    cases ty <;> simp [mm_isI] at hty <;> rfl) (fun h => kk (h hty))
theorem vv_getL {o c k i : Nat} (hd : decode q.2.1 pc = .ok (.getfield i, 3)) (hp : pc + 3 = pc') (hf : mm_FL q.1.cls i c k) (hty : mm_ty c k = .long) (ho : 2 ≤ o) (hs : Sh[o]? = some (.inr c)) (kk : vv E R q mc ms cs sl Sh pc' ls (vL (σ o k) :: st) σ Q) : vv E R q mc ms cs sl Sh pc ls (vR o :: st) σ Q :=
  vv_getV hd hp hf ho hs (by rw [hty]; rfl) (fun _ => kk)
theorem vv_getR {o c k i : Nat} (hd : decode q.2.1 pc = .ok (.getfield i, 3)) (hp : pc + 3 = pc') (hf : mm_FL q.1.cls i c k) (hty : mm_isR (mm_ty c k) = true) (ho : 2 ≤ o) (hs : Sh[o]? = some (.inr c)) (kk : vv E R q mc ms cs sl Sh pc' ls (vR (σ o k).toNat :: st) σ Q) : vv E R q mc ms cs sl Sh pc ls (vR o :: st) σ Q :=
  vv_getV hd hp hf ho hs (by
    generalize mm_ty c k = ty at hty
    cases ty <;> simp [mm_isR] at hty <;> rfl) (fun _ => kk)
theorem vv_putV {o c k i : Nat} {z : Int} {v : mm_PV} (hd : decode q.2.1 pc = .ok (.putfield i, 3)) (hp : pc + 3 = pc') (hf : mm_FL q.1.cls i c k) (hfin : mm_fin c k = false) (ho : 2 ≤ o) (hs : Sh[o]? = some (.inr c)) (hv : mm_up E v = mm_fv E (mm_ty c k) z) (hn : narrow (mm_ty c k) (mm_up E v) = mm_up E v) (hfit : fits (mm_ty c k) (mm_up E v) = true) (hz : mm_isI (mm_ty c k) = true → inR z) (kk : vv E R q mc ms cs sl Sh pc' ls st (wr σ o k z) Q) : vv E R q mc ms cs sl Sh pc ls (v :: vR o :: st) σ Q := by
  subst hp
  intro p l e s m args below meth c9 H locs la QM hC hR hS hL hret
  obtain ⟨C, T, N, hc, hk, hw⟩ := hf
  obtain ⟨hN, hty, hnm, hin⟩ := mm_cls hc
  have hfinT : (T k).2.2.2 = false := by simpa [mm_fin, hc] using hfin
  have he := mm_W_get (E := E) (σ := σ) ho hs
  rw [List.map_cons, List.map_cons, mm_up_ref (by omega)]
  have hts := hC.2.2.2.2.1
  have hK := hC.2.2.2.2.2.1
  have hap := va_apart (own := q.1.cls) hts hin (mm_ty c) hty hnm hK hc
  have hD : va_D (mm_A E) (mm_W E Sh σ) := mm_D
  obtain ⟨r, h1, cell, q1, q2, q3, q4⟩ := hR.1 (o - 2) _ he
  have hr : r = (C, T, N) := Option.some.inj (h1.symm.trans hc)
  subst hr
  obtain ⟨hSl, hfc, kC, hkC, hkind⟩ := hK.1 c _ hc
  obtain ⟨cf, kf, fi, f, hi, hsl⟩ := hSl k hk
  have hlay := hts _ (hin _ (u_in_lay hk))
  unfold u_lay at hlay
  rw [if_neg (by rw [hfinT]; decide)] at hlay
  have hst := (u_facts hfc hkC (u_lays hts hin hk) hi).1
  have h6 := u_store hfc hkC hkind hlay hi (hty k hk) hn hfit
  have fin : ∀ H' : Heap, H'[mm_ad E o]? = some (cell.setSlot f.slot (mm_up E v)) → H'.size = H.size → (∀ q, q ≠ mm_ad E o → H'[q]? = H[q]?) → W p l e R s m args below meth c9 H' (locs ++ [⟨mm_ad E o, f.slot⟩]) cs sl QM (F0 m (pc + 3) la (st.map (mm_up E))) := by
    intro H' e1 e2 e3
    rw [hsl] at e1
    have hP1 := hR.1.set hD he (e := .inr (c, (mm_fs E c (σ o)).set k (mm_up E v))) ⟨_, hc, t_OB.to (V := updV (vp_V (mm_fs E c (σ o))) k (mm_up E v)) ⟨_, e1, q2, q3, t_set q4 hap hk _⟩ (fun j _ => vp_updV_set (by rw [mm_fs_len]; exact hN ▸ hk) _ j)⟩ e3
    rw [hv, mm_fs_set (g := wr σ o k z o) wr_same (fun j hj => wr_row hj)] at hP1
    have hP2 : va_P E.1 vwCl (mm_W E Sh (wr σ o k z)) H' := by
      rw [← mm_W_set ho hs (σ := σ) (σ' := wr σ o k z) rfl (fun o' h' => wr_obj h')]
      exact hP1
    have hS1 : va_S (mm_A E) s.heap H' (locs ++ [⟨mm_ad E o, f.slot⟩]) := hS.put e2 e3 (hD.2 _ _ he)
    exact kk p l e s m args below meth c9 H' _ la QM hC (hR.put1 (A := mm_A E) hC.2.2.2.2.2.2.1 hS hS1 ho hs (fun h => hz (by simp only [mm_slotI, Bool.and_eq_true] at h; exact h.1)) e2 hP2) hS1 hL hret
  rcases hw with hw | ⟨host, hw⟩
  · exact W.putK hC.1 hC.2.1 (f := f) ⟨hC.2.2.2.1, hts _ hw, ⟨_, _, _, hi⟩, hst⟩ (by rw [q2]; exact h6) q1 q3 (by rw [hsl]; exact k2_hasslot (q4 k hk)) rfl rfl hd fin
  · exact va_WputK hC.1 hC.2.1 (f := f) hC.2.2.2.1 (hts _ hw) hi hst (by rw [q2]; exact h6) q1 q3 (by rw [hsl]; exact k2_hasslot (q4 k hk)) rfl rfl hd fin
/-- a final field, in its own constructor -/
theorem vv_putFV {o c k i : Nat} {z : Int} {v : mm_PV} (hd : decode q.2.1 pc = .ok (.putfield i, 3)) (hp : pc + 3 = pc') (hf : ∃ (C : String) (T : u_T) (N : Nat), vwCl[c]? = some (C, T, N) ∧ k < N ∧ (T k).2.2.2 = true ∧ (T k).1 = q.1.cls ∧ Cond.fieldLink q.1.cls i (T k).1 (T k).2.1 (T k).2.2.1 ∈ mm_T) (hq : q.1.name = "<init>") (ho : 2 ≤ o) (hs : Sh[o]? = some (.inr c)) (hv : mm_up E v = mm_fv E (mm_ty c k) z) (hn : narrow (mm_ty c k) (mm_up E v) = mm_up E v) (hfit : fits (mm_ty c k) (mm_up E v) = true) (hz : mm_isI (mm_ty c k) = true → inR z) (kk : vv E R q mc ms cs sl Sh pc' ls st (wr σ o k z) Q) : vv E R q mc ms cs sl Sh pc ls (v :: vR o :: st) σ Q := by
  subst hp
  intro p l e s m args below meth c9 H locs la QM hC hR hS hL hret
  obtain ⟨C, T, N, hc, hk, hfinT, hdecl, hw⟩ := hf
  obtain ⟨hN, hty, hnm, hin⟩ := mm_cls hc
  have he := mm_W_get (E := E) (σ := σ) ho hs
  rw [List.map_cons, List.map_cons, mm_up_ref (by omega)]
  have hts := hC.2.2.2.2.1
  have hK := hC.2.2.2.2.2.1
  have hap := va_apart (own := q.1.cls) hts hin (mm_ty c) hty hnm hK hc
  have hD : va_D (mm_A E) (mm_W E Sh σ) := mm_D
  obtain ⟨r, h1, cell, q1, q2, q3, q4⟩ := hR.1 (o - 2) _ he
  have hr : r = (C, T, N) := Option.some.inj (h1.symm.trans hc)
  subst hr
  obtain ⟨hSl, hfc, kC, hkC, hkind⟩ := hK.1 c _ hc
  obtain ⟨cf, kf, fi, f, hi, hsl⟩ := hSl k hk
  have hlay := hts _ (hin _ (u_in_lay hk))
  unfold u_lay at hlay
  rw [if_pos hfinT] at hlay
  have hst := (u_facts hfc hkC (u_lays hts hin hk) hi).1
  have hcf : m.cls = cf := by
    obtain ⟨_, _, c', _, _, _, -, -, hf', -, -, -, hown2, -⟩ := Cond.laysFinal_spec hlay
    have e1 : c' = cf := by have := hi.symm.trans hf'; simp at this; exact this.1.symm
    rw [hdecl] at hown2
    rw [← e1]; exact Option.some.inj (hC.2.2.2.1.symm.trans hown2)
  have h6 := u_fits hfc hkC hkind (Or.inr hlay) hi (hty k hk) hn hfit
  refine W.putFinK hC.1 hC.2.1 hC.2.2.2.1 (hts _ hw) hi hst hcf (hC.2.2.2.2.2.2.2.trans hq) (by rw [q2]; exact h6) q1 q3 (by rw [hsl]; exact k2_hasslot (q4 k hk)) rfl rfl hd ?_
  intro H' e1 e2 e3
  rw [hsl] at e1
  have hP1 := hR.1.set hD he (e := .inr (c, (mm_fs E c (σ o)).set k (mm_up E v))) ⟨_, hc, t_OB.to (V := updV (vp_V (mm_fs E c (σ o))) k (mm_up E v)) ⟨_, e1, q2, q3, t_set q4 hap hk _⟩ (fun j _ => vp_updV_set (by rw [mm_fs_len]; exact hN ▸ hk) _ j)⟩ e3
  rw [hv, mm_fs_set (g := wr σ o k z o) wr_same (fun j hj => wr_row hj)] at hP1
  have hP2 : va_P E.1 vwCl (mm_W E Sh (wr σ o k z)) H' := by
    rw [← mm_W_set ho hs (σ := σ) (σ' := wr σ o k z) rfl (fun o' h' => wr_obj h')]
    exact hP1
  have hS1 : va_S (mm_A E) s.heap H' (locs ++ [⟨mm_ad E o, f.slot⟩]) := hS.put e2 e3 (hD.2 _ _ he)
  exact kk p l e s m args below meth c9 H' _ la QM hC (hR.put1 (A := mm_A E) hC.2.2.2.2.2.2.1 hS hS1 ho hs (fun h => hz (by simp only [mm_slotI, Bool.and_eq_true] at h; exact h.1)) e2 hP2) hS1 hL hret
theorem mm_nrf {E : mm_Env} {ty : FieldType} {o : Nat} (hty : mm_isR ty = true) : narrow ty (mm_up E (vR o)) = mm_up E (vR o) ∧ fits ty (mm_up E (vR o)) = true := by
  have h := mm_ref_or (E := E) (o := o)
  cases ty <;> simp [mm_isR] at hty <;> rcases h with h | ⟨a, h⟩ <;> simp [mm_up, h, narrow, fits]
theorem vv_putI {o c k i : Nat} {z : Int} (hd : decode q.2.1 pc = .ok (.putfield i, 3)) (hp : pc + 3 = pc') (hf : mm_FL q.1.cls i c k) (hfin : mm_fin c k = false) (hty : mm_ty c k = .int) (ho : 2 ≤ o) (hs : Sh[o]? = some (.inr c)) (hz : inR z) (kk : vv E R q mc ms cs sl Sh pc' ls st (wr σ o k z) Q) : vv E R q mc ms cs sl Sh pc ls (vI z :: vR o :: st) σ Q :=
  vv_putV hd hp hf hfin ho hs (by rw [hty]; rfl) (by rw [hty]; rfl) (by rw [hty]; rfl) (fun _ => hz) kk
theorem vv_putZ {o c k i : Nat} {z : Int} (hd : decode q.2.1 pc = .ok (.putfield i, 3)) (hp : pc + 3 = pc') (hf : mm_FL q.1.cls i c k) (hfin : mm_fin c k = false) (hty : mm_ty c k = .boolean) (ho : 2 ≤ o) (hs : Sh[o]? = some (.inr c)) (hz : z = 0 ∨ z = 1) (kk : vv E R q mc ms cs sl Sh pc' ls st (wr σ o k z) Q) : vv E R q mc ms cs sl Sh pc ls (vI z :: vR o :: st) σ Q :=
  vv_putV hd hp hf hfin ho hs (by rw [hty]; rfl) (by rw [hty]; exact mm_nb hz) (by rw [hty]; rcases hz with rfl | rfl <;> rfl) (fun _ => by rcases hz with rfl | rfl <;> exact ⟨by decide, by decide⟩) kk
theorem vv_putL {o c k i : Nat} {z : Int} (hd : decode q.2.1 pc = .ok (.putfield i, 3)) (hp : pc + 3 = pc') (hf : mm_FL q.1.cls i c k) (hfin : mm_fin c k = false) (hty : mm_ty c k = .long) (ho : 2 ≤ o) (hs : Sh[o]? = some (.inr c)) (kk : vv E R q mc ms cs sl Sh pc' ls st (wr σ o k z) Q) : vv E R q mc ms cs sl Sh pc ls (vL z :: vR o :: st) σ Q :=
  vv_putV hd hp hf hfin ho hs (by rw [hty]; rfl) (by rw [hty]; rfl) (by rw [hty]; rfl) (fun h => by rw [hty] at h; cases h) kk
theorem vv_putR {o c k i r : Nat} (hd : decode q.2.1 pc = .ok (.putfield i, 3)) (hp : pc + 3 = pc') (hf : mm_FL q.1.cls i c k) (hfin : mm_fin c k = false) (hty : mm_isR (mm_ty c k) = true) (ho : 2 ≤ o) (hs : Sh[o]? = some (.inr c)) (kk : vv E R q mc ms cs sl Sh pc' ls st (wr σ o k (r : Int)) Q) : vv E R q mc ms cs sl Sh pc ls (vR r :: vR o :: st) σ Q :=
  vv_putV hd hp hf hfin ho hs (by
    generalize mm_ty c k = ty at hty
    cases ty <;> simp [mm_isR] at hty <;> rfl) (mm_nrf hty).1 (mm_nrf hty).2 (fun h => by
    generalize mm_ty c k = ty at hty h
    cases ty <;> simp [mm_isR] at hty <;> cases h) kk
theorem vv_putFR {o c k i r : Nat} (hd : decode q.2.1 pc = .ok (.putfield i, 3)) (hp : pc + 3 = pc') (hf : ∃ (C : String) (T : u_T) (N : Nat), vwCl[c]? = some (C, T, N) ∧ k < N ∧ (T k).2.2.2 = true ∧ (T k).1 = q.1.cls ∧ Cond.fieldLink q.1.cls i (T k).1 (T k).2.1 (T k).2.2.1 ∈ mm_T) (hq : q.1.name = "<init>") (hty : mm_isR (mm_ty c k) = true) (ho : 2 ≤ o) (hs : Sh[o]? = some (.inr c)) (kk : vv E R q mc ms cs sl Sh pc' ls st (wr σ o k (r : Int)) Q) : vv E R q mc ms cs sl Sh pc ls (vR r :: vR o :: st) σ Q :=
  vv_putFV hd hp hf hq ho hs (by
    generalize mm_ty c k = ty at hty
    cases ty <;> simp [mm_isR] at hty <;> rfl) (mm_nrf hty).1 (mm_nrf hty).2 (fun h => by
    generalize mm_ty c k = ty at hty h
    cases ty <;> simp [mm_isR] at hty <;> cases h) kk
theorem mm_ix {j : Int} {n : Nat} (hj : 0 ≤ j) (hj2 : j < n) (hn : n ≤ 2147483647) : (Int32.ofInt j).toNatClampNeg = j.toNat ∧ vp_in (Int32.ofInt j) n := by
  have hr : inR j := ⟨by omega, by omega⟩
  have e : (Int32.ofInt j).toNatClampNeg = j.toNat := by
    show (Int32.ofInt j).toInt.toNat = _
    rw [mm_toInt hr]
  refine ⟨e, ?_⟩
  unfold vp_in
  rw [e, mm_c0_lt hr]
  omega
theorem vv_iaload {o n : Nat} {j : Int} (hd : decode q.2.1 pc = .ok (.iaload, 1)) (hp : pc + 1 = pc') (ho : 2 ≤ o) (hs : Sh[o]? = some (.inl (.int, n))) (hj : 0 ≤ j) (hj2 : j < n) (hn : n ≤ 2147483647) (kk : inR (σ o j.toNat) → vv E R q mc ms cs sl Sh pc' ls (vI (σ o j.toNat) :: st) σ Q) : vv E R q mc ms cs sl Sh pc ls (vI j :: vR o :: st) σ Q := by
  subst hp
  intro p l e s m args below meth c9 H locs la QM hC hR hS hL hret
  have he := mm_W_get (E := E) (σ := σ) ho hs
  obtain ⟨e1, e2⟩ := mm_ix hj hj2 hn
  rw [List.map_cons, List.map_cons, mm_up_ref (by omega)]
  refine va_iald hC.1 hC.2.1 hC.2.2.2.2.2.1 hR.1 (o - 2) 0 he rfl e2 hd ?_
  rw [e1]
  exact kk (hR.2.2.2.2.2 o j.toNat _ hs (by simp [mm_slotI, mm_isI]; omega)) p l e s m args below meth c9 H locs la QM hC hR hS hL hret
theorem vv_baload {o n : Nat} {j : Int} (hd : decode q.2.1 pc = .ok (.baload, 1)) (hp : pc + 1 = pc') (ho : 2 ≤ o) (hs : Sh[o]? = some (.inl (.boolean, n))) (hj : 0 ≤ j) (hj2 : j < n) (hn : n ≤ 2147483647) (kk : inR (σ o j.toNat) → vv E R q mc ms cs sl Sh pc' ls (vI (σ o j.toNat) :: st) σ Q) : vv E R q mc ms cs sl Sh pc ls (vI j :: vR o :: st) σ Q := by
  subst hp
  intro p l e s m args below meth c9 H locs la QM hC hR hS hL hret
  have he := mm_W_get (E := E) (σ := σ) ho hs
  obtain ⟨e1, e2⟩ := mm_ix hj hj2 hn
  rw [List.map_cons, List.map_cons, mm_up_ref (by omega)]
  refine va_zald hC.1 hC.2.1 hC.2.2.2.2.2.1 hR.1 (o - 2) 2 he rfl e2 hd ?_
  rw [e1]
  exact kk (hR.2.2.2.2.2 o j.toNat _ hs (by simp [mm_slotI, mm_isI]; omega)) p l e s m args below meth c9 H locs la QM hC hR hS hL hret
theorem vv_laload {o n : Nat} {j : Int} (hd : decode q.2.1 pc = .ok (.laload, 1)) (hp : pc + 1 = pc') (ho : 2 ≤ o) (hs : Sh[o]? = some (.inl (.long, n))) (hj : 0 ≤ j) (hj2 : j < n) (hn : n ≤ 2147483647) (kk : vv E R q mc ms cs sl Sh pc' ls (vL (σ o j.toNat) :: st) σ Q) : vv E R q mc ms cs sl Sh pc ls (vI j :: vR o :: st) σ Q := by
  subst hp
  intro p l e s m args below meth c9 H locs la QM hC hR hS hL hret
  have he := mm_W_get (E := E) (σ := σ) ho hs
  obtain ⟨e1, e2⟩ := mm_ix hj hj2 hn
  rw [List.map_cons, List.map_cons, mm_up_ref (by omega)]
  refine va_lald hC.1 hC.2.1 hC.2.2.2.2.2.1 hR.1 (o - 2) 1 he rfl e2 hd ?_
  rw [e1]
  exact kk p l e s m args below meth c9 H locs la QM hC hR hS hL hret
theorem vv_aaload_D {o n : Nat} {j : Int} (hd : decode q.2.1 pc = .ok (.aaload, 1)) (hp : pc + 1 = pc') (ho : 2 ≤ o) (hs : Sh[o]? = some (.inl (.object "TuneDoor$Door", n))) (hj : 0 ≤ j) (hj2 : j < n) (hn : n ≤ 2147483647) (kk : vv E R q mc ms cs sl Sh pc' ls (vR (σ o j.toNat).toNat :: st) σ Q) : vv E R q mc ms cs sl Sh pc ls (vI j :: vR o :: st) σ Q := by
  subst hp
  intro p l e s m args below meth c9 H locs la QM hC hR hS hL hret
  have he := mm_W_get (E := E) (σ := σ) ho hs
  obtain ⟨e1, e2⟩ := mm_ix hj hj2 hn
  rw [List.map_cons, List.map_cons, mm_up_ref (by omega)]
  have hlt : (Int32.ofInt j).toNatClampNeg < n := by rw [e1]; omega
  refine W.aald (v := mm_rf E (σ o j.toNat).toNat) (ty := .object "TuneDoor$Door") hC.1 hC.2.1 (hR.1 (o - 2) _ he) ((hC.2.2.2.2.2.1.2 3 _ rfl).1 n (fun k => va_rf (mm_ro E (σ o k).toNat))) rfl (fun q => by cases q) (by show ¬ (_ < 0 ∨ (arrV _ _ _).slots.size ≤ _); rw [arrV_size]; exact e2) (by show (arrV _ _ _).slots[_]? = _; rw [arrV_read _ _ hlt, e1]; rfl) rfl rfl hd ?_
  exact kk p l e s m args below meth c9 H locs la QM hC hR hS hL hret
theorem vv_aaload_P {o n : Nat} {j : Int} (hd : decode q.2.1 pc = .ok (.aaload, 1)) (hp : pc + 1 = pc') (ho : 2 ≤ o) (hs : Sh[o]? = some (.inl (.object "TuneDoor$Person", n))) (hj : 0 ≤ j) (hj2 : j < n) (hn : n ≤ 2147483647) (kk : vv E R q mc ms cs sl Sh pc' ls (vR (σ o j.toNat).toNat :: st) σ Q) : vv E R q mc ms cs sl Sh pc ls (vI j :: vR o :: st) σ Q := by
  subst hp
  intro p l e s m args below meth c9 H locs la QM hC hR hS hL hret
  have he := mm_W_get (E := E) (σ := σ) ho hs
  obtain ⟨e1, e2⟩ := mm_ix hj hj2 hn
  rw [List.map_cons, List.map_cons, mm_up_ref (by omega)]
  have hlt : (Int32.ofInt j).toNatClampNeg < n := by rw [e1]; omega
  refine W.aald (v := mm_rf E (σ o j.toNat).toNat) (ty := .object "TuneDoor$Person") hC.1 hC.2.1 (hR.1 (o - 2) _ he) ((hC.2.2.2.2.2.1.2 4 _ rfl).1 n (fun k => va_rf (mm_ro E (σ o k).toNat))) rfl (fun q => by cases q) (by show ¬ (_ < 0 ∨ (arrV _ _ _).slots.size ≤ _); rw [arrV_size]; exact e2) (by show (arrV _ _ _).slots[_]? = _; rw [arrV_read _ _ hlt, e1]; rfl) rfl rfl hd ?_
  exact kk p l e s m args below meth c9 H locs la QM hC hR hS hL hret
theorem vv_aaload_A {o n : Nat} {j : Int} (hd : decode q.2.1 pc = .ok (.aaload, 1)) (hp : pc + 1 = pc') (ho : 2 ≤ o) (hs : Sh[o]? = some (.inl (.array .int, n))) (hj : 0 ≤ j) (hj2 : j < n) (hn : n ≤ 2147483647) (kk : vv E R q mc ms cs sl Sh pc' ls (vR (σ o j.toNat).toNat :: st) σ Q) : vv E R q mc ms cs sl Sh pc ls (vI j :: vR o :: st) σ Q := by
  subst hp
  intro p l e s m args below meth c9 H locs la QM hC hR hS hL hret
  have he := mm_W_get (E := E) (σ := σ) ho hs
  obtain ⟨e1, e2⟩ := mm_ix hj hj2 hn
  rw [List.map_cons, List.map_cons, mm_up_ref (by omega)]
  have hlt : (Int32.ofInt j).toNatClampNeg < n := by rw [e1]; omega
  refine W.aald (v := mm_rf E (σ o j.toNat).toNat) (ty := .array .int) hC.1 hC.2.1 (hR.1 (o - 2) _ he) ((hC.2.2.2.2.2.1.2 5 _ rfl).1 n (fun k => va_rf (mm_ro E (σ o k).toNat))) rfl (fun q => by cases q) (by show ¬ (_ < 0 ∨ (arrV _ _ _).slots.size ≤ _); rw [arrV_size]; exact e2) (by show (arrV _ _ _).slots[_]? = _; rw [arrV_read _ _ hlt, e1]; rfl) rfl rfl hd ?_
  exact kk p l e s m args below meth c9 H locs la QM hC hR hS hL hret
theorem vv_iastore {o n : Nat} {j z : Int} (hd : decode q.2.1 pc = .ok (.iastore, 1)) (hp : pc + 1 = pc') (ho : 2 ≤ o) (hs : Sh[o]? = some (.inl (.int, n))) (hj : 0 ≤ j) (hj2 : j < n) (hn : n ≤ 2147483647) (hz : inR z) (kk : vv E R q mc ms cs sl Sh pc' ls st (wr σ o j.toNat z) Q) : vv E R q mc ms cs sl Sh pc ls (vI z :: vI j :: vR o :: st) σ Q := by
  subst hp
  intro p l e s m args below meth c9 H locs la QM hC hR hS hL hret
  have he := mm_W_get (E := E) (σ := σ) ho hs
  obtain ⟨e1, e2⟩ := mm_ix hj hj2 hn
  rw [List.map_cons, List.map_cons, List.map_cons, mm_up_ref (by omega)]
  have hD : va_D (mm_A E) (mm_W E Sh σ) := mm_D
  refine W.iast hC.1 hC.2.1 (hR.1 (o - 2) _ he) ((hC.2.2.2.2.2.1.2 0 _ rfl).1 n (fun k => .int (Int32.ofInt (σ o k)))) (fun q => by cases q) (by show ¬ (_ < 0 ∨ (arrV _ _ _).slots.size ≤ _); rw [arrV_size]; exact e2) rfl rfl hd ?_
  intro H' f1 f2 f3
  rw [e1] at f1
  have f4 : H'[mm_ad E o]? = some (vp_cell (E.2.1 .int) (n, mm_ar E .int (wr σ o j.toNat z o))) := by
    rw [f1]
    show some ((arrV (E.2.1 .int) n (fun k => .int (Int32.ofInt (σ o k)))).setSlot j.toNat _) = some (arrV (E.2.1 .int) n (fun k => .int (Int32.ofInt (wr σ o j.toNat z o k))))
    rw [arrV_store]
    congr 2
    funext k
    by_cases ek : k = j.toNat
    · subst ek
      simp only [updV, if_pos rfl, wr_same, if_true]
    · simp only [updV, if_neg ek, wr_row ek]
  have hP1 := hR.1.set hD he (e := mm_E E (.inl (.int, n)) (wr σ o j.toNat z o)) f4 f3
  have hP2 : va_P E.1 vwCl (mm_W E Sh (wr σ o j.toNat z)) H' := by
    rw [← mm_W_set ho hs (σ := σ) (σ' := wr σ o j.toNat z) rfl (fun o' h' => wr_obj h')]
    exact hP1
  have hS1 : va_S (mm_A E) s.heap H' (locs ++ [⟨mm_ad E o, (Int32.ofInt j).toNatClampNeg⟩]) := hS.put f2 f3 (hD.2 _ _ he)
  exact kk p l e s m args below meth c9 H' _ la QM hC (hR.put1 (A := mm_A E) hC.2.2.2.2.2.2.1 hS hS1 ho hs (fun h => hz) f2 hP2) hS1 hL hret
theorem vv_bastore {o n : Nat} {j z : Int} (hd : decode q.2.1 pc = .ok (.bastore, 1)) (hp : pc + 1 = pc') (ho : 2 ≤ o) (hs : Sh[o]? = some (.inl (.boolean, n))) (hj : 0 ≤ j) (hj2 : j < n) (hn : n ≤ 2147483647) (hz : z = 0 ∨ z = 1) (kk : vv E R q mc ms cs sl Sh pc' ls st (wr σ o j.toNat z) Q) : vv E R q mc ms cs sl Sh pc ls (vI z :: vI j :: vR o :: st) σ Q := by
  subst hp
  intro p l e s m args below meth c9 H locs la QM hC hR hS hL hret
  have he := mm_W_get (E := E) (σ := σ) ho hs
  obtain ⟨e1, e2⟩ := mm_ix hj hj2 hn
  rw [List.map_cons, List.map_cons, List.map_cons, mm_up_ref (by omega)]
  have hD : va_D (mm_A E) (mm_W E Sh σ) := mm_D
  refine W.zast hC.1 hC.2.1 (hR.1 (o - 2) _ he) ((hC.2.2.2.2.2.1.2 2 _ rfl).1 n (fun k => .int (Int32.ofInt (σ o k)))) (fun q => by cases q) (by show ¬ (_ < 0 ∨ (arrV _ _ _).slots.size ≤ _); rw [arrV_size]; exact e2) rfl rfl hd ?_
  intro H' f1 f2 f3
  rw [e1] at f1
  have f4 : H'[mm_ad E o]? = some (vp_cell (E.2.1 .boolean) (n, mm_ar E .boolean (wr σ o j.toNat z o))) := by
    rw [f1]
    show some ((arrV (E.2.1 .boolean) n (fun k => .int (Int32.ofInt (σ o k)))).setSlot j.toNat _) = some (arrV (E.2.1 .boolean) n (fun k => .int (Int32.ofInt (wr σ o j.toNat z o k))))
    rw [arrV_store]
    congr 2
    funext k
    by_cases ek : k = j.toNat
    · subst ek
      simp only [updV, if_pos rfl, wr_same, mm_nb hz, if_true]
    · simp only [updV, if_neg ek, wr_row ek]
  have hP1 := hR.1.set hD he (e := mm_E E (.inl (.boolean, n)) (wr σ o j.toNat z o)) f4 f3
  have hP2 : va_P E.1 vwCl (mm_W E Sh (wr σ o j.toNat z)) H' := by
    rw [← mm_W_set ho hs (σ := σ) (σ' := wr σ o j.toNat z) rfl (fun o' h' => wr_obj h')]
    exact hP1
  have hS1 : va_S (mm_A E) s.heap H' (locs ++ [⟨mm_ad E o, (Int32.ofInt j).toNatClampNeg⟩]) := hS.put f2 f3 (hD.2 _ _ he)
  exact kk p l e s m args below meth c9 H' _ la QM hC (hR.put1 (A := mm_A E) hC.2.2.2.2.2.2.1 hS hS1 ho hs (fun h => by rcases hz with rfl | rfl <;> exact ⟨by decide, by decide⟩) f2 hP2) hS1 hL hret
theorem vv_lastore {o n : Nat} {j z : Int} (hd : decode q.2.1 pc = .ok (.lastore, 1)) (hp : pc + 1 = pc') (ho : 2 ≤ o) (hs : Sh[o]? = some (.inl (.long, n))) (hj : 0 ≤ j) (hj2 : j < n) (hn : n ≤ 2147483647) (kk : vv E R q mc ms cs sl Sh pc' ls st (wr σ o j.toNat z) Q) : vv E R q mc ms cs sl Sh pc ls (vL z :: vI j :: vR o :: st) σ Q := by
  subst hp
  intro p l e s m args below meth c9 H locs la QM hC hR hS hL hret
  have he := mm_W_get (E := E) (σ := σ) ho hs
  obtain ⟨e1, e2⟩ := mm_ix hj hj2 hn
  rw [List.map_cons, List.map_cons, List.map_cons, mm_up_ref (by omega)]
  have hD : va_D (mm_A E) (mm_W E Sh σ) := mm_D
  refine W.last hC.1 hC.2.1 (hR.1 (o - 2) _ he) ((hC.2.2.2.2.2.1.2 1 _ rfl).1 n (fun k => .long (Int64.ofInt (σ o k)))) (fun q => by cases q) (by show ¬ (_ < 0 ∨ (arrV _ _ _).slots.size ≤ _); rw [arrV_size]; exact e2) rfl rfl hd ?_
  intro H' f1 f2 f3
  rw [e1] at f1
  have f4 : H'[mm_ad E o]? = some (vp_cell (E.2.1 .long) (n, mm_ar E .long (wr σ o j.toNat z o))) := by
    rw [f1]
    show some ((arrV (E.2.1 .long) n (fun k => .long (Int64.ofInt (σ o k)))).setSlot j.toNat _) = some (arrV (E.2.1 .long) n (fun k => .long (Int64.ofInt (wr σ o j.toNat z o k))))
    rw [arrV_store]
    congr 2
    funext k
    by_cases ek : k = j.toNat
    · subst ek
      simp only [updV, if_pos rfl, wr_same, if_true]
    · simp only [updV, if_neg ek, wr_row ek]
  have hP1 := hR.1.set hD he (e := mm_E E (.inl (.long, n)) (wr σ o j.toNat z o)) f4 f3
  have hP2 : va_P E.1 vwCl (mm_W E Sh (wr σ o j.toNat z)) H' := by
    rw [← mm_W_set ho hs (σ := σ) (σ' := wr σ o j.toNat z) rfl (fun o' h' => wr_obj h')]
    exact hP1
  have hS1 : va_S (mm_A E) s.heap H' (locs ++ [⟨mm_ad E o, (Int32.ofInt j).toNatClampNeg⟩]) := hS.put f2 f3 (hD.2 _ _ he)
  exact kk p l e s m args below meth c9 H' _ la QM hC (hR.put1 (A := mm_A E) hC.2.2.2.2.2.2.1 hS hS1 ho hs (fun h => by simp [mm_slotI, mm_isI] at h) f2 hP2) hS1 hL hret
theorem vv_alen {o n : Nat} {ty : FieldType} {t0 : Nat} (hd : decode q.2.1 pc = .ok (.arraylength, 1)) (hp : pc + 1 = pc') (ho : 2 ≤ o) (hs : Sh[o]? = some (.inl (ty, n))) (ht : ∀ E : mm_Env, (mm_tys E)[t0]? = some (E.2.1 ty, ty)) (kk : vv E R q mc ms cs sl Sh pc' ls (vI (n : Int) :: st) σ Q) : vv E R q mc ms cs sl Sh pc ls (vR o :: st) σ Q := by
  subst hp
  intro p l e s m args below meth c9 H locs la QM hC hR hS hL hret
  have he := mm_W_get (E := E) (σ := σ) ho hs
  rw [List.map_cons, mm_up_ref (by omega)]
  exact va_alen hC.1 hC.2.1 hC.2.2.2.2.2.1 hR.1 (o - 2) t0 he (ht E) (Int32.ofInt_eq_ofNat).symm hd (kk p l e s m args below meth c9 H locs la QM hC hR hS hL hret)
theorem vv_slen (hd : decode q.2.1 pc = .ok (.arraylength, 1)) (hp : pc + 1 = pc') (kk : vv E R q mc ms cs sl Sh pc' ls (vI (E.2.2.2.2 : Int) :: st) σ Q) : vv E R q mc ms cs sl Sh pc ls (vR 1 :: st) σ Q := by
  subst hp
  intro p l e s m args below meth c9 H locs la QM hC hR hS hL hret
  rw [List.map_cons, mm_up_ref (by omega)]
  obtain ⟨scr, h1, h2, h3, h4, h5⟩ := hR.2.2.2.1
  exact W.alen hC.1 hC.2.1 (n := Int32.ofInt (E.2.2.2.2 : Int)) h1 h2 (by rw [h4]; exact Int32.ofInt_eq_ofNat.symm) rfl rfl hd (kk p l e s m args below meth c9 H locs la QM hC hR hS hL hret)
theorem vv_sld {j : Int} (hd : decode q.2.1 pc = .ok (.iaload, 1)) (hp : pc + 1 = pc') (hj : 0 ≤ j) (hj2 : j < E.2.2.2.2) (hn : E.2.2.2.2 ≤ 2147483647) (kk : vv E R q mc ms cs sl Sh pc' ls (vI (σ 1 j.toNat) :: st) σ Q) : vv E R q mc ms cs sl Sh pc ls (vI j :: vR 1 :: st) σ Q := by
  subst hp
  intro p l e s m args below meth c9 H locs la QM hC hR hS hL hret
  rw [List.map_cons, List.map_cons, mm_up_ref (by omega)]
  obtain ⟨e1, e2⟩ := mm_ix hj hj2 hn
  obtain ⟨scr, h1, h2, h3, h4, h5⟩ := hR.2.2.2.1
  refine W.iald (v := .int (Int32.ofInt (σ 1 j.toNat))) hC.1 hC.2.1 h1 h2 h3 (by rw [h4]; exact e2) (by rw [e1]; exact h5 _ (by omega)) rfl rfl hd ?_
  exact kk p l e s m args below meth c9 H locs la QM hC hR hS hL hret
/-- what a caller must know of a method that it calls -/
def mm_good (q : mm_Y) (n : Nat) : Prop := Cond.code q.1 q.2.1 q.2.2.1 q.2.2.2 ∈ mm_T ∧ Cond.initialized q.1.cls ∈ mm_T ∧ (q.1.cls ≠ "java/lang/invoke/MethodHandle" ∧ q.1.cls ≠ "java/lang/invoke/VarHandle") ∧ (parseMethodDescriptor q.1.desc).map (fun d => d.parameters.length) = some n ∧ q.2.2.1 ≤ 21
def mm_cw (v : mm_PV) : Nat := match v with
  | .inr (.inl _) => 2
  | _ => 1
theorem mm_cw_eq {E : mm_Env} {v : mm_PV} : (mm_up E v).category = mm_cw v := by
  rcases v with z | z | o
  · rfl
  · rfl
  · exact mm_cat_r
theorem mm_cw_sum {E : mm_Env} {st : List mm_PV} : ((st.map (mm_up E)).map fun v => v.category).sum = (st.map mm_cw).sum := by
  rw [List.map_map]
  congr 1
  apply List.map_congr_left
  intro v _
  exact mm_cw_eq
theorem mm_blind {E : mm_Env} {As : List mm_PV} {Sh : List mm_Kd} {σ : mm_Mem} : FrameBlind (mm_Pre E As Sh σ) := fun a U g mk q => ⟨q.1, mm_Rep.moved (s := U) (t := U.calling g mk a) (Vm.Alike.refl U.vm) q.2.1, va_K.moved (u := U) (U := U.calling g mk a) (Vm.Alike.refl U.vm) q.2.2⟩
theorem mm_back {p : Program} {l : Launch} {e : Env} {s : State} {m : MethodId} {args : Array Value} {below : List Frame} {meth : Method} {c : Code} {H : Heap} {locs : List Loc} {cells slots mc' ms' : Nat} {la : Array Slot} {st0 rest : List Value} {a : Array Value} {QM : State → Prop} {Qm : mm_Q}
    (hr : va_Run p l e R s m args below meth c H locs cells slots mc' ms' (F0 m pc la st0) rest (mm_Post E Qm a) (mm_A E)) (hS : va_S (mm_A E) s.heap H locs)
    (kk : ∀ (v : Option mm_PV) (Sh' : List mm_Kd) (σ' : mm_Mem) (H1 : Heap) (locs1 : List Loc), Qm v Sh' σ' → mm_Rep E Sh' σ' s H1 → va_S (mm_A E) s.heap H1 locs1 → W p l e R s m args below meth c H1 locs1 (cells + mc') (slots + ms') QM (F0 m (pc + 3) la ((v.map (mm_up E)).toList ++ rest))) : W p l e R s m args below meth c H locs cells slots QM (F0 m pc la st0) := by
  intro T hT X
  obtain ⟨v, st₀, t, T', L, h0, X', hL, e1, e2, ⟨⟨v', Sh', σ', hv, hq, hrep⟩, hz, hk⟩, st⟩ := hr T hT X
  cases hv
  rw [h0] at hz hk
  have hal : s.vm.Alike t.vm := by rw [← e2]; exact X'.warmed.alike
  obtain ⟨t2, a1, b1⟩ := kk v' Sh' σ' T'.heap (locs ++ L) hq (by rw [e1]; exact hrep.moved hal.symm)
    ⟨Nat.le_trans hS.1 (by rw [e1]; exact hz), fun q h1 h2 => by rw [e1, hk q (Nat.lt_of_lt_of_le h1 hS.1) h2]; exact hS.2.1 q h1 h2, fun q hq => by
      rcases List.mem_append.mp hq with h | h
      · exact hS.2.2 q h
      · exact hL q h⟩ T' rfl X'
  exact ⟨t2, st t2 a1, b1⟩
theorem mm_tl {E : mm_Env} {v : Option mm_PV} {st : List mm_PV} : (v.map (mm_up E)).toList ++ st.map (mm_up E) = (v.toList ++ st).map (mm_up E) := by cases v <;> simp
theorem vv_invV {i d mc' ms' : Nat} {q' : mm_Y} {As st0 : List mm_PV} {o c : Nat} {C : String} {T : u_T} {N : Nat} (hd : decode q.2.1 pc = .ok (.invokevirtual i, 3)) (hp : pc + 3 = pc') (hg : mm_good q' As.length) (hl : Cond.methodLink q.1.cls i q'.1 ∈ mm_T) (hc : vwCl[c]? = some (C, T, N)) (hcl : q'.1.cls = C) (ho : 2 ≤ o) (hs : Sh[o]? = some (.inr c)) (hin : Cond.instanceMethod q'.1 ∈ mm_T) (hse : Cond.selects q'.1.cls q'.1 q'.1 ∈ mm_T) (hs0 : st0 = As.reverse ++ vR o :: st) (hfr : d + 1 ≤ R.frames) (hlo : 40 * (d + 1) ≤ R.locals) (hce : cs + mc' ≤ R.cells) (hsl : sl + ms' ≤ R.slots) (hrm : (st.map mm_cw).sum ≤ 8) (kk : vm E d mc' ms' q' (vR o :: As) Sh σ (fun v Sh' σ' => vv E R q mc ms (cs + mc') (sl + ms') Sh' pc' ls (v.toList ++ st) σ' Q)) : vv E R q mc ms cs sl Sh pc ls st0 σ Q := by
  subst hp
  intro p l e s m args below meth c9 H locs la QM hC hR hS hL hret
  have hts := hC.2.2.2.2.1
  have hK := hC.2.2.2.2.2.1
  have he := mm_W_get (E := E) (σ := σ) ho hs
  have hcw : Cond.code q'.1 q'.2.1 q'.2.2.1 q'.2.2.2 ∈ mm_ws q' := by show Cond.code q'.1 q'.2.1 q'.2.2.1 q'.2.2.2 ∈ Cond.code q'.1 q'.2.1 q'.2.2.1 q'.2.2.2 :: mm_T; exact List.mem_cons_self
  have hws : ∀ w ∈ mm_ws q', ∀ (a' : Array Value) (U : State), s.WarmedH U.vm → w.before a' U = true := by
    intro w hw a' U hW
    rcases List.mem_cons.mp hw with rfl | hw
    · exact mm_T_pay hts _ hg.1 a' U hW
    · exact mm_T_pay hts _ hw a' U hW
  have hlen : ∀ sig, parseMethodDescriptor q'.1.desc = some sig → (As.map (mm_up E)).length = sig.parameters.length := by
    intro sig h
    have h2 := hg.2.2.2.1
    rw [h] at h2
    rw [List.length_map]
    exact (Option.some.inj h2).symm
  have hrun := va_runV (l := l) (e := e) (below := below) (meth := meth) (locs := locs) (cells := cs) (slots := sl) (g := F0 m pc la (st0.map (mm_up E))) (As := As.map (mm_up E)) (b := mm_ad E o) (rest := st.map (mm_up E)) (C := q'.1.cls) (bytes := q'.2.1) (maxL := q'.2.2.1) (ret := q'.2.2.2) (n := (As.map (mm_up E)).length) (H := H) (R := R) ⟨hC.1, hC.2.1, hC.2.2.1, hC.2.2.2.1, hts⟩ (kk l)
    ⟨⟨rfl, rfl, hfr, by have := hg.2.2.2.2; show 8 + (q'.2.2.1 + 11) + 40 * d ≤ R.locals; omega, hws, hcw, hts _ hg.1, hts _ hg.2.1, hg.2.2.1, hlen, hts _ hl⟩, hts _ hin, hts _ hse⟩
    ⟨mm_blind, hcl ▸ va_recv hK hR.1 hc he, fun U hU hW => ⟨by rw [List.map_cons, mm_up_ref (by omega)], by rw [hU]; exact hR.moved hW.alike, va_K.moved hW.alike hK⟩⟩
    rfl rfl hL.1 (by rw [hs0, List.map_append, List.map_reverse, List.map_cons, mm_up_ref (by omega)]) (by rw [mm_cw_sum]; show 2 * 0 + _ ≤ 8; omega) hd ⟨hce, hsl⟩
  refine mm_back hrun hS ?_
  intro v Sh' σ' H1 locs1 hq hR1 hS1
  rw [mm_tl]
  exact hq p l e s m args below meth c9 H1 locs1 la QM hC hR1 hS1 hL hret
theorem vv_invVN {i d mc' ms' : Nat} {q' : mm_Y} {As st0 : List mm_PV} {o c : Nat} {C : String} {T : u_T} {N : Nat} {host : String} (hd : decode q.2.1 pc = .ok (.invokevirtual i, 3)) (hp : pc + 3 = pc') (hg : mm_good q' As.length) (hl : Cond.methodLinkNest q.1.cls i q'.1 host ∈ mm_T) (hc : vwCl[c]? = some (C, T, N)) (hcl : q'.1.cls = C) (ho : 2 ≤ o) (hs : Sh[o]? = some (.inr c)) (hin : Cond.instanceMethod q'.1 ∈ mm_T) (hse : Cond.selects q'.1.cls q'.1 q'.1 ∈ mm_T) (hs0 : st0 = As.reverse ++ vR o :: st) (hfr : d + 1 ≤ R.frames) (hlo : 40 * (d + 1) ≤ R.locals) (hce : cs + mc' ≤ R.cells) (hsl : sl + ms' ≤ R.slots) (hrm : (st.map mm_cw).sum ≤ 8) (kk : vm E d mc' ms' q' (vR o :: As) Sh σ (fun v Sh' σ' => vv E R q mc ms (cs + mc') (sl + ms') Sh' pc' ls (v.toList ++ st) σ' Q)) : vv E R q mc ms cs sl Sh pc ls st0 σ Q := by
  subst hp
  intro p l e s m args below meth c9 H locs la QM hC hR hS hL hret
  have hts := hC.2.2.2.2.1
  have hK := hC.2.2.2.2.2.1
  have he := mm_W_get (E := E) (σ := σ) ho hs
  have hcw : Cond.code q'.1 q'.2.1 q'.2.2.1 q'.2.2.2 ∈ mm_ws q' := by show Cond.code q'.1 q'.2.1 q'.2.2.1 q'.2.2.2 ∈ Cond.code q'.1 q'.2.1 q'.2.2.1 q'.2.2.2 :: mm_T; exact List.mem_cons_self
  have hws : ∀ w ∈ mm_ws q', ∀ (a' : Array Value) (U : State), s.WarmedH U.vm → w.before a' U = true := by
    intro w hw a' U hW
    rcases List.mem_cons.mp hw with rfl | hw
    · exact mm_T_pay hts _ hg.1 a' U hW
    · exact mm_T_pay hts _ hw a' U hW
  have hlen : ∀ sig, parseMethodDescriptor q'.1.desc = some sig → (As.map (mm_up E)).length = sig.parameters.length := by
    intro sig h
    have h2 := hg.2.2.2.1
    rw [h] at h2
    rw [List.length_map]
    exact (Option.some.inj h2).symm
  have hrun := va_runVN (l := l) (e := e) (below := below) (meth := meth) (locs := locs) (cells := cs) (slots := sl) (g := F0 m pc la (st0.map (mm_up E))) (As := As.map (mm_up E)) (b := mm_ad E o) (rest := st.map (mm_up E)) (C := q'.1.cls) (bytes := q'.2.1) (maxL := q'.2.2.1) (ret := q'.2.2.2) (n := (As.map (mm_up E)).length) (H := H) (R := R) ⟨hC.1, hC.2.1, hC.2.2.1, hC.2.2.2.1, hts⟩ (kk l)
    ⟨⟨⟨rfl, rfl, hfr, by have := hg.2.2.2.2; show 8 + (q'.2.2.1 + 11) + 40 * d ≤ R.locals; omega, hws, hcw⟩, hts _ hg.1, hts _ hg.2.1, hg.2.2.1, hlen, hts _ hl⟩, hts _ hin, hts _ hse⟩
    ⟨mm_blind, hcl ▸ va_recv hK hR.1 hc he, fun U hU hW => ⟨by rw [List.map_cons, mm_up_ref (by omega)], by rw [hU]; exact hR.moved hW.alike, va_K.moved hW.alike hK⟩⟩
    rfl rfl hL.1 (by rw [hs0, List.map_append, List.map_reverse, List.map_cons, mm_up_ref (by omega)]) (by rw [mm_cw_sum]; show 2 * 0 + _ ≤ 8; omega) hd ⟨hce, hsl⟩
  refine mm_back hrun hS ?_
  intro v Sh' σ' H1 locs1 hq hR1 hS1
  rw [mm_tl]
  exact hq p l e s m args below meth c9 H1 locs1 la QM hC hR1 hS1 hL hret
theorem vv_invS {i d mc' ms' : Nat} {q' : mm_Y} {As st0 : List mm_PV} (hd : decode q.2.1 pc = .ok (.invokestatic i, 3)) (hp : pc + 3 = pc') (hg : mm_good q' As.length) (hl : Cond.methodLink q.1.cls i q'.1 ∈ mm_T) (hstt : Cond.static q'.1 ∈ mm_T) (hs0 : st0 = As.reverse ++ st) (hfr : d + 1 ≤ R.frames) (hlo : 40 * (d + 1) ≤ R.locals) (hce : cs + mc' ≤ R.cells) (hsl : sl + ms' ≤ R.slots) (hrm : (st.map mm_cw).sum ≤ 8) (kk : vm E d mc' ms' q' (As) Sh σ (fun v Sh' σ' => vv E R q mc ms (cs + mc') (sl + ms') Sh' pc' ls (v.toList ++ st) σ' Q)) : vv E R q mc ms cs sl Sh pc ls st0 σ Q := by
  subst hp
  intro p l e s m args below meth c9 H locs la QM hC hR hS hL hret
  have hts := hC.2.2.2.2.1
  have hK := hC.2.2.2.2.2.1
  have hcw : Cond.code q'.1 q'.2.1 q'.2.2.1 q'.2.2.2 ∈ mm_ws q' := by show Cond.code q'.1 q'.2.1 q'.2.2.1 q'.2.2.2 ∈ Cond.code q'.1 q'.2.1 q'.2.2.1 q'.2.2.2 :: mm_T; exact List.mem_cons_self
  have hws : ∀ w ∈ mm_ws q', ∀ (a' : Array Value) (U : State), s.WarmedH U.vm → w.before a' U = true := by
    intro w hw a' U hW
    rcases List.mem_cons.mp hw with rfl | hw
    · exact mm_T_pay hts _ hg.1 a' U hW
    · exact mm_T_pay hts _ hw a' U hW
  have hlen : ∀ sig, parseMethodDescriptor q'.1.desc = some sig → (As.map (mm_up E)).length = sig.parameters.length := by
    intro sig h
    have h2 := hg.2.2.2.1
    rw [h] at h2
    rw [List.length_map]
    exact (Option.some.inj h2).symm
  have hrun := va_runS (l := l) (e := e) (below := below) (meth := meth) (locs := locs) (cells := cs) (slots := sl) (g := F0 m pc la (st0.map (mm_up E))) (As := As.map (mm_up E)) (rest := st.map (mm_up E)) (bytes := q'.2.1) (maxL := q'.2.2.1) (ret := q'.2.2.2) (n := (As.map (mm_up E)).length) (H := H) (R := R) ⟨hC.1, hC.2.1, hC.2.2.1, hC.2.2.2.1, hts⟩ (kk l)
    ⟨⟨rfl, rfl, hfr, by have := hg.2.2.2.2; show 8 + (q'.2.2.1 + 11) + 40 * d ≤ R.locals; omega, hws, hcw, hts _ hg.1, hts _ hg.2.1, hg.2.2.1, hlen, hts _ hl⟩, hts _ hstt⟩
    ⟨mm_blind, fun U hU hW => ⟨rfl, by rw [hU]; exact hR.moved hW.alike, va_K.moved hW.alike hK⟩⟩
    rfl rfl hL.1 (by rw [hs0, List.map_append, List.map_reverse]) (by rw [mm_cw_sum]; show 2 * 0 + _ ≤ 8; omega) hd ⟨hce, hsl⟩
  refine mm_back hrun hS ?_
  intro v Sh' σ' H1 locs1 hq hR1 hS1
  rw [mm_tl]
  exact hq p l e s m args below meth c9 H1 locs1 la QM hC hR1 hS1 hL hret
theorem vv_invSN {i d mc' ms' : Nat} {q' : mm_Y} {As st0 : List mm_PV} {host : String} (hd : decode q.2.1 pc = .ok (.invokestatic i, 3)) (hp : pc + 3 = pc') (hg : mm_good q' As.length) (hl : Cond.methodLinkNest q.1.cls i q'.1 host ∈ mm_T) (hstt : Cond.static q'.1 ∈ mm_T) (hs0 : st0 = As.reverse ++ st) (hfr : d + 1 ≤ R.frames) (hlo : 40 * (d + 1) ≤ R.locals) (hce : cs + mc' ≤ R.cells) (hsl : sl + ms' ≤ R.slots) (hrm : (st.map mm_cw).sum ≤ 8) (kk : vm E d mc' ms' q' (As) Sh σ (fun v Sh' σ' => vv E R q mc ms (cs + mc') (sl + ms') Sh' pc' ls (v.toList ++ st) σ' Q)) : vv E R q mc ms cs sl Sh pc ls st0 σ Q := by
  subst hp
  intro p l e s m args below meth c9 H locs la QM hC hR hS hL hret
  have hts := hC.2.2.2.2.1
  have hK := hC.2.2.2.2.2.1
  have hcw : Cond.code q'.1 q'.2.1 q'.2.2.1 q'.2.2.2 ∈ mm_ws q' := by show Cond.code q'.1 q'.2.1 q'.2.2.1 q'.2.2.2 ∈ Cond.code q'.1 q'.2.1 q'.2.2.1 q'.2.2.2 :: mm_T; exact List.mem_cons_self
  have hws : ∀ w ∈ mm_ws q', ∀ (a' : Array Value) (U : State), s.WarmedH U.vm → w.before a' U = true := by
    intro w hw a' U hW
    rcases List.mem_cons.mp hw with rfl | hw
    · exact mm_T_pay hts _ hg.1 a' U hW
    · exact mm_T_pay hts _ hw a' U hW
  have hlen : ∀ sig, parseMethodDescriptor q'.1.desc = some sig → (As.map (mm_up E)).length = sig.parameters.length := by
    intro sig h
    have h2 := hg.2.2.2.1
    rw [h] at h2
    rw [List.length_map]
    exact (Option.some.inj h2).symm
  have hrun := va_runSN (l := l) (e := e) (below := below) (meth := meth) (locs := locs) (cells := cs) (slots := sl) (g := F0 m pc la (st0.map (mm_up E))) (As := As.map (mm_up E)) (rest := st.map (mm_up E)) (bytes := q'.2.1) (maxL := q'.2.2.1) (ret := q'.2.2.2) (n := (As.map (mm_up E)).length) (H := H) (R := R) ⟨hC.1, hC.2.1, hC.2.2.1, hC.2.2.2.1, hts⟩ (kk l)
    ⟨⟨⟨rfl, rfl, hfr, by have := hg.2.2.2.2; show 8 + (q'.2.2.1 + 11) + 40 * d ≤ R.locals; omega, hws, hcw⟩, hts _ hg.1, hts _ hg.2.1, hg.2.2.1, hlen, hts _ hl⟩, hts _ hstt, trivial⟩
    ⟨mm_blind, fun U hU hW => ⟨rfl, by rw [hU]; exact hR.moved hW.alike, va_K.moved hW.alike hK⟩⟩
    rfl rfl hL.1 (by rw [hs0, List.map_append, List.map_reverse]) (by rw [mm_cw_sum]; show 2 * 0 + _ ≤ 8; omega) hd ⟨hce, hsl⟩
  refine mm_back hrun hS ?_
  intro v Sh' σ' H1 locs1 hq hR1 hS1
  rw [mm_tl]
  exact hq p l e s m args below meth c9 H1 locs1 la QM hC hR1 hS1 hL hret
theorem vv_invI {i d mc' ms' : Nat} {q' : mm_Y} {As st0 : List mm_PV} {o : Nat} (hd : decode q.2.1 pc = .ok (.invokespecial i, 3)) (hp : pc + 3 = pc') (hg : mm_good q' As.length) (hl : Cond.methodLink q.1.cls i q'.1 ∈ mm_T) (ho : 2 ≤ o) (hin : Cond.instanceMethod q'.1 ∈ mm_T) (hnm : q'.1.name = "<init>") (hrt : q'.2.2.2 = none) (hs0 : st0 = As.reverse ++ vR o :: st) (hfr : d + 1 ≤ R.frames) (hlo : 40 * (d + 1) ≤ R.locals) (hce : cs + mc' ≤ R.cells) (hsl : sl + ms' ≤ R.slots) (hrm : (st.map mm_cw).sum ≤ 8) (kk : vm E d mc' ms' q' (vR o :: As) Sh σ (fun v Sh' σ' => vv E R q mc ms (cs + mc') (sl + ms') Sh' pc' ls (v.toList ++ st) σ' Q)) : vv E R q mc ms cs sl Sh pc ls st0 σ Q := by
  subst hp
  intro p l e s m args below meth c9 H locs la QM hC hR hS hL hret
  have hts := hC.2.2.2.2.1
  have hK := hC.2.2.2.2.2.1
  have hcw : Cond.code q'.1 q'.2.1 q'.2.2.1 none ∈ mm_ws q' := by show Cond.code q'.1 q'.2.1 q'.2.2.1 none ∈ Cond.code q'.1 q'.2.1 q'.2.2.1 q'.2.2.2 :: mm_T; rw [hrt]; exact List.mem_cons_self
  have hws : ∀ w ∈ mm_ws q', ∀ (a' : Array Value) (U : State), s.WarmedH U.vm → w.before a' U = true := by
    intro w hw a' U hW
    rcases List.mem_cons.mp hw with rfl | hw
    · exact mm_T_pay hts _ hg.1 a' U hW
    · exact mm_T_pay hts _ hw a' U hW
  have hlen : ∀ sig, parseMethodDescriptor q'.1.desc = some sig → (As.map (mm_up E)).length = sig.parameters.length := by
    intro sig h
    have h2 := hg.2.2.2.1
    rw [h] at h2
    rw [List.length_map]
    exact (Option.some.inj h2).symm
  have hrun := va_runI (l := l) (e := e) (below := below) (meth := meth) (locs := locs) (cells := cs) (slots := sl) (g := F0 m pc la (st0.map (mm_up E))) (As := As.map (mm_up E)) (b := mm_ad E o) (rest := st.map (mm_up E)) (bytes := q'.2.1) (maxL := q'.2.2.1) (n := (As.map (mm_up E)).length) (H := H) (R := R) ⟨hC.1, hC.2.1, hC.2.2.1, hC.2.2.2.1, hts⟩ (kk l)
    ⟨⟨rfl, rfl, hfr, by have := hg.2.2.2.2; show 8 + (q'.2.2.1 + 11) + 40 * d ≤ R.locals; omega, hws, hcw, hrt ▸ hts _ hg.1, hts _ hg.2.1, hg.2.2.1, hlen, hts _ hl⟩, hnm, hts _ hin⟩
    ⟨mm_blind, fun U hU hW => ⟨by rw [List.map_cons, mm_up_ref (by omega)], by rw [hU]; exact hR.moved hW.alike, va_K.moved hW.alike hK⟩⟩
    rfl rfl hL.1 (by rw [hs0, List.map_append, List.map_reverse, List.map_cons, mm_up_ref (by omega)]) (by rw [mm_cw_sum]; show 2 * 0 + _ ≤ 8; omega) hd ⟨hce, hsl⟩
  refine mm_back hrun hS ?_
  intro v Sh' σ' H1 locs1 hq hR1 hS1
  rw [mm_tl]
  exact hq p l e s m args below meth c9 H1 locs1 la QM hC hR1 hS1 hL hret
theorem vv_invIN {i d mc' ms' : Nat} {q' : mm_Y} {As st0 : List mm_PV} {o : Nat} {host : String} (hd : decode q.2.1 pc = .ok (.invokespecial i, 3)) (hp : pc + 3 = pc') (hg : mm_good q' As.length) (hl : Cond.methodLinkNest q.1.cls i q'.1 host ∈ mm_T) (ho : 2 ≤ o) (hin : Cond.instanceMethod q'.1 ∈ mm_T) (hnm : q'.1.name = "<init>") (hrt : q'.2.2.2 = none) (hs0 : st0 = As.reverse ++ vR o :: st) (hfr : d + 1 ≤ R.frames) (hlo : 40 * (d + 1) ≤ R.locals) (hce : cs + mc' ≤ R.cells) (hsl : sl + ms' ≤ R.slots) (hrm : (st.map mm_cw).sum ≤ 8) (kk : vm E d mc' ms' q' (vR o :: As) Sh σ (fun v Sh' σ' => vv E R q mc ms (cs + mc') (sl + ms') Sh' pc' ls (v.toList ++ st) σ' Q)) : vv E R q mc ms cs sl Sh pc ls st0 σ Q := by
  subst hp
  intro p l e s m args below meth c9 H locs la QM hC hR hS hL hret
  have hts := hC.2.2.2.2.1
  have hK := hC.2.2.2.2.2.1
  have hcw : Cond.code q'.1 q'.2.1 q'.2.2.1 none ∈ mm_ws q' := by show Cond.code q'.1 q'.2.1 q'.2.2.1 none ∈ Cond.code q'.1 q'.2.1 q'.2.2.1 q'.2.2.2 :: mm_T; rw [hrt]; exact List.mem_cons_self
  have hws : ∀ w ∈ mm_ws q', ∀ (a' : Array Value) (U : State), s.WarmedH U.vm → w.before a' U = true := by
    intro w hw a' U hW
    rcases List.mem_cons.mp hw with rfl | hw
    · exact mm_T_pay hts _ hg.1 a' U hW
    · exact mm_T_pay hts _ hw a' U hW
  have hlen : ∀ sig, parseMethodDescriptor q'.1.desc = some sig → (As.map (mm_up E)).length = sig.parameters.length := by
    intro sig h
    have h2 := hg.2.2.2.1
    rw [h] at h2
    rw [List.length_map]
    exact (Option.some.inj h2).symm
  have hrun := va_runIN (l := l) (e := e) (below := below) (meth := meth) (locs := locs) (cells := cs) (slots := sl) (g := F0 m pc la (st0.map (mm_up E))) (As := As.map (mm_up E)) (b := mm_ad E o) (rest := st.map (mm_up E)) (bytes := q'.2.1) (maxL := q'.2.2.1) (n := (As.map (mm_up E)).length) (H := H) (R := R) ⟨hC.1, hC.2.1, hC.2.2.1, hC.2.2.2.1, hts⟩ (kk l)
    ⟨⟨⟨rfl, rfl, hfr, by have := hg.2.2.2.2; show 8 + (q'.2.2.1 + 11) + 40 * d ≤ R.locals; omega, hws, hcw⟩, hrt ▸ hts _ hg.1, hts _ hg.2.1, hg.2.2.1, hlen, hts _ hl⟩, hnm, hts _ hin⟩
    ⟨mm_blind, fun U hU hW => ⟨by rw [List.map_cons, mm_up_ref (by omega)], by rw [hU]; exact hR.moved hW.alike, va_K.moved hW.alike hK⟩⟩
    rfl rfl hL.1 (by rw [hs0, List.map_append, List.map_reverse, List.map_cons, mm_up_ref (by omega)]) (by rw [mm_cw_sum]; show 2 * 0 + _ ≤ 8; omega) hd ⟨hce, hsl⟩
  refine mm_back hrun hS ?_
  intro v Sh' σ' H1 locs1 hq hR1 hS1
  rw [mm_tl]
  exact hq p l e s m args below meth c9 H1 locs1 la QM hC hR1 hS1 hL hret
end MmMem
