/-! what happens, as a function; PLANS -/
def hapN (W S K C E : Nat → Int32) (L : Nat) : Nat → Nat → Int32
  | 0 => fun _ => 0
  | m + 1 => va_up (hapN W S K C E L m) m (hpF W S K C E (hapN W S K C E L m) L m)
def hapF (W S K C E : Nat → Int32) (L y : Nat) : Int32 := hapN W S K C E L (y + 1) y
theorem hapN_lt {W S K C E : Nat → Int32} {L : Nat} : ∀ (m y : Nat), y < m → hapN W S K C E L m y = hapF W S K C E L y
  | 0, y, h => absurd h (by omega)
  | m + 1, y, h => by
    by_cases hy : y = m
    · subst hy; rfl
    · show va_up _ m _ y = _
      rw [vau_n hy]
      exact hapN_lt m y (by omega)
theorem hapF_eq {W S K C E : Nat → Int32} {L y : Nat} (hL : L ≤ 8) : hapF W S K C E L y = hpF W S K C E (hapF W S K C E L) L y := by
  show va_up _ y _ y = _
  rw [vau_s]
  exact hpF_cg hL rfl rfl (fun _ _ => rfl) (fun _ _ => rfl) (fun _ _ => rfl) (fun j hj => hapN_lt y j hj)
/-- what satisfies the equations is what happens -/
theorem hapF_uniq {W S K C E H : Nat → Int32} {L n : Nat} (hL : L ≤ 8) (h : ∀ y, y < n → H y = hpF W S K C E H L y) : ∀ y, y < n → H y = hapF W S K C E L y := by
  intro y
  induction y using Nat.strongRecOn with
  | _ y ih =>
    intro hy
    rw [h y hy, hapF_eq hL]
    exact hpF_cg hL rfl rfl (fun _ _ => rfl) (fun _ _ => rfl) (fun _ _ => rfl) (fun j hj => ih j hj (by omega))
theorem hapF_cg {W W' S S' K K' C C' E E' : Nat → Int32} {L : Nat} (hL : L ≤ 8) (hK : ∀ k, k < L → K k = K' k) (hC : ∀ k, k < L → C k = C' k) (hE : ∀ k, k < L → E k = E' k) : ∀ (y : Nat), (∀ z, z ≤ y → W z = W' z) → (∀ z, z ≤ y → S z = S' z) → hapF W S K C E L y = hapF W' S' K' C' E' L y := by
  intro y
  induction y using Nat.strongRecOn with
  | _ y ih =>
    intro hW hS
    rw [hapF_eq hL, hapF_eq hL]
    exact hpF_cg hL (hW y (Nat.le_refl _)) (hS y (Nat.le_refl _)) hK hC hE (fun j hj => ih j hj (fun z hz => hW z (by omega)) (fun z hz => hS z (by omega)))
/-- the CHANGE c (a number) of a YEAR -/
def chW (w : Int32) (c : Nat) : Int32 := if c = 5 then 2 else if c = 6 then w else 1
def chS (s : Int32) (c : Nat) : Int32 := if c = 5 then s else if c = 6 then s else nI c
def alC (w : Int32) (c : Nat) : Bool := decide (c = 6) || (if w = 1 then decide (c = 5) else decide (c < 5))
def alP (pl : Bool) (w : Int32) (c : Nat) : Bool := if pl && !decide (w = 0) then decide (c = 6) else alC w c
def hbF (h : Int32) : Int32 := if h = -9 then 32 else (1 : Int32) <<< (h &&& 31)
/-- the digits of a PLAN as a number of base 7, and back -/
def valP (p : Nat → Nat) : Nat → Nat
  | 0 => 0
  | y + 1 => 7 * valP p y + p y
def dgc (n code y : Nat) : Nat := code / 7 ^ (n - 1 - y) % 7
theorem valP_lt {p : Nat → Nat} : ∀ y, (∀ z, z < y → p z < 7) → valP p y < 7 ^ y
  | 0, _ => by simp [valP]
  | y + 1, h => by
    have h1 := valP_lt y (fun z hz => h z (by omega))
    have h2 := h y (by omega)
    simp only [valP, Nat.pow_succ]
    omega
theorem valP_cg {p q : Nat → Nat} : ∀ y, (∀ z, z < y → p z = q z) → valP p y = valP q y
  | 0, _ => rfl
  | y + 1, h => by simp only [valP]; rw [valP_cg y (fun z hz => h z (by omega)), h y (by omega)]
theorem valP_dg {p : Nat → Nat} : ∀ (y z : Nat), (∀ z, z < y → p z < 7) → z < y → valP p y / 7 ^ (y - 1 - z) % 7 = p z
  | 0, z, _, hz => absurd hz (by omega)
  | y + 1, z, h, hz => by
    have h2 := h y (by omega)
    by_cases hzy : z = y
    · subst hzy
      rw [show z + 1 - 1 - z = 0 by omega, Nat.pow_zero, Nat.div_one]
      simp only [valP]
      omega
    · have e : y + 1 - 1 - z = (y - 1 - z) + 1 := by omega
      rw [e, Nat.pow_succ, Nat.mul_comm, ← Nat.div_div_eq_div_mul]
      have e2 : valP p (y + 1) / 7 = valP p y := by simp only [valP]; omega
      rw [e2]
      exact valP_dg y z (fun z hz => h z (by omega)) (by omega)
/-- the codes whose first digits are p's -/
theorem dgc_pre {p : Nat → Nat} {n y m code z : Nat} (hn : y + m = n) (hp : ∀ z, z < y → p z < 7) (h1 : valP p y * 7 ^ m ≤ code) (h2 : code < (valP p y + 1) * 7 ^ m) (hz : z < y) : dgc n code z = p z := by
  have e : code / 7 ^ m = valP p y := by
    have hpos : 0 < 7 ^ m := Nat.pow_pos (by decide)
    apply Nat.le_antisymm
    · exact Nat.le_of_lt_succ ((Nat.div_lt_iff_lt_mul hpos).mpr h2)
    · exact (Nat.le_div_iff_mul_le hpos).mpr h1
  unfold dgc
  rw [show n - 1 - z = m + (y - 1 - z) by omega, Nat.pow_add, ← Nat.div_div_eq_div_mul, e]
  exact valP_dg y z hp hz
/-- how many of the first y CHANGES are STITCHES -/
def ctP (p : Nat → Nat) (y : Nat) : Nat := cn (fun z => !decide (p z = 6)) y
def hpP (W S K C E : Nat → Int32) (L : Nat) (p : Nat → Nat) (y : Nat) : Int32 := hapF (fun z => chW (W z) (p z)) (fun z => chS (S z) (p z)) K C E L y
theorem hpP_cg {W S K C E : Nat → Int32} {L y : Nat} {p q : Nat → Nat} (hL : L ≤ 8) (h : ∀ z, z ≤ y → p z = q z) : hpP W S K C E L p y = hpP W S K C E L q y :=
  hapF_cg hL (fun _ _ => rfl) (fun _ _ => rfl) (fun _ _ => rfl) y (fun z hz => by rw [h z hz]) (fun z hz => by rw [h z hz])
def ftP (wan : Nat → Int32) (wh : Bool) (K C E H : Nat → Int32) (L y : Nat) : Bool := !decide (wan y &&& hbF (H y) = 0) && (!wh || !exF (fun k => brIn K C E H k y) 0 L)
theorem exF_cg {p q : Nat → Bool} : ∀ (m i : Nat), (∀ k, i ≤ k → k < i + m → p k = q k) → exF p i m = exF q i m
  | 0, _, _ => rfl
  | m + 1, i, h => by simp only [exF]; rw [h i (Nat.le_refl _) (by omega), exF_cg m (i + 1) (fun k h1 h2 => h k (by omega) (by omega))]
theorem alF_cg {p q : Nat → Bool} : ∀ (m i : Nat), (∀ k, i ≤ k → k < i + m → p k = q k) → alF p i m = alF q i m
  | 0, _, _ => rfl
  | m + 1, i, h => by simp only [alF]; rw [h i (Nat.le_refl _) (by omega), alF_cg m (i + 1) (fun k h1 h2 => h k (by omega) (by omega))]
theorem brIn_cg {K K' C C' E E' H H' : Nat → Int32} {k y : Nat} (hK : K k = K' k) (hC : C k = C' k) (hE : E k = E' k) (hH : ∀ x, x ≤ y → H x = H' x) : brIn K C E H k y = brIn K' C' E' H' k y := by
  unfold brIn isK
  rw [hK, hC, hE]
  congr 1
  refine exF_cg _ _ (fun x h1 h2 => ?_)
  have hx : x ≤ y := by
    by_cases h4 : K' k = 4
    · rw [if_pos h4] at h1 h2; omega
    · rw [if_neg h4] at h1 h2; omega
  rw [hH x hx, hH y (Nat.le_refl _)]
theorem ftP_cg {wan : Nat → Int32} {wh : Bool} {K K' C C' E E' H H' : Nat → Int32} {L y : Nat} (hK : ∀ k, k < L → K k = K' k) (hC : ∀ k, k < L → C k = C' k) (hE : ∀ k, k < L → E k = E' k) (hH : ∀ x, x ≤ y → H x = H' x) : ftP wan wh K C E H L y = ftP wan wh K' C' E' H' L y := by
  unfold ftP
  rw [hH y (Nat.le_refl _), exF_cg (p := fun k => brIn K C E H k y) (q := fun k => brIn K' C' E' H' k y) L 0 (fun k _ h => brIn_cg (hK k (by omega)) (hC k (by omega)) (hE k (by omega)) hH)]
/-- the PLAN p is good as far as the YEAR y goes -/
def okY (W S K C E wan : Nat → Int32) (L most : Nat) (wh pl : Bool) (p : Nat → Nat) (y : Nat) : Bool :=
  alP pl (W y) (p y) && (decide (ctP p (y + 1) ≤ most) && ftP wan wh K C E (hpP W S K C E L p) L y)
theorem okY_cg {W S K C E wan : Nat → Int32} {L most y : Nat} {wh pl : Bool} {p q : Nat → Nat} (hL : L ≤ 8) (h : ∀ z, z ≤ y → p z = q z) : okY W S K C E wan L most wh pl p y = okY W S K C E wan L most wh pl q y := by
  unfold okY
  rw [h y (Nat.le_refl _)]
  have e1 : ctP p (y + 1) = ctP q (y + 1) := cn_cg _ (fun z hz => by rw [h z (by omega)])
  rw [e1, ftP_cg (fun _ _ => rfl) (fun _ _ => rfl) (fun _ _ => rfl) (fun x hx => hpP_cg hL (fun z hz => h z (by omega)))]
def gdC (W S K C E wan : Nat → Int32) (L most : Nat) (wh pl : Bool) (n code : Nat) : Bool := alF (fun y => okY W S K C E wan L most wh pl (dgc n code) y) 0 n
theorem cn_skip {g : Nat → Bool} {a : Nat} : ∀ m, (∀ k, a ≤ k → k < a + m → g k = false) → cn g (a + m) = cn g a
  | 0, _ => rfl
  | m + 1, h => by
    have e : cn g (a + (m + 1)) = cn g (a + m) + if g (a + m) then 1 else 0 := rfl
    rw [e, cn_skip m (fun k h1 h2 => h k h1 (by omega))]
    simp [h (a + m) (by omega) (by omega)]
/-- the first of N codes with g -/
def fsC (g : Nat → Bool) : Nat → Nat
  | 0 => 0
  | N + 1 => if 0 < cn g N then fsC g N else N
theorem fsC_skip {g : Nat → Bool} {a : Nat} (h0 : 0 < cn g a) : ∀ m, fsC g (a + m) = fsC g a
  | 0 => rfl
  | m + 1 => by
    show (if 0 < cn g (a + m) then fsC g (a + m) else a + m) = _
    have : cn g a ≤ cn g (a + m) := by
      clear h0
      induction m with
      | zero => exact Nat.le_refl _
      | succ m ih => show _ ≤ cn g (a + m) + _; omega
    rw [if_pos (by omega), fsC_skip h0 m]
/-- the search stands ahead of the code c: how many there were, the first of these -/
def SkI (g : Nat → Bool) (n : Nat) (w : Nat → Nat → Int32) (c : Nat) : Prop := w 26 6 = nI (cn g c) ∧ (0 < cn g c → ∀ y, y < n → w 40 y = nI (dgc n (fsC g c) y))
/-- the tried CLOTH: its first y YEARS are changed by p -/
def TrI (W S : Nat → Int32) (K C E : Nat → Int32) (n L : Nat) (w : Nat → Nat → Int32) (p : Nat → Nat) (y : Nat) : Prop :=
  (∀ z, z < y → w 28 z = chW (W z) (p z) ∧ w 29 z = chS (S z) (p z) ∧ w 38 z = nI (p z) ∧ w 36 z = hpP W S K C E L p z) ∧ ∀ z, y ≤ z → z < n → w 28 z = W z ∧ w 29 z = S z
/-- the cells that the search may change -/
def gfr (w v : Nat → Nat → Int32) : Prop := (∀ j, j ≠ 26 → j ≠ 28 → j ≠ 29 → j ≠ 36 → j ≠ 37 → j ≠ 38 → j ≠ 40 → w j = v j) ∧ ∀ k, k ≠ 6 → w 26 k = v 26 k
theorem gfr_rf {w : Nat → Nat → Int32} : gfr w w := ⟨fun _ _ _ _ _ _ _ _ => rfl, fun _ _ => rfl⟩
theorem gfr_tr {u w v : Nat → Nat → Int32} (h1 : gfr u w) (h2 : gfr w v) : gfr u v := ⟨fun j a b c d e f g => (h1.1 j a b c d e f g).trans (h2.1 j a b c d e f g), fun k h => (h1.2 k h).trans (h2.2 k h)⟩
section S28
variable {X : aX} {d : Nat} {vi : Nat → Nat → Int32} {vl : Nat → Nat → Int64} {post : aO}
theorem c_S_happeningBit {x : Int32} (hQ : post (some (.int (hbF x))) (mk vi vl)) : CallOk X (d + 1) 0 0 k_S_happeningBit [.int x] (mk vi vl) post := by
  refine CallOk.intro (by decide +kernel) rfl (Nat.le_of_ble_eq_true rfl) ?_
  unfold hbF at hQ
  refine b_S_happeningBit_0 (fun h0 => b_S_happeningBit_11 (b_S_happeningBit_14 ?_)) (fun h0 => b_S_happeningBit_6 (b_S_happeningBit_14 ?_))
  · rw [if_neg h0] at hQ; exact hQ
  · rw [if_pos h0] at hQ; exact hQ
theorem c_P_begin {x y : Bool} (hQ : post none (mk (up1 (up2 (up2 vi 26 4 (bI x)) 26 5 (bI y)) 39 (flF (vi 39) 63 5)) vl)) : CallOk X (d + 2) 0 0 k_P_begin [.ref 26, .int (bI x), .int (bI y)] (mk vi vl) post := by
  refine CallOk.intro (by decide +kernel) rfl (Nat.le_of_ble_eq_true rfl) ?_
  have hx := bI_01 x
  have hy := bI_01 y
  refine b_P_begin_0 (by first | assumption | decide | (refine vp_in_nI ?_ ?_ <;> omega) | omega | simp_all) (fun w0 hw0 => b_P_begin_5 (by first | assumption | decide | (refine vp_in_nI ?_ ?_ <;> omega) | omega | simp_all) (fun w5 hw5 => b_P_begin_10 ?_))
  refine c_J_fill lq_39 sq_39 (by decide) ?_
  refine b_P_begin_19 ?_
  rw [hw5, hw0, up2_n (show 39 ≠ 26 by decide), up2_n (show 39 ≠ 26 by decide)]
  exact hQ
theorem c_P_want {y : Nat} {x : Int32} (hy : y < 5) (hQ : post none (mk (up2 vi 39 y x) vl)) : CallOk X (d + 1) 0 0 k_P_want [.ref 26, .int (nI y), .int x] (mk vi vl) post := by
  refine CallOk.intro (by decide +kernel) rfl (Nat.le_of_ble_eq_true rfl) ?_
  refine b_P_want_0 (by first | assumption | decide | (refine vp_in_nI ?_ ?_ <;> omega) | omega | simp_all) (fun w0 hw0 => b_P_want_7 ?_)
  rw [hw0, nI_clamp (by omega)]; exact hQ
theorem alC_al {w : Int32} {c : Nat} (hc : c < 7) : (decide (nI c = 6) || (if w = 1 then decide (nI c = 5) else decide (0 ≤ (nI c).toInt ∧ (nI c).toInt < 5))) = alC w c := by
  unfold alC
  rw [nI_toInt (by omega)]
  have e6 : (nI c = 6) ↔ c = 6 := nI_eq (a := c) (b := 6) (by omega) (by omega)
  have e5 : (nI c = 5) ↔ c = 5 := nI_eq (a := c) (b := 5) (by omega) (by omega)
  have e4 : ((0 : Int) ≤ (c : Int) ∧ (c : Int) < 5) ↔ c < 5 := by omega
  simp only [e6, e5, e4]
theorem c_P_isAllowed {y c : Nat} {pl : Bool} (hpl : vi 26 5 = bI pl) (hy : y < 5) (hc : c < 7) (hQ : post (some (.int (bI (alP pl (vi 28 y) c)))) (mk vi vl)) : CallOk X (d + 3) 0 0 k_P_isAllowed [.ref 26, .int (nI y), .int (nI c)] (mk vi vl) post := by
  refine CallOk.intro (by decide +kernel) rfl (Nat.le_of_ble_eq_true rfl) ?_
  have cy : (nI y).toNatClampNeg = y := nI_clamp (by omega)
  have e6 : (nI c = 6) ↔ c = 6 := nI_eq (a := c) (b := 6) (by omega) (by omega)
  unfold alP at hQ
  refine b_P_isAllowed_0 (fun h0 => b_P_isAllowed_31 ?_) (fun h0 => b_P_isAllowed_7 (by first | assumption | decide | (refine vp_in_nI ?_ ?_ <;> omega) | omega | simp_all) (fun h7 => b_P_isAllowed_31 ?_) (fun h7 => b_P_isAllowed_19 (fun h19 => b_P_isAllowed_29 (b_P_isAllowed_30 (by first | assumption | decide | (refine vp_in_nI ?_ ?_ <;> omega) | omega | simp_all) ?_)) (fun h19 => b_P_isAllowed_25 (b_P_isAllowed_30 (by first | assumption | decide | (refine vp_in_nI ?_ ?_ <;> omega) | omega | simp_all) ?_))))
  · refine c_C_allows (b := 27) isCl_27 hy ?_
    rw [alC_al hc]
    have := bI_01 (alC (vi (27 + 1) y) c)
    refine b_P_isAllowed_40 (by first | assumption | decide | (refine vp_in_nI ?_ ?_ <;> omega) | omega | simp_all) ?_
    rw [hpl] at h0
    rw [bI_f h0] at hQ
    exact hQ
  · refine c_C_allows (b := 27) isCl_27 hy ?_
    rw [alC_al hc]
    have := bI_01 (alC (vi (27 + 1) y) c)
    refine b_P_isAllowed_40 (by first | assumption | decide | (refine vp_in_nI ?_ ?_ <;> omega) | omega | simp_all) ?_
    rw [cy] at h7
    simpa [h7] using hQ
  · rw [cy] at h7
    rw [hpl] at h0
    rw [e6] at h19
    simpa [bI_t h0, h7, h19, bI] using hQ
  · rw [cy] at h7
    rw [hpl] at h0
    rw [e6] at h19
    simpa [bI_t h0, h7, h19, bI] using hQ
theorem c_P_fits {y L : Nat} {wh : Bool} (hwh : vi 26 4 = bI wh) (hy : y < 5) (hL : vi 27 3 = nI L) (hL8 : L ≤ 8) (hK : ∀ k, k < L → vp_in (vi 30 k) 6) (hQ : post (some (.int (bI (ftP (vi 39) wh (vi 30) (vi 31) (vi 32) (vi 36) L y)))) (mk vi vl)) : CallOk X (d + 4) 0 0 k_P_fits [.ref 26, .int (nI y)] (mk vi vl) post := by
  refine CallOk.intro (by decide +kernel) rfl (Nat.le_of_ble_eq_true rfl) ?_
  have cy : (nI y).toNatClampNeg = y := nI_clamp (by omega)
  unfold ftP at hQ
  refine b_P_fits_0 (by first | assumption | decide | (refine vp_in_nI ?_ ?_ <;> omega) | omega | simp_all) (by first | assumption | decide | (refine vp_in_nI ?_ ?_ <;> omega) | omega | simp_all) ?_
  refine c_S_happeningBit ?_
  rw [cy]
  refine b_P_fits_18 (fun h18 => b_P_fits_24 (fun h24 => b_P_fits_42 (b_P_fits_47 (by first | assumption | decide | (refine vp_in_nI ?_ ?_ <;> omega) | omega | simp_all) ?_)) (fun h24 => b_P_fits_31 ?_)) (fun h18 => b_P_fits_22 ?_)
  · rw [hwh] at h24
    simpa [h18, bI_f h24, bI] using hQ
  · rw [hwh] at h24
    refine c_C_isAnyBrokenIn (b := 27) isCl_27 hL hL8 hy hK ?_
    cases hx : exF (fun k => brIn (vi (27 + 3)) (vi (27 + 4)) (vi (27 + 5)) (vi (27 + 9)) k y) 0 L
    · refine b_P_fits_39 (fun h39 => absurd h39 (by first | decide | assumption | omega | simp_all)) (fun h39 => b_P_fits_42 (b_P_fits_47 (by first | assumption | decide | (refine vp_in_nI ?_ ?_ <;> omega) | omega | simp_all) ?_))
      have hx' : exF (fun k => brIn (vi 30) (vi 31) (vi 32) (vi 36) k y) 0 L = false := hx
      simpa [h18, bI_t h24, hx', bI] using hQ
    · refine b_P_fits_39 (fun h39 => b_P_fits_46 (b_P_fits_47 (by first | assumption | decide | (refine vp_in_nI ?_ ?_ <;> omega) | omega | simp_all) ?_)) (fun h39 => absurd h39 (by first | decide | assumption | omega | simp_all))
      have hx' : exF (fun k => brIn (vi 30) (vi 31) (vi 32) (vi 36) k y) 0 L = true := hx
      simpa [h18, bI_t h24, hx', bI] using hQ
  · simpa [h18, bI] using hQ
end S28
