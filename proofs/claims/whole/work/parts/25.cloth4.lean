/-! counting bits; what is broken -/
def bcE (x0 : Int32) : Int32 := ((((((((x0 - (((x0.toUInt32 >>> ((1 : Int32).toUInt32 &&& Int32.toUInt32 31)).toInt32) &&& (1431655765 : Int32))) &&& (858993459 : Int32)) + ((((x0 - (((x0.toUInt32 >>> ((1 : Int32).toUInt32 &&& Int32.toUInt32 31)).toInt32) &&& (1431655765 : Int32))).toUInt32 >>> ((2 : Int32).toUInt32 &&& Int32.toUInt32 31)).toInt32) &&& (858993459 : Int32))) + (((((x0 - (((x0.toUInt32 >>> ((1 : Int32).toUInt32 &&& Int32.toUInt32 31)).toInt32) &&& (1431655765 : Int32))) &&& (858993459 : Int32)) + ((((x0 - (((x0.toUInt32 >>> ((1 : Int32).toUInt32 &&& Int32.toUInt32 31)).toInt32) &&& (1431655765 : Int32))).toUInt32 >>> ((2 : Int32).toUInt32 &&& Int32.toUInt32 31)).toInt32) &&& (858993459 : Int32))).toUInt32 >>> ((4 : Int32).toUInt32 &&& Int32.toUInt32 31)).toInt32)) &&& (252645135 : Int32)) + (((((((x0 - (((x0.toUInt32 >>> ((1 : Int32).toUInt32 &&& Int32.toUInt32 31)).toInt32) &&& (1431655765 : Int32))) &&& (858993459 : Int32)) + ((((x0 - (((x0.toUInt32 >>> ((1 : Int32).toUInt32 &&& Int32.toUInt32 31)).toInt32) &&& (1431655765 : Int32))).toUInt32 >>> ((2 : Int32).toUInt32 &&& Int32.toUInt32 31)).toInt32) &&& (858993459 : Int32))) + (((((x0 - (((x0.toUInt32 >>> ((1 : Int32).toUInt32 &&& Int32.toUInt32 31)).toInt32) &&& (1431655765 : Int32))) &&& (858993459 : Int32)) + ((((x0 - (((x0.toUInt32 >>> ((1 : Int32).toUInt32 &&& Int32.toUInt32 31)).toInt32) &&& (1431655765 : Int32))).toUInt32 >>> ((2 : Int32).toUInt32 &&& Int32.toUInt32 31)).toInt32) &&& (858993459 : Int32))).toUInt32 >>> ((4 : Int32).toUInt32 &&& Int32.toUInt32 31)).toInt32)) &&& (252645135 : Int32)).toUInt32 >>> ((8 : Int32).toUInt32 &&& Int32.toUInt32 31)).toInt32)) + ((((((((x0 - (((x0.toUInt32 >>> ((1 : Int32).toUInt32 &&& Int32.toUInt32 31)).toInt32) &&& (1431655765 : Int32))) &&& (858993459 : Int32)) + ((((x0 - (((x0.toUInt32 >>> ((1 : Int32).toUInt32 &&& Int32.toUInt32 31)).toInt32) &&& (1431655765 : Int32))).toUInt32 >>> ((2 : Int32).toUInt32 &&& Int32.toUInt32 31)).toInt32) &&& (858993459 : Int32))) + (((((x0 - (((x0.toUInt32 >>> ((1 : Int32).toUInt32 &&& Int32.toUInt32 31)).toInt32) &&& (1431655765 : Int32))) &&& (858993459 : Int32)) + ((((x0 - (((x0.toUInt32 >>> ((1 : Int32).toUInt32 &&& Int32.toUInt32 31)).toInt32) &&& (1431655765 : Int32))).toUInt32 >>> ((2 : Int32).toUInt32 &&& Int32.toUInt32 31)).toInt32) &&& (858993459 : Int32))).toUInt32 >>> ((4 : Int32).toUInt32 &&& Int32.toUInt32 31)).toInt32)) &&& (252645135 : Int32)) + (((((((x0 - (((x0.toUInt32 >>> ((1 : Int32).toUInt32 &&& Int32.toUInt32 31)).toInt32) &&& (1431655765 : Int32))) &&& (858993459 : Int32)) + ((((x0 - (((x0.toUInt32 >>> ((1 : Int32).toUInt32 &&& Int32.toUInt32 31)).toInt32) &&& (1431655765 : Int32))).toUInt32 >>> ((2 : Int32).toUInt32 &&& Int32.toUInt32 31)).toInt32) &&& (858993459 : Int32))) + (((((x0 - (((x0.toUInt32 >>> ((1 : Int32).toUInt32 &&& Int32.toUInt32 31)).toInt32) &&& (1431655765 : Int32))) &&& (858993459 : Int32)) + ((((x0 - (((x0.toUInt32 >>> ((1 : Int32).toUInt32 &&& Int32.toUInt32 31)).toInt32) &&& (1431655765 : Int32))).toUInt32 >>> ((2 : Int32).toUInt32 &&& Int32.toUInt32 31)).toInt32) &&& (858993459 : Int32))).toUInt32 >>> ((4 : Int32).toUInt32 &&& Int32.toUInt32 31)).toInt32)) &&& (252645135 : Int32)).toUInt32 >>> ((8 : Int32).toUInt32 &&& Int32.toUInt32 31)).toInt32)).toUInt32 >>> ((16 : Int32).toUInt32 &&& Int32.toUInt32 31)).toInt32)) &&& (63 : Int32))
def cn (p : Nat → Bool) : Nat → Nat
  | 0 => 0
  | n + 1 => cn p n + if p n then 1 else 0
theorem cn_le (p : Nat → Bool) : ∀ n, cn p n ≤ n
  | 0 => Nat.le_refl _
  | n + 1 => by have := cn_le p n; simp only [cn]; by_cases h : p n = true <;> simp [h] <;> omega
theorem cn_cg {p q : Nat → Bool} : ∀ n, (∀ k, k < n → p k = q k) → cn p n = cn q n
  | 0, _ => rfl
  | n + 1, h => by simp only [cn]; rw [cn_cg n (fun k hk => h k (by omega)), h n (by omega)]
/-- how many of the lowest eight bits are set -/
def pop (m : Nat) : Nat := cn (fun k => m.testBit k) 8
theorem bc_ok : ∀ m, m < 256 → bcE (nI m) = nI (pop m) := by decide +kernel
def tzN (m : Nat) : Nat := if m.testBit 0 then 0 else if m.testBit 1 then 1 else if m.testBit 2 then 2 else if m.testBit 3 then 3 else 4
theorem tz_ok : ∀ m, m < 32 → m ≠ 0 → ∃ t, t < 5 ∧ (nI m ^^^ -1) &&& (nI m - 1) = nI (2 ^ t - 1) ∧ tzN m = t := by decide +kernel
theorem nI_or : ∀ a, a < 32 → ∀ b, b < 32 → nI a ||| nI b = nI (a ||| b) := by decide +kernel
theorem bit_ok : ∀ m, m < 256 → ∀ j, j < 8 → ((nI m >>> (nI j &&& 31)) &&& 1) = if m.testBit j then 1 else 0 := by decide +kernel
def brIn (K C E H : Nat → Int32) (k y : Nat) : Bool := isK K k 1 && exF (fun x => (decide (H x = C k) && decide (H y = E k)) || (decide (H x = E k) && decide (H y = C k))) (if K k = 4 then 0 else y - 1) (y - (if K k = 4 then 0 else y - 1))
/-- whether a LAW is broken in n YEARS -/
def brk (K C E H : Nat → Int32) (n k : Nat) : Bool := exF (fun y => brIn K C E H k y) 1 (n - 1)
def fyA (C E H : Nat → Int32) (n m : Nat) : Nat → Nat
  | 0 => 0
  | j + 1 => if m.testBit j then fyA C E H n m j ||| (bb (fun y => decide (H y = C j)) n ||| bb (fun y => decide (H y = E j)) n) else fyA C E H n m j
theorem bb_32 {p : Nat → Bool} {n : Nat} (h : n ≤ 5) : bb p n < 32 := Nat.lt_of_lt_of_le (bb_lt p n) (by have : 2 ^ n ≤ 2 ^ 5 := Nat.pow_le_pow_right (by decide) h; simpa using this)
theorem or_32 {a b : Nat} (ha : a < 32) (hb : b < 32) : a ||| b < 32 := Nat.or_lt_two_pow (n := 5) ha hb
theorem fyA_32 {C E H : Nat → Int32} {n m : Nat} (h : n ≤ 5) : ∀ j, fyA C E H n m j < 32
  | 0 => by simp [fyA]
  | j + 1 => by
    have := fyA_32 (C := C) (E := E) (H := H) (m := m) h j
    simp only [fyA]
    by_cases ht : m.testBit j = true
    · rw [if_pos ht]; exact or_32 this (or_32 (bb_32 h) (bb_32 h))
    · rw [if_neg ht]; exact this
section S25
variable {X : aX} {d : Nat} {vi : Nat → Nat → Int32} {vl : Nat → Nat → Int64} {post : aO}
theorem c_J_bitCount {m : Nat} (hm : m < 256) (hQ : post (some (.int (nI (pop m)))) (mk vi vl)) : CallOk X (d + 1) 0 0 k_J_bitCount [.int (nI m)] (mk vi vl) post := by
  refine CallOk.intro (by decide +kernel) rfl (Nat.le_of_ble_eq_true rfl) ?_
  refine b_J_bitCount_0 ?_
  rw [← bc_ok m hm] at hQ
  exact hQ
theorem c_J_ntz {m : Nat} (hm : m < 32) (h0 : m ≠ 0) (hQ : post (some (.int (nI (tzN m)))) (mk vi vl)) : CallOk X (d + 1) 0 0 k_J_numberOfTrailingZeros [.int (nI m)] (mk vi vl) post := by
  refine CallOk.intro (by decide +kernel) rfl (Nat.le_of_ble_eq_true rfl) ?_
  obtain ⟨t, ht, e, ez⟩ := tz_ok m hm h0
  rw [ez] at hQ
  refine b_J_numberOfTrailingZeros_0 (fun h0 => ?_) (fun h0 => ?_)
  · rw [e] at h0 ⊢
    rcases (show t = 0 ∨ t = 1 ∨ t = 2 ∨ t = 3 ∨ t = 4 by omega) with rfl | rfl | rfl | rfl | rfl
    · exact absurd h0 (by decide)
    · refine b_J_numberOfTrailingZeros_17 (fun h17 => b_J_numberOfTrailingZeros_34 (fun h34 => b_J_numberOfTrailingZeros_49 (fun h49 => b_J_numberOfTrailingZeros_62 (fun h62 => b_J_numberOfTrailingZeros_74 ?_) (fun h62 => absurd h62 (by first | decide | assumption | omega | simp_all))) (fun h49 => absurd h49 (by first | decide | assumption | omega | simp_all))) (fun h34 => absurd h34 (by first | decide | assumption | omega | simp_all))) (fun h17 => absurd h17 (by first | decide | assumption | omega | simp_all))
      exact hQ
    · refine b_J_numberOfTrailingZeros_17 (fun h17 => b_J_numberOfTrailingZeros_34 (fun h34 => b_J_numberOfTrailingZeros_49 (fun h49 => b_J_numberOfTrailingZeros_62 (fun h62 => b_J_numberOfTrailingZeros_74 ?_) (fun h62 => absurd h62 (by first | decide | assumption | omega | simp_all))) (fun h49 => absurd h49 (by first | decide | assumption | omega | simp_all))) (fun h34 => absurd h34 (by first | decide | assumption | omega | simp_all))) (fun h17 => absurd h17 (by first | decide | assumption | omega | simp_all))
      exact hQ
    · refine b_J_numberOfTrailingZeros_17 (fun h17 => b_J_numberOfTrailingZeros_34 (fun h34 => b_J_numberOfTrailingZeros_49 (fun h49 => b_J_numberOfTrailingZeros_62 (fun h62 => absurd h62 (by first | decide | assumption | omega | simp_all)) (fun h62 => b_J_numberOfTrailingZeros_67 (b_J_numberOfTrailingZeros_74 ?_))) (fun h49 => absurd h49 (by first | decide | assumption | omega | simp_all))) (fun h34 => absurd h34 (by first | decide | assumption | omega | simp_all))) (fun h17 => absurd h17 (by first | decide | assumption | omega | simp_all))
      exact hQ
    · refine b_J_numberOfTrailingZeros_17 (fun h17 => b_J_numberOfTrailingZeros_34 (fun h34 => b_J_numberOfTrailingZeros_49 (fun h49 => b_J_numberOfTrailingZeros_62 (fun h62 => absurd h62 (by first | decide | assumption | omega | simp_all)) (fun h62 => b_J_numberOfTrailingZeros_67 (b_J_numberOfTrailingZeros_74 ?_))) (fun h49 => absurd h49 (by first | decide | assumption | omega | simp_all))) (fun h34 => absurd h34 (by first | decide | assumption | omega | simp_all))) (fun h17 => absurd h17 (by first | decide | assumption | omega | simp_all))
      exact hQ
  · rw [e] at h0 ⊢
    rcases (show t = 0 ∨ t = 1 ∨ t = 2 ∨ t = 3 ∨ t = 4 by omega) with rfl | rfl | rfl | rfl | rfl
    · refine b_J_numberOfTrailingZeros_12 ?_
      exact hQ
    · exact absurd h0 (by decide)
    · exact absurd h0 (by decide)
    · exact absurd h0 (by decide)
    · exact absurd h0 (by decide)
theorem c_C_lawsOfKind {b L : Nat} {q : Int32} (hb : isCl b) (hL : vi b 3 = nI L) (hL8 : L ≤ 8) (hK : ∀ k, k < L → vp_in (vi (b + 3) k) 6) (hQ : post (some (.int (nI (cn (fun k => isK (vi (b + 3)) k q) L)))) (mk vi vl)) : CallOk X (d + 2) 0 0 k_C_lawsOfKind [.ref b, .int q] (mk vi vl) post := by
  refine CallOk.intro (by decide +kernel) rfl (Nat.le_of_ble_eq_true rfl) ?_
  refine b_C_lawsOfKind_0 ?_
  refine loop_up (P := fun j => wp X (d + 2) k_C_lawsOfKind 0 0 4 [some (.ref b), some (.int q), some (.int (nI (cn (fun k => isK (vi (b + 3)) k q) j))), some (.int (nI j))] [] (mk vi vl) post) L 0 (Nat.zero_le _) ?_ ?_
  · have e1 : vi b 3 ≤ nI L := by rw [hL]; exact nI_le (Nat.le_refl _) (by omega)
    refine b_C_lawsOfKind_4 (by first | assumption | decide | (refine vp_in_nI ?_ ?_ <;> omega) | omega | simp_all) (fun h4 => b_C_lawsOfKind_35 ?_) (fun h4 => absurd h4 (by first | decide | assumption | omega | simp_all))
    exact hQ
  · intro j _ hj ih
    have e1 : ¬ vi b 3 ≤ nI j := by rw [hL]; exact nI_ge hj (by omega)
    refine b_C_lawsOfKind_4 (by first | assumption | decide | (refine vp_in_nI ?_ ?_ <;> omega) | omega | simp_all) (fun h4 => absurd h4 (by first | decide | assumption | omega | simp_all)) (fun h4 => b_C_lawsOfKind_12 ?_ (by first | assumption | decide | (refine vp_in_nI ?_ ?_ <;> omega) | omega | simp_all))
    refine c_C_isOfKind hb (by omega) (hK j hj) ?_
    simp only [cn] at ih
    cases hk : isK (vi (b + 3)) j q
    · simp only [hk, Bool.false_eq_true, if_false] at ih
      refine b_C_lawsOfKind_19 (fun h19 => b_C_lawsOfKind_26 (b_C_lawsOfKind_27 ?_)) (fun h19 => absurd h19 (by first | decide | assumption | omega | simp_all))
      rw [nI_1, show (0 : Int32) = nI 0 from rfl, nI_add]
      exact ih
    · simp only [hk, if_true] at ih
      refine b_C_lawsOfKind_19 (fun h19 => absurd h19 (by first | decide | assumption | omega | simp_all)) (fun h19 => b_C_lawsOfKind_22 (b_C_lawsOfKind_27 ?_))
      rw [nI_1, nI_1]
      exact ih
theorem lo_val {y : Nat} (hy : y < 5) : (if (0 : Int32) < nI y - 1 then nI y - 1 else 0) = nI (y - 1) := by
  rcases (show y = 0 ∨ y = 1 ∨ y = 2 ∨ y = 3 ∨ y = 4 by omega) with rfl | rfl | rfl | rfl | rfl <;> decide
theorem c_C_isBrokenIn {b k y : Nat} (hb : isCl b) (hk : k < 8) (hy : y < 5) (hK : vp_in (vi (b + 3) k) 6) (hQ : post (some (.int (bI (brIn (vi (b + 3)) (vi (b + 4)) (vi (b + 5)) (vi (b + 9)) k y)))) (mk vi vl)) : CallOk X (d + 2) 0 0 k_C_isBrokenIn [.ref b, .int (nI k), .int (nI y)] (mk vi vl) post := by
  refine CallOk.intro (by decide +kernel) rfl (Nat.le_of_ble_eq_true rfl) ?_
  have ck : (nI k).toNatClampNeg = k := nI_clamp (by omega)
  have cy : (nI y).toNatClampNeg = y := nI_clamp (by omega)
  have vk : vp_in (nI k) 8 := vp_in_nI hk (by omega)
  have vy : vp_in (nI y) 5 := vp_in_nI hy (by omega)
  refine b_C_isBrokenIn_0 ?_ (by first | assumption | decide | (refine vp_in_nI ?_ ?_ <;> omega) | omega | simp_all)
  refine c_C_isOfKind hb hk hK ?_
  cases hi : isK (vi (b + 3)) k 1
  · refine b_C_isBrokenIn_6 (fun h6 => absurd h6 (by first | decide | assumption | omega | simp_all)) (fun h6 => b_C_isBrokenIn_9 ?_)
    simpa [brIn, hi, bI] using hQ
  · have key : ∀ lo, lo ≤ y → post (some (.int (bI (exF (fun x => (decide (vi (b + 9) x = vi (b + 4) k) && decide (vi (b + 9) y = vi (b + 5) k)) || (decide (vi (b + 9) x = vi (b + 5) k) && decide (vi (b + 9) y = vi (b + 4) k))) lo (y - lo))))) (mk vi vl) → wp X (d + 2) k_C_isBrokenIn 0 0 33 [some (.ref b), some (.int (nI k)), some (.int (nI y)), some (.int (nI lo))] [] (mk vi vl) post := by
      intro lo hlo
      refine loop_up (P := fun lo => post (some (.int (bI (exF (fun x => (decide (vi (b + 9) x = vi (b + 4) k) && decide (vi (b + 9) y = vi (b + 5) k)) || (decide (vi (b + 9) x = vi (b + 5) k) && decide (vi (b + 9) y = vi (b + 4) k))) lo (y - lo))))) (mk vi vl) → wp X (d + 2) k_C_isBrokenIn 0 0 33 [some (.ref b), some (.int (nI k)), some (.int (nI y)), some (.int (nI lo))] [] (mk vi vl) post) y lo hlo ?_ ?_
      · intro hq
        rw [Nat.sub_self] at hq
        have e1 : nI y ≤ nI y := nI_le (Nat.le_refl _) (by omega)
        refine b_C_isBrokenIn_33 (fun h33 => b_C_isBrokenIn_106 ?_) (fun h33 => absurd h33 (by first | decide | assumption | omega | simp_all))
        exact hq
      · intro j _ hj ih hq
        have e1 : ¬ nI y ≤ nI j := nI_ge hj (by omega)
        have cj : (nI j).toNatClampNeg = j := nI_clamp (by omega)
        have vj : vp_in (nI j) 5 := vp_in_nI (by omega) (by omega)
        rw [show y - j = (y - (j + 1)) + 1 by omega] at hq
        simp only [exF] at hq
        refine b_C_isBrokenIn_33 (fun h33 => absurd h33 (by first | decide | assumption | omega | simp_all)) (fun h33 => b_C_isBrokenIn_38 (by first | assumption | decide | (refine vp_in_nI ?_ ?_ <;> omega) | omega | simp_all) (by first | assumption | decide | (refine vp_in_nI ?_ ?_ <;> omega) | omega | simp_all) (by first | assumption | decide | (refine vp_in_nI ?_ ?_ <;> omega) | omega | simp_all) (fun h38 => b_C_isBrokenIn_68 (by first | assumption | decide | (refine vp_in_nI ?_ ?_ <;> omega) | omega | simp_all) (by first | assumption | decide | (refine vp_in_nI ?_ ?_ <;> omega) | omega | simp_all) (by first | assumption | decide | (refine vp_in_nI ?_ ?_ <;> omega) | omega | simp_all) (fun h68 => b_C_isBrokenIn_100 ?_) (fun h68 => b_C_isBrokenIn_83 (by first | assumption | decide | (refine vp_in_nI ?_ ?_ <;> omega) | omega | simp_all) (by first | assumption | decide | (refine vp_in_nI ?_ ?_ <;> omega) | omega | simp_all) (by first | assumption | decide | (refine vp_in_nI ?_ ?_ <;> omega) | omega | simp_all) (fun h83 => b_C_isBrokenIn_100 ?_) (fun h83 => b_C_isBrokenIn_98 ?_))) (fun h38 => b_C_isBrokenIn_53 (by first | assumption | decide | (refine vp_in_nI ?_ ?_ <;> omega) | omega | simp_all) (by first | assumption | decide | (refine vp_in_nI ?_ ?_ <;> omega) | omega | simp_all) (by first | assumption | decide | (refine vp_in_nI ?_ ?_ <;> omega) | omega | simp_all) (fun h53 => b_C_isBrokenIn_98 ?_) (fun h53 => b_C_isBrokenIn_68 (by first | assumption | decide | (refine vp_in_nI ?_ ?_ <;> omega) | omega | simp_all) (by first | assumption | decide | (refine vp_in_nI ?_ ?_ <;> omega) | omega | simp_all) (by first | assumption | decide | (refine vp_in_nI ?_ ?_ <;> omega) | omega | simp_all) (fun h68 => b_C_isBrokenIn_100 ?_) (fun h68 => b_C_isBrokenIn_83 (by first | assumption | decide | (refine vp_in_nI ?_ ?_ <;> omega) | omega | simp_all) (by first | assumption | decide | (refine vp_in_nI ?_ ?_ <;> omega) | omega | simp_all) (by first | assumption | decide | (refine vp_in_nI ?_ ?_ <;> omega) | omega | simp_all) (fun h83 => b_C_isBrokenIn_100 ?_) (fun h83 => b_C_isBrokenIn_98 ?_)))))
        all_goals simp only [ck, cy, cj] at *
        · rw [nI_1]; refine ih ?_; simpa [h38, h68] using hq
        · rw [nI_1]; refine ih ?_; simpa [h38, h83] using hq
        · simpa [h38, h68, h83, bI] using hq
        · simpa [h38, h53, bI] using hq
        · rw [nI_1]; refine ih ?_; simpa [h53, h68] using hq
        · rw [nI_1]; refine ih ?_; simpa [h53, h83] using hq
        · simpa [h68, h83, bI] using hq
    simp only [brIn, hi, Bool.true_and] at hQ
    refine b_C_isBrokenIn_6 (fun h6 => b_C_isBrokenIn_11 (by first | assumption | decide | (refine vp_in_nI ?_ ?_ <;> omega) | omega | simp_all) (by first | assumption | decide | (refine vp_in_nI ?_ ?_ <;> omega) | omega | simp_all) (fun h11 => b_C_isBrokenIn_25 (b_C_isBrokenIn_32 ?_)) (fun h11 => b_C_isBrokenIn_21 (b_C_isBrokenIn_32 ?_))) (fun h6 => absurd h6 (by first | decide | assumption | omega | simp_all))
    · rw [ck] at h11
      rw [lo_val hy]
      rw [if_neg h11] at hQ
      exact key (y - 1) (by omega) hQ
    · rw [ck] at h11
      rw [if_pos h11] at hQ
      exact key 0 (by omega) hQ
theorem c_C_isBroken {b n k : Nat} (hb : isCl b) (hn : vi b 0 = nI n) (hn5 : n ≤ 5) (hk : k < 8) (hK : vp_in (vi (b + 3) k) 6) (hQ : post (some (.int (bI (brk (vi (b + 3)) (vi (b + 4)) (vi (b + 5)) (vi (b + 9)) n k)))) (mk vi vl)) : CallOk X (d + 3) 0 0 k_C_isBroken [.ref b, .int (nI k)] (mk vi vl) post := by
  refine CallOk.intro (by decide +kernel) rfl (Nat.le_of_ble_eq_true rfl) ?_
  refine b_C_isBroken_0 ?_
  by_cases h0 : n = 0
  · subst h0
    have e1 : vi b 0 ≤ 1 := by rw [hn]; decide
    refine b_C_isBroken_2 (by first | assumption | decide | (refine vp_in_nI ?_ ?_ <;> omega) | omega | simp_all) (fun h2 => b_C_isBroken_27 ?_) (fun h2 => absurd h2 (by first | decide | assumption | omega | simp_all))
    exact hQ
  have key := loop_up (P := fun j => post (some (.int (bI (exF (fun y => brIn (vi (b + 3)) (vi (b + 4)) (vi (b + 5)) (vi (b + 9)) k y) j (n - j))))) (mk vi vl) → wp X (d + 3) k_C_isBroken 0 0 2 [some (.ref b), some (.int (nI k)), some (.int (nI j))] [] (mk vi vl) post) n 1 (by omega) ?_ ?_
  · exact key hQ
  · intro hq
    rw [Nat.sub_self] at hq
    have e1 : vi b 0 ≤ nI n := by rw [hn]; exact nI_le (Nat.le_refl _) (by omega)
    refine b_C_isBroken_2 (by first | assumption | decide | (refine vp_in_nI ?_ ?_ <;> omega) | omega | simp_all) (fun h2 => b_C_isBroken_27 ?_) (fun h2 => absurd h2 (by first | decide | assumption | omega | simp_all))
    exact hq
  · intro j _ hj ih hq
    have e1 : ¬ vi b 0 ≤ nI j := by rw [hn]; exact nI_ge hj (by omega)
    rw [show n - j = (n - (j + 1)) + 1 by omega] at hq
    simp only [exF] at hq
    refine b_C_isBroken_2 (by first | assumption | decide | (refine vp_in_nI ?_ ?_ <;> omega) | omega | simp_all) (fun h2 => absurd h2 (by first | decide | assumption | omega | simp_all)) (fun h2 => b_C_isBroken_10 ?_ (by first | assumption | decide | (refine vp_in_nI ?_ ?_ <;> omega) | omega | simp_all))
    refine c_C_isBrokenIn hb hk (by omega) hK ?_
    cases hh : brIn (vi (b + 3)) (vi (b + 4)) (vi (b + 5)) (vi (b + 9)) k j
    · refine b_C_isBroken_16 (fun h16 => b_C_isBroken_21 ?_) (fun h16 => absurd h16 (by first | decide | assumption | omega | simp_all))
      rw [nI_1]
      refine ih ?_
      simpa [hh] using hq
    · refine b_C_isBroken_16 (fun h16 => absurd h16 (by first | decide | assumption | omega | simp_all)) (fun h16 => b_C_isBroken_19 ?_)
      simpa [hh, bI] using hq
theorem c_C_isAnyBrokenIn {b L y : Nat} (hb : isCl b) (hL : vi b 3 = nI L) (hL8 : L ≤ 8) (hy : y < 5) (hK : ∀ k, k < L → vp_in (vi (b + 3) k) 6) (hQ : post (some (.int (bI (exF (fun k => brIn (vi (b + 3)) (vi (b + 4)) (vi (b + 5)) (vi (b + 9)) k y) 0 L)))) (mk vi vl)) : CallOk X (d + 3) 0 0 k_C_isAnyBrokenIn [.ref b, .int (nI y)] (mk vi vl) post := by
  refine CallOk.intro (by decide +kernel) rfl (Nat.le_of_ble_eq_true rfl) ?_
  refine b_C_isAnyBrokenIn_0 ?_
  have key := loop_up (P := fun j => post (some (.int (bI (exF (fun k => brIn (vi (b + 3)) (vi (b + 4)) (vi (b + 5)) (vi (b + 9)) k y) j (L - j))))) (mk vi vl) → wp X (d + 3) k_C_isAnyBrokenIn 0 0 2 [some (.ref b), some (.int (nI y)), some (.int (nI j))] [] (mk vi vl) post) L 0 (Nat.zero_le _) ?_ ?_
  · exact key hQ
  · intro hq
    rw [Nat.sub_self] at hq
    have e1 : vi b 3 ≤ nI L := by rw [hL]; exact nI_le (Nat.le_refl _) (by omega)
    refine b_C_isAnyBrokenIn_2 (by first | assumption | decide | (refine vp_in_nI ?_ ?_ <;> omega) | omega | simp_all) (fun h2 => b_C_isAnyBrokenIn_27 ?_) (fun h2 => absurd h2 (by first | decide | assumption | omega | simp_all))
    exact hq
  · intro j _ hj ih hq
    have e1 : ¬ vi b 3 ≤ nI j := by rw [hL]; exact nI_ge hj (by omega)
    rw [show L - j = (L - (j + 1)) + 1 by omega] at hq
    simp only [exF] at hq
    refine b_C_isAnyBrokenIn_2 (by first | assumption | decide | (refine vp_in_nI ?_ ?_ <;> omega) | omega | simp_all) (fun h2 => absurd h2 (by first | decide | assumption | omega | simp_all)) (fun h2 => b_C_isAnyBrokenIn_10 ?_ (by first | assumption | decide | (refine vp_in_nI ?_ ?_ <;> omega) | omega | simp_all))
    refine c_C_isBrokenIn hb (by omega) hy (hK j hj) ?_
    cases hh : brIn (vi (b + 3)) (vi (b + 4)) (vi (b + 5)) (vi (b + 9)) j y
    · refine b_C_isAnyBrokenIn_16 (fun h16 => b_C_isAnyBrokenIn_21 ?_) (fun h16 => absurd h16 (by first | decide | assumption | omega | simp_all))
      rw [nI_1]
      refine ih ?_
      simpa [hh] using hq
    · refine b_C_isAnyBrokenIn_16 (fun h16 => absurd h16 (by first | decide | assumption | omega | simp_all)) (fun h16 => b_C_isAnyBrokenIn_19 ?_)
      simpa [hh, bI] using hq
theorem c_C_brokenLaws {b n L : Nat} (hb : isCl b) (hn : vi b 0 = nI n) (hn5 : n ≤ 5) (hL : vi b 3 = nI L) (hL8 : L ≤ 8) (hK : ∀ k, k < L → vp_in (vi (b + 3) k) 6) (hQ : post (some (.int (nI (bb (fun k => brk (vi (b + 3)) (vi (b + 4)) (vi (b + 5)) (vi (b + 9)) n k) L)))) (mk vi vl)) : CallOk X (d + 4) 0 0 k_C_brokenLaws [.ref b] (mk vi vl) post := by
  refine CallOk.intro (by decide +kernel) rfl (Nat.le_of_ble_eq_true rfl) ?_
  refine b_C_brokenLaws_0 ?_
  refine loop_up (P := fun j => wp X (d + 4) k_C_brokenLaws 0 0 4 [some (.ref b), some (.int (nI (bb (fun k => brk (vi (b + 3)) (vi (b + 4)) (vi (b + 5)) (vi (b + 9)) n k) j))), some (.int (nI j))] [] (mk vi vl) post) L 0 (Nat.zero_le _) ?_ ?_
  · have e1 : vi b 3 ≤ nI L := by rw [hL]; exact nI_le (Nat.le_refl _) (by omega)
    refine b_C_brokenLaws_4 (by first | assumption | decide | (refine vp_in_nI ?_ ?_ <;> omega) | omega | simp_all) (fun h4 => b_C_brokenLaws_36 ?_) (fun h4 => absurd h4 (by first | decide | assumption | omega | simp_all))
    exact hQ
  · intro j _ hj ih
    have e1 : ¬ vi b 3 ≤ nI j := by rw [hL]; exact nI_ge hj (by omega)
    rw [← bb_st (by omega), ← nI_1] at ih
    refine b_C_brokenLaws_4 (by first | assumption | decide | (refine vp_in_nI ?_ ?_ <;> omega) | omega | simp_all) (fun h4 => absurd h4 (by first | decide | assumption | omega | simp_all)) (fun h4 => b_C_brokenLaws_12 ?_ (by first | assumption | decide | (refine vp_in_nI ?_ ?_ <;> omega) | omega | simp_all))
    refine c_C_isBroken hb hn hn5 (by omega) (hK j hj) ?_
    cases hh : brk (vi (b + 3)) (vi (b + 4)) (vi (b + 5)) (vi (b + 9)) n j
    · refine b_C_brokenLaws_18 (fun h18 => b_C_brokenLaws_27 (b_C_brokenLaws_28 ?_)) (fun h18 => absurd h18 (by first | decide | assumption | omega | simp_all))
      simpa [hh] using ih
    · refine b_C_brokenLaws_18 (fun h18 => absurd h18 (by first | decide | assumption | omega | simp_all)) (fun h18 => b_C_brokenLaws_21 (b_C_brokenLaws_28 ?_))
      simpa [hh] using ih
theorem c_C_firstYearOf {b n L m : Nat} (hb : isCl b) (hn : vi b 0 = nI n) (hn5 : n ≤ 5) (hL : vi b 3 = nI L) (hL8 : L ≤ 8) (hm : m < 256) (hQ : post (some (.int (if fyA (vi (b + 4)) (vi (b + 5)) (vi (b + 9)) n m L = 0 then -9 else nI (tzN (fyA (vi (b + 4)) (vi (b + 5)) (vi (b + 9)) n m L))))) (mk vi vl)) : CallOk X (d + 2) 0 0 k_C_firstYearOf [.ref b, .int (nI m)] (mk vi vl) post := by
  refine CallOk.intro (by decide +kernel) rfl (Nat.le_of_ble_eq_true rfl) ?_
  refine b_C_firstYearOf_0 ?_
  refine loop_up (P := fun j => wp X (d + 2) k_C_firstYearOf 0 0 4 [some (.ref b), some (.int (nI m)), some (.int (nI (fyA (vi (b + 4)) (vi (b + 5)) (vi (b + 9)) n m j))), some (.int (nI j))] [] (mk vi vl) post) L 0 (Nat.zero_le _) ?_ ?_
  · have e1 : vi b 3 ≤ nI L := by rw [hL]; exact nI_le (Nat.le_refl _) (by omega)
    have h32 := fyA_32 (C := vi (b + 4)) (E := vi (b + 5)) (H := vi (b + 9)) (m := m) hn5 L
    by_cases h0 : fyA (vi (b + 4)) (vi (b + 5)) (vi (b + 9)) n m L = 0
    · rw [if_pos h0] at hQ
      rw [h0]
      refine b_C_firstYearOf_4 (by first | assumption | decide | (refine vp_in_nI ?_ ?_ <;> omega) | omega | simp_all) (fun h4 => b_C_firstYearOf_50 (fun h50 => absurd h50 (by first | decide | assumption | omega | simp_all)) (fun h50 => b_C_firstYearOf_54 (b_C_firstYearOf_63 ?_))) (fun h4 => absurd h4 (by first | decide | assumption | omega | simp_all))
      exact hQ
    · rw [if_neg h0] at hQ
      have e2 : ¬ nI (fyA (vi (b + 4)) (vi (b + 5)) (vi (b + 9)) n m L) = 0 := nI_ne0 (by omega) (by omega)
      refine b_C_firstYearOf_4 (by first | assumption | decide | (refine vp_in_nI ?_ ?_ <;> omega) | omega | simp_all) (fun h4 => b_C_firstYearOf_50 (fun h50 => b_C_firstYearOf_59 ?_) (fun h50 => absurd h50 (by first | decide | assumption | omega | simp_all))) (fun h4 => absurd h4 (by first | decide | assumption | omega | simp_all))
      refine c_J_ntz h32 h0 ?_
      refine b_C_firstYearOf_63 ?_
      exact hQ
  · intro j _ hj ih
    have e1 : ¬ vi b 3 ≤ nI j := by rw [hL]; exact nI_ge hj (by omega)
    have cj : (nI j).toNatClampNeg = j := nI_clamp (by omega)
    have h32 := fyA_32 (C := vi (b + 4)) (E := vi (b + 5)) (H := vi (b + 9)) (m := m) hn5 j
    have eb := bit_ok m hm j (by omega)
    simp only [fyA] at ih
    cases ht : m.testBit j
    · rw [ht] at eb ih
      have eb : ((nI m >>> (nI j &&& 31)) &&& 1) = 0 := by simpa using eb
      refine b_C_firstYearOf_4 (by first | assumption | decide | (refine vp_in_nI ?_ ?_ <;> omega) | omega | simp_all) (fun h4 => absurd h4 (by first | decide | assumption | omega | simp_all)) (fun h4 => b_C_firstYearOf_12 (fun h12 => b_C_firstYearOf_44 ?_) (fun h12 => absurd h12 (by first | decide | assumption | omega | simp_all)))
      rw [nI_1]
      simpa using ih
    · rw [ht] at eb ih
      have eb : ¬ ((nI m >>> (nI j &&& 31)) &&& 1) = 0 := by rw [eb]; decide
      refine b_C_firstYearOf_4 (by first | assumption | decide | (refine vp_in_nI ?_ ?_ <;> omega) | omega | simp_all) (fun h4 => absurd h4 (by first | decide | assumption | omega | simp_all)) (fun h4 => b_C_firstYearOf_12 (fun h12 => absurd h12 (by first | decide | assumption | omega | simp_all)) (fun h12 => b_C_firstYearOf_20 (by first | assumption | decide | (refine vp_in_nI ?_ ?_ <;> omega) | omega | simp_all) (by first | assumption | decide | (refine vp_in_nI ?_ ?_ <;> omega) | omega | simp_all) ?_))
      rw [cj]
      refine c_C_yearsWith hb hn hn5 ?_
      refine b_C_firstYearOf_31 (by first | assumption | decide | (refine vp_in_nI ?_ ?_ <;> omega) | omega | simp_all) (by first | assumption | decide | (refine vp_in_nI ?_ ?_ <;> omega) | omega | simp_all) ?_
      rw [cj]
      refine c_C_yearsWith hb hn hn5 ?_
      refine b_C_firstYearOf_41 (b_C_firstYearOf_44 ?_)
      rw [nI_1, nI_or _ (bb_32 hn5) _ (bb_32 hn5), nI_or _ h32 _ (or_32 (bb_32 hn5) (bb_32 hn5))]
      simpa using ih
end S25
