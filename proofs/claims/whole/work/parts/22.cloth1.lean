/-! what happens: the pure functions -/
/-- the first of m numbers from i on with p; -9: none -/
def frF (p : Nat → Bool) : Nat → Nat → Int32
  | _, 0 => -9
  | i, m + 1 => if p i then nI i else frF p (i + 1) m
theorem frF_cg {p q : Nat → Bool} : ∀ (m i : Nat), (∀ k, i ≤ k → k < i + m → p k = q k) → frF p i m = frF q i m
  | 0, _, _ => rfl
  | m + 1, i, h => by
    simp only [frF]
    rw [h i (Nat.le_refl _) (by omega), frF_cg m (i + 1) (fun k h1 h2 => h k (by omega) (by omega))]
theorem frF_or {p : Nat → Bool} : ∀ (m i : Nat), frF p i m = -9 ∨ ∃ k, i ≤ k ∧ k < i + m ∧ p k = true ∧ frF p i m = nI k
  | 0, _ => Or.inl rfl
  | m + 1, i => by
    by_cases h : p i = true
    · exact Or.inr ⟨i, Nat.le_refl _, by omega, h, by simp [frF, h]⟩
    · rcases frF_or (p := p) m (i + 1) with h1 | ⟨k, h1, h2, h3, h4⟩
      · exact Or.inl (by simp [frF, h, h1])
      · exact Or.inr ⟨k, by omega, by omega, h3, by simp [frF, h, h4]⟩
def hldB (K C H : Nat → Int32) (k y : Nat) : Bool :=
  let ah := decide (1 ≤ y) && decide (H (y - 1) = C k)
  let tw := decide (2 ≤ y) && decide (H (y - 2) = C k)
  if K k = 0 then ah else if K k = 3 then tw else if K k = 5 then ah || tw else false
def gapB (K C : Nat → Int32) (s : Int32) (k : Nat) : Bool := decide (K k = 2) && decide (C k = s)
/-- by which LAW something happens in a YEAR -/
def mkF (W S K C H : Nat → Int32) (L y : Nat) : Int32 := if W y = 1 then -9 else if W y = 2 then frF (gapB K C (S y)) 0 L else frF (fun k => hldB K C H k y) 0 L
/-- what happens in a YEAR -/
def hpF (W S K C E H : Nat → Int32) (L y : Nat) : Int32 := if W y = 1 then S y else if mkF W S K C H L y = -9 then -9 else E (mkF W S K C H L y).toNatClampNeg
section S22
variable {X : aX} {d : Nat} {vi : Nat → Nat → Int32} {vl : Nat → Nat → Int64} {post : aO}
theorem c_C_clear {b : Nat} (hb : isCl b) (hQ : post none (mk (up2 (up2 (up2 vi b 0 0) b 3 0) b 7 0) vl)) : CallOk X (d + 1) 0 0 k_C_clear [.ref b] (mk vi vl) post := by
  refine CallOk.intro (by decide +kernel) rfl (Nat.le_of_ble_eq_true rfl) ?_
  refine b_C_clear_0 (by first | assumption | decide | (refine vp_in_nI ?_ ?_ <;> omega) | omega | simp_all) (fun w0 hw0 => b_C_clear_5 (by first | assumption | decide | (refine vp_in_nI ?_ ?_ <;> omega) | omega | simp_all) (fun w5 hw5 => b_C_clear_10 (by first | assumption | decide | (refine vp_in_nI ?_ ?_ <;> omega) | omega | simp_all) (fun w10 hw10 => b_C_clear_15 ?_)))
  rw [hw10, hw5, hw0]; exact hQ
def setM (vi : Nat → Nat → Int32) (b y : Nat) (w s : Int32) : Nat → Nat → Int32 := up2 (up2 vi (b + 1) y w) (b + 2) y s
theorem c_C_set {b y : Nat} {w s : Int32} (hb : isCl b) (hy : y < 5) (hQ : post none (mk (setM vi b y w s) vl)) : CallOk X (d + 1) 0 0 k_C_set [.ref b, .int (nI y), .int w, .int s] (mk vi vl) post := by
  refine CallOk.intro (by decide +kernel) rfl (Nat.le_of_ble_eq_true rfl) ?_
  refine b_C_set_0 (by first | assumption | decide | (refine vp_in_nI ?_ ?_ <;> omega) | omega | simp_all) (by first | assumption | decide | (refine vp_in_nI ?_ ?_ <;> omega) | omega | simp_all) (fun w0 hw0 => b_C_set_7 (by first | assumption | decide | (refine vp_in_nI ?_ ?_ <;> omega) | omega | simp_all) (by first | assumption | decide | (refine vp_in_nI ?_ ?_ <;> omega) | omega | simp_all) (fun w7 hw7 => b_C_set_14 ?_))
  rw [hw7, hw0, nI_clamp (by omega)]; exact hQ
theorem c_C_allows {b y : Nat} {c : Int32} (hb : isCl b) (hy : y < 5) (hQ : post (some (.int (bI (decide (c = 6) || (if vi (b + 1) y = 1 then decide (c = 5) else decide (0 ≤ c.toInt ∧ c.toInt < 5)))))) (mk vi vl)) : CallOk X (d + 2) 0 0 k_C_allows [.ref b, .int (nI y), .int c] (mk vi vl) post := by
  refine CallOk.intro (by decide +kernel) rfl (Nat.le_of_ble_eq_true rfl) ?_
  refine b_C_allows_0 (fun h0 => b_C_allows_8 (by first | assumption | decide | (refine vp_in_nI ?_ ?_ <;> omega) | omega | simp_all) (by first | assumption | decide | (refine vp_in_nI ?_ ?_ <;> omega) | omega | simp_all) (fun h8 => b_C_allows_31 ?_) (fun h8 => b_C_allows_18 (fun h18 => b_C_allows_27 (b_C_allows_35 (by first | assumption | decide | (refine vp_in_nI ?_ ?_ <;> omega) | omega | simp_all) ?_)) (fun h18 => b_C_allows_23 (b_C_allows_35 (by first | assumption | decide | (refine vp_in_nI ?_ ?_ <;> omega) | omega | simp_all) ?_)))) (fun h0 => b_C_allows_6 ?_)
  · rw [nI_clamp (by omega)] at h8
    refine c_S_isScene (fun hs => ?_) (fun hs => ?_)
    · refine b_C_allows_35 (by first | assumption | decide | (refine vp_in_nI ?_ ?_ <;> omega) | omega | simp_all) ?_
      rw [vp_in_iff] at hs
      have : decide (0 ≤ c.toInt ∧ c.toInt < 5) = true := by simpa using hs
      simpa only [h0, h8, this, bI, decide_false, Bool.false_or, if_false, if_true] using hQ
    · refine b_C_allows_35 (by first | assumption | decide | (refine vp_in_nI ?_ ?_ <;> omega) | omega | simp_all) ?_
      rw [vp_in_iff] at hs
      have : decide (0 ≤ c.toInt ∧ c.toInt < 5) = false := by simpa using hs
      simpa [h0, h8, this, bI] using hQ
  · rw [nI_clamp (by omega)] at h8
    simpa [h0, h8, h18, bI] using hQ
  · rw [nI_clamp (by omega)] at h8
    simpa [h0, h8, h18, bI] using hQ
  · simpa [h0, bI] using hQ
def chgM (vi : Nat → Nat → Int32) (b y : Nat) (c : Int32) : Nat → Nat → Int32 := if c = 5 then up2 vi (b + 1) y 2 else if c = 6 then vi else setM vi b y 1 c
theorem c_C_change {b y : Nat} {c : Int32} (hb : isCl b) (hy : y < 5) (hQ : post none (mk (chgM vi b y c) vl)) : CallOk X (d + 2) 0 0 k_C_change [.ref b, .int (nI y), .int c] (mk vi vl) post := by
  refine CallOk.intro (by decide +kernel) rfl (Nat.le_of_ble_eq_true rfl) ?_
  refine b_C_change_0 (fun h0 => b_C_change_15 (fun h15 => b_C_change_28 ?_) (fun h15 => b_C_change_21 ?_ (by first | assumption | decide | (refine vp_in_nI ?_ ?_ <;> omega) | omega | simp_all))) (fun h0 => b_C_change_5 (by first | assumption | decide | (refine vp_in_nI ?_ ?_ <;> omega) | omega | simp_all) (by first | assumption | decide | (refine vp_in_nI ?_ ?_ <;> omega) | omega | simp_all) (fun w5 hw5 => b_C_change_12 (b_C_change_28 ?_)))
  · simpa [chgM, h0, h15] using hQ
  · refine c_C_set hb hy ?_
    refine b_C_change_28 ?_
    simpa [chgM, h0, h15] using hQ
  · rw [hw5, nI_clamp (by omega)]
    simpa [chgM, h0] using hQ
theorem c_C_gapFor {b L : Nat} {s : Int32} (hb : isCl b) (hL : vi b 3 = nI L) (hL8 : L ≤ 8) (hQ : post (some (.int (frF (gapB (vi (b + 3)) (vi (b + 4)) s) 0 L))) (mk vi vl)) : CallOk X (d + 1) 0 0 k_C_gapFor [.ref b, .int s] (mk vi vl) post := by
  refine CallOk.intro (by decide +kernel) rfl (Nat.le_of_ble_eq_true rfl) ?_
  refine b_C_gapFor_0 ?_
  have key := loop_up (P := fun j => post (some (.int (frF (gapB (vi (b + 3)) (vi (b + 4)) s) j (L - j)))) (mk vi vl) → wp X (d + 1) k_C_gapFor 0 0 2 [some (.ref b), some (.int s), some (.int (nI j))] [] (mk vi vl) post) L 0 (Nat.zero_le _) ?_ ?_
  · exact key hQ
  · intro hq
    rw [Nat.sub_self] at hq
    have e1 : vi b 3 ≤ nI L := by rw [hL]; exact nI_le (Nat.le_refl _) (by omega)
    refine b_C_gapFor_2 (by first | assumption | decide | (refine vp_in_nI ?_ ?_ <;> omega) | omega | simp_all) (fun h2 => b_C_gapFor_38 ?_) (fun h2 => absurd h2 (by first | decide | assumption | omega | simp_all))
    exact hq
  · intro j _ hj ih hq
    have e1 : ¬ vi b 3 ≤ nI j := by rw [hL]; exact nI_ge hj (by omega)
    rw [show L - j = (L - (j + 1)) + 1 by omega] at hq
    simp only [frF, gapB] at hq
    refine b_C_gapFor_2 (by first | assumption | decide | (refine vp_in_nI ?_ ?_ <;> omega) | omega | simp_all) (fun h2 => absurd h2 (by first | decide | assumption | omega | simp_all)) (fun h2 => b_C_gapFor_10 (by first | assumption | decide | (refine vp_in_nI ?_ ?_ <;> omega) | omega | simp_all) (by first | assumption | decide | (refine vp_in_nI ?_ ?_ <;> omega) | omega | simp_all) (fun h10 => b_C_gapFor_32 ?_) (fun h10 => b_C_gapFor_20 (by first | assumption | decide | (refine vp_in_nI ?_ ?_ <;> omega) | omega | simp_all) (by first | assumption | decide | (refine vp_in_nI ?_ ?_ <;> omega) | omega | simp_all) (fun h20 => b_C_gapFor_32 ?_) (fun h20 => b_C_gapFor_30 ?_)))
    · rw [nI_clamp (by omega)] at h10
      rw [nI_1]
      refine ih ?_
      simpa [h10, gapB] using hq
    · rw [nI_clamp (by omega)] at h10 h20
      rw [nI_1]
      refine ih ?_
      simpa [h10, h20, gapB] using hq
    · rw [nI_clamp (by omega)] at h10 h20
      simpa [h10, h20] using hq
end S22
