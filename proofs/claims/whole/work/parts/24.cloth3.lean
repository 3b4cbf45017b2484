/-! what happens, settled -/
theorem hldB_cg {K K' C C' H H' : Nat → Int32} {k y : Nat} (hK : K k = K' k) (hC : C k = C' k) (hH : ∀ j, j < y → H j = H' j) : hldB K C H k y = hldB K' C' H' k y := by
  unfold hldB
  rw [hK, hC]
  rcases y with _ | _ | y
  · simp
  · simp [hH 0 (by omega)]
  · rw [show y + 1 + 1 - 1 = y + 1 by omega, show y + 1 + 1 - 2 = y by omega, hH (y + 1) (by omega), hH y (by omega)]
theorem mkF_cg {W W' S S' K K' C C' H H' : Nat → Int32} {L y : Nat} (hW : W y = W' y) (hS : S y = S' y) (hK : ∀ k, k < L → K k = K' k) (hC : ∀ k, k < L → C k = C' k) (hH : ∀ j, j < y → H j = H' j) : mkF W S K C H L y = mkF W' S' K' C' H' L y := by
  unfold mkF
  rw [hW, hS]
  rw [frF_cg (p := gapB K C (S' y)) (q := gapB K' C' (S' y)) L 0 (fun k _ h => by unfold gapB; rw [hK k (by omega), hC k (by omega)])]
  rw [frF_cg (p := fun k => hldB K C H k y) (q := fun k => hldB K' C' H' k y) L 0 (fun k _ h => hldB_cg (hK k (by omega)) (hC k (by omega)) hH)]
theorem mkF_or {W S K C H : Nat → Int32} {L y : Nat} : mkF W S K C H L y = -9 ∨ ∃ k, k < L ∧ mkF W S K C H L y = nI k := by
  unfold mkF
  by_cases h1 : W y = 1
  · rw [if_pos h1]; exact Or.inl rfl
  · rw [if_neg h1]
    by_cases h2 : W y = 2
    · rw [if_pos h2]
      rcases frF_or (p := gapB K C (S y)) L 0 with h | ⟨k, -, h2, -, h3⟩
      · exact Or.inl h
      · exact Or.inr ⟨k, by omega, h3⟩
    · rw [if_neg h2]
      rcases frF_or (p := fun k => hldB K C H k y) L 0 with h | ⟨k, -, h2, -, h3⟩
      · exact Or.inl h
      · exact Or.inr ⟨k, by omega, h3⟩
theorem hpF_cg {W W' S S' K K' C C' E E' H H' : Nat → Int32} {L y : Nat} (hL : L ≤ 8) (hW : W y = W' y) (hS : S y = S' y) (hK : ∀ k, k < L → K k = K' k) (hC : ∀ k, k < L → C k = C' k) (hE : ∀ k, k < L → E k = E' k) (hH : ∀ j, j < y → H j = H' j) : hpF W S K C E H L y = hpF W' S' K' C' E' H' L y := by
  unfold hpF
  rw [← mkF_cg hW hS hK hC hH, hW, hS]
  rcases mkF_or (W := W) (S := S) (K := K) (C := C) (H := H) (L := L) (y := y) with h | ⟨k, h1, h2⟩
  · rw [h]; simp
  · rw [h2, nI_clamp (by omega), hE k h1]
def hpV (vi : Nat → Nat → Int32) (b L y : Nat) : Int32 := hpF (vi (b + 1)) (vi (b + 2)) (vi (b + 3)) (vi (b + 4)) (vi (b + 5)) (vi (b + 9)) L y
def mkV (vi : Nat → Nat → Int32) (b L y : Nat) : Int32 := mkF (vi (b + 1)) (vi (b + 2)) (vi (b + 3)) (vi (b + 4)) (vi (b + 9)) L y
/-- the first i YEARS of a CLOTH are settled -/
def setl (vi : Nat → Nat → Int32) (b L i : Nat) : Prop := ∀ y, y < i → vi (b + 9) y = hpV vi b L y ∧ vi (b + 10) y = mkV vi b L y
theorem setl_mono {vi : Nat → Nat → Int32} {b L i j : Nat} (h : setl vi b L i) (hij : j ≤ i) : setl vi b L j := fun y hy => h y (by omega)
/-- settled, if the CLOTH's own rows are the same as far as they matter -/
theorem setl_cg {vi vi' : Nat → Nat → Int32} {b L i : Nat} (hL : L ≤ 8) (h : setl vi b L i) (h1 : ∀ y, y < i → vi' (b + 1) y = vi (b + 1) y) (h2 : ∀ y, y < i → vi' (b + 2) y = vi (b + 2) y) (h3 : ∀ k, k < L → vi' (b + 3) k = vi (b + 3) k) (h4 : ∀ k, k < L → vi' (b + 4) k = vi (b + 4) k) (h5 : ∀ k, k < L → vi' (b + 5) k = vi (b + 5) k) (h9 : ∀ y, y < i → vi' (b + 9) y = vi (b + 9) y) (h10 : ∀ y, y < i → vi' (b + 10) y = vi (b + 10) y) : setl vi' b L i := by
  intro y hy
  obtain ⟨a1, a2⟩ := h y hy
  rw [h9 y hy, h10 y hy, a1, a2]
  refine ⟨?_, ?_⟩
  · exact hpF_cg hL (h1 y hy).symm (h2 y hy).symm (fun k hk => (h3 k hk).symm) (fun k hk => (h4 k hk).symm) (fun k hk => (h5 k hk).symm) (fun j hj => (h9 j (by omega)).symm)
  · exact mkF_cg (h1 y hy).symm (h2 y hy).symm (fun k hk => (h3 k hk).symm) (fun k hk => (h4 k hk).symm) (fun j hj => (h9 j (by omega)).symm)
theorem stM_o {vi : Nat → Nat → Int32} {b L y j : Nat} (h1 : j ≠ b + 9) (h2 : j ≠ b + 10) : stM vi b L y j = vi j := by
  unfold stM; rw [up2_n h1, up2_n h2]
theorem stM_9 {vi : Nat → Nat → Int32} {b L y : Nat} : stM vi b L y (b + 9) = va_up (vi (b + 9)) y (hpV vi b L y) := by
  unfold stM; rw [up2_s, up2_n (show b + 9 ≠ b + 10 by omega)]; rfl
theorem stM_10 {vi : Nat → Nat → Int32} {b L y : Nat} : stM vi b L y (b + 10) = va_up (vi (b + 10)) y (mkV vi b L y) := by
  unfold stM; rw [up2_n (show b + 10 ≠ b + 9 by omega), up2_s]; rfl
theorem setl_st {vi : Nat → Nat → Int32} {b L y : Nat} (hL : L ≤ 8) (h : setl vi b L y) : setl (stM vi b L y) b L (y + 1) := by
  have o : ∀ j, j ≠ 9 → j ≠ 10 → stM vi b L y (b + j) = vi (b + j) := fun j h1 h2 => stM_o (by omega) (by omega)
  have hH : ∀ j, j < y → vi (b + 9) j = stM vi b L y (b + 9) j := fun j hj => by rw [stM_9, vau_n (by omega)]
  have e1 : hpV (stM vi b L y) b L y = hpV vi b L y := by
    unfold hpV
    rw [o 1 (by decide) (by decide), o 2 (by decide) (by decide), o 3 (by decide) (by decide), o 4 (by decide) (by decide), o 5 (by decide) (by decide)]
    exact (hpF_cg hL rfl rfl (fun _ _ => rfl) (fun _ _ => rfl) (fun _ _ => rfl) hH).symm
  have e2 : mkV (stM vi b L y) b L y = mkV vi b L y := by
    unfold mkV
    rw [o 1 (by decide) (by decide), o 2 (by decide) (by decide), o 3 (by decide) (by decide), o 4 (by decide) (by decide)]
    exact (mkF_cg rfl rfl (fun _ _ => rfl) (fun _ _ => rfl) hH).symm
  intro z hz
  by_cases hzy : z = y
  · subst hzy
    rw [e1, e2, stM_9, stM_10, vau_s, vau_s]
    exact ⟨rfl, rfl⟩
  · have h3 : setl (stM vi b L y) b L y := setl_cg hL h (fun z _ => by rw [o 1 (by decide) (by decide)]) (fun z _ => by rw [o 2 (by decide) (by decide)]) (fun z _ => by rw [o 3 (by decide) (by decide)]) (fun z _ => by rw [o 4 (by decide) (by decide)]) (fun z _ => by rw [o 5 (by decide) (by decide)]) (fun z hz => (hH z hz).symm) (fun z hz => by rw [stM_10, vau_n (by omega)])
    exact h3 z (by omega)
section S24
variable {X : aX} {d : Nat} {vi : Nat → Nat → Int32} {vl : Nat → Nat → Int64} {post : aO}
theorem c_C_settleFrom {b n L i : Nat} (hb : isCl b) (hn : vi b 0 = nI n) (hn5 : n ≤ 5) (hL : vi b 3 = nI L) (hL8 : L ≤ 8) (hi : i ≤ n) (hs : setl vi b L i) (hQ : ∀ w, (∀ j, j ≠ b + 9 → j ≠ b + 10 → w j = vi j) → setl w b L n → post none (mk w vl)) : CallOk X (d + 4) 0 0 k_C_settleFrom [.ref b, .int (nI i)] (mk vi vl) post := by
  refine CallOk.intro (by decide +kernel) rfl (Nat.le_of_ble_eq_true rfl) ?_
  refine b_C_settleFrom_0 ?_
  have key := loop_up (P := fun j => ∀ w, (∀ j, j ≠ b + 9 → j ≠ b + 10 → w j = vi j) → setl w b L j → wp X (d + 4) k_C_settleFrom 0 0 2 [some (.ref b), some (.int (nI i)), some (.int (nI j))] [] (mk w vl) post) n i hi ?_ ?_
  · exact key vi (fun _ _ _ => rfl) hs
  · intro w hw hsw
    have e0 : w b 0 = nI n := by rw [hw b (by omega) (by omega)]; exact hn
    have e1 : w b 0 ≤ nI n := by rw [e0]; exact nI_le (Nat.le_refl _) (by omega)
    refine b_C_settleFrom_2 (by first | assumption | decide | (refine vp_in_nI ?_ ?_ <;> omega) | omega | simp_all) (fun h2 => b_C_settleFrom_21 ?_) (fun h2 => absurd h2 (by first | decide | assumption | omega | simp_all))
    exact hQ w hw hsw
  · intro j _ hj ih w hw hsw
    have e0 : w b 0 = nI n := by rw [hw b (by omega) (by omega)]; exact hn
    have e1 : ¬ w b 0 ≤ nI j := by rw [e0]; exact nI_ge hj (by omega)
    refine b_C_settleFrom_2 (by first | assumption | decide | (refine vp_in_nI ?_ ?_ <;> omega) | omega | simp_all) (fun h2 => absurd h2 (by first | decide | assumption | omega | simp_all)) (fun h2 => b_C_settleFrom_10 ?_ (by first | assumption | decide | (refine vp_in_nI ?_ ?_ <;> omega) | omega | simp_all))
    refine c_C_settle hb (by omega) (L := L) (by rw [hw b (by omega) (by omega)]; exact hL) hL8 ?_
    refine b_C_settleFrom_15 ?_
    rw [nI_1]
    exact ih _ (fun q h1 h2 => by rw [stM_o h1 h2]; exact hw q h1 h2) (setl_st hL8 hsw)
theorem c_C_yearsWith {b n : Nat} {s : Int32} (hb : isCl b) (hn : vi b 0 = nI n) (hn5 : n ≤ 5) (hQ : post (some (.int (nI (bb (fun y => decide (vi (b + 9) y = s)) n)))) (mk vi vl)) : CallOk X (d + 1) 0 0 k_C_yearsWith [.ref b, .int s] (mk vi vl) post := by
  refine CallOk.intro (by decide +kernel) rfl (Nat.le_of_ble_eq_true rfl) ?_
  refine b_C_yearsWith_0 ?_
  refine loop_up (P := fun j => wp X (d + 1) k_C_yearsWith 0 0 4 [some (.ref b), some (.int s), some (.int (nI (bb (fun y => decide (vi (b + 9) y = s)) j))), some (.int (nI j))] [] (mk vi vl) post) n 0 (Nat.zero_le _) ?_ ?_
  · have e1 : vi b 0 ≤ nI n := by rw [hn]; exact nI_le (Nat.le_refl _) (by omega)
    refine b_C_yearsWith_4 (by first | assumption | decide | (refine vp_in_nI ?_ ?_ <;> omega) | omega | simp_all) (fun h4 => b_C_yearsWith_38 ?_) (fun h4 => absurd h4 (by first | decide | assumption | omega | simp_all))
    exact hQ
  · intro j _ hj ih
    have e1 : ¬ vi b 0 ≤ nI j := by rw [hn]; exact nI_ge hj (by omega)
    rw [← bb_st (by omega), ← nI_1] at ih
    refine b_C_yearsWith_4 (by first | assumption | decide | (refine vp_in_nI ?_ ?_ <;> omega) | omega | simp_all) (fun h4 => absurd h4 (by first | decide | assumption | omega | simp_all)) (fun h4 => b_C_yearsWith_12 (by first | assumption | decide | (refine vp_in_nI ?_ ?_ <;> omega) | omega | simp_all) (by first | assumption | decide | (refine vp_in_nI ?_ ?_ <;> omega) | omega | simp_all) (fun h12 => b_C_yearsWith_29 (b_C_yearsWith_30 ?_)) (fun h12 => b_C_yearsWith_23 (b_C_yearsWith_30 ?_)))
    · rw [nI_clamp (by omega)] at h12
      simpa [h12] using ih
    · rw [nI_clamp (by omega)] at h12
      simpa [h12] using ih
theorem c_C_yearsThatAre {b n : Nat} {s : Int32} (hb : isCl b) (hn : vi b 0 = nI n) (hn5 : n ≤ 5) (hQ : post (some (.int (nI (bb (fun y => decide (vi (b + 1) y = s)) n)))) (mk vi vl)) : CallOk X (d + 1) 0 0 k_C_yearsThatAre [.ref b, .int s] (mk vi vl) post := by
  refine CallOk.intro (by decide +kernel) rfl (Nat.le_of_ble_eq_true rfl) ?_
  refine b_C_yearsThatAre_0 ?_
  refine loop_up (P := fun j => wp X (d + 1) k_C_yearsThatAre 0 0 4 [some (.ref b), some (.int s), some (.int (nI (bb (fun y => decide (vi (b + 1) y = s)) j))), some (.int (nI j))] [] (mk vi vl) post) n 0 (Nat.zero_le _) ?_ ?_
  · have e1 : vi b 0 ≤ nI n := by rw [hn]; exact nI_le (Nat.le_refl _) (by omega)
    refine b_C_yearsThatAre_4 (by first | assumption | decide | (refine vp_in_nI ?_ ?_ <;> omega) | omega | simp_all) (fun h4 => b_C_yearsThatAre_38 ?_) (fun h4 => absurd h4 (by first | decide | assumption | omega | simp_all))
    exact hQ
  · intro j _ hj ih
    have e1 : ¬ vi b 0 ≤ nI j := by rw [hn]; exact nI_ge hj (by omega)
    rw [← bb_st (by omega), ← nI_1] at ih
    refine b_C_yearsThatAre_4 (by first | assumption | decide | (refine vp_in_nI ?_ ?_ <;> omega) | omega | simp_all) (fun h4 => absurd h4 (by first | decide | assumption | omega | simp_all)) (fun h4 => b_C_yearsThatAre_12 (by first | assumption | decide | (refine vp_in_nI ?_ ?_ <;> omega) | omega | simp_all) (by first | assumption | decide | (refine vp_in_nI ?_ ?_ <;> omega) | omega | simp_all) (fun h12 => b_C_yearsThatAre_29 (b_C_yearsThatAre_30 ?_)) (fun h12 => b_C_yearsThatAre_23 (b_C_yearsThatAre_30 ?_)))
    · rw [nI_clamp (by omega)] at h12
      simpa [h12] using ih
    · rw [nI_clamp (by omega)] at h12
      simpa [h12] using ih
theorem yws : ∀ n, n ≤ 5 → ∀ m, m < 2 ^ n → (((1 : Int32) <<< (nI n &&& 31)) - 1) &&& (nI m ^^^ -1) = nI (2 ^ n - 1 - m) := by decide +kernel
theorem bb_not {p : Nat → Bool} : ∀ n, bb (fun y => !p y) n = 2 ^ n - 1 - bb p n
  | 0 => rfl
  | n + 1 => by
    have h := bb_lt p n
    simp only [bb, bb_not n, Nat.pow_succ]
    by_cases hp : p n = true
    · simp [hp]; omega
    · simp [hp]; omega
theorem c_C_yearsWithSomething {b n : Nat} (hb : isCl b) (hn : vi b 0 = nI n) (hn5 : n ≤ 5) (hQ : post (some (.int (nI (bb (fun y => !decide (vi (b + 9) y = -9)) n)))) (mk vi vl)) : CallOk X (d + 2) 0 0 k_C_yearsWithSomething [.ref b] (mk vi vl) post := by
  refine CallOk.intro (by decide +kernel) rfl (Nat.le_of_ble_eq_true rfl) ?_
  refine b_C_yearsWithSomething_0 (by first | assumption | decide | (refine vp_in_nI ?_ ?_ <;> omega) | omega | simp_all) ?_
  refine c_C_yearsWith hb hn hn5 ?_
  refine b_C_yearsWithSomething_14 ?_
  rw [hn, yws n hn5 _ (bb_lt _ n), ← bb_not]
  exact hQ
theorem c_C_happensAs {b n a m : Nat} (hb : isCl b) (hn : vi b 0 = nI n) (hn5 : n ≤ 5) (ha : a < 107) (hs : sh0 a = (0, m)) (hm : n ≤ m) (hm2 : m < 2 ^ 31) (hQ : post (some (.int (bI (alF (fun y => decide (vi (b + 9) y = vi a y)) 0 n)))) (mk vi vl)) : CallOk X (d + 1) 0 0 k_C_happensAs [.ref b, .ref a] (mk vi vl) post := by
  refine CallOk.intro (by decide +kernel) rfl (Nat.le_of_ble_eq_true rfl) ?_
  refine b_C_happensAs_0 ?_
  have key := loop_up (P := fun j => post (some (.int (bI (alF (fun y => decide (vi (b + 9) y = vi a y)) j (n - j))))) (mk vi vl) → wp X (d + 1) k_C_happensAs 0 0 2 [some (.ref b), some (.ref a), some (.int (nI j))] [] (mk vi vl) post) n 0 (Nat.zero_le _) ?_ ?_
  · exact key hQ
  · intro hq
    rw [Nat.sub_self] at hq
    have e1 : vi b 0 ≤ nI n := by rw [hn]; exact nI_le (Nat.le_refl _) (by omega)
    refine b_C_happensAs_2 (by first | assumption | decide | (refine vp_in_nI ?_ ?_ <;> omega) | omega | simp_all) (fun h2 => b_C_happensAs_30 ?_) (fun h2 => absurd h2 (by first | decide | assumption | omega | simp_all))
    exact hq
  · intro j _ hj ih hq
    have e1 : ¬ vi b 0 ≤ nI j := by rw [hn]; exact nI_ge hj (by omega)
    rw [show n - j = (n - (j + 1)) + 1 by omega] at hq
    simp only [alF] at hq
    have vm : vp_in (nI j) m := vp_in_nI (by omega) (by omega)
    refine b_C_happensAs_2 (by first | assumption | decide | (refine vp_in_nI ?_ ?_ <;> omega) | omega | simp_all) (fun h2 => absurd h2 (by first | decide | assumption | omega | simp_all)) (fun h2 => b_C_happensAs_10 (by first | assumption | decide | (refine vp_in_nI ?_ ?_ <;> omega) | omega | simp_all) (by first | assumption | decide | (refine vp_in_nI ?_ ?_ <;> omega) | omega | simp_all) (by first | assumption | decide | (refine vp_in_nI ?_ ?_ <;> omega) | omega | simp_all) (by first | assumption | decide | (refine vp_in_nI ?_ ?_ <;> omega) | omega | simp_all) (by first | assumption | decide | (refine vp_in_nI ?_ ?_ <;> omega) | omega | simp_all) (fun h10 => b_C_happensAs_24 ?_) (fun h10 => b_C_happensAs_22 ?_))
    · rw [nI_clamp (by omega)] at h10
      rw [nI_1]
      refine ih ?_
      simpa [h10] using hq
    · rw [nI_clamp (by omega)] at h10
      simpa [h10, bI] using hq
def isK (K : Nat → Int32) (k : Nat) (q : Int32) : Bool := decide (K k = q) || decide (am_par (K k).toNatClampNeg = q)
theorem c_C_isOfKind {b k : Nat} {q : Int32} (hb : isCl b) (hk : k < 8) (hK : vp_in (vi (b + 3) k) 6) (hQ : post (some (.int (bI (isK (vi (b + 3)) k q)))) (mk vi vl)) : CallOk X (d + 1) 0 0 k_C_isOfKind [.ref b, .int (nI k), .int q] (mk vi vl) post := by
  refine CallOk.intro (by decide +kernel) rfl (Nat.le_of_ble_eq_true rfl) ?_
  have ck : (nI k).toNatClampNeg = k := nI_clamp (by omega)
  have hK2 : vp_in (vi (b + 3) (nI k).toNatClampNeg) 6 := by rw [ck]; exact hK
  refine b_C_isOfKind_0 (by first | assumption | decide | (refine vp_in_nI ?_ ?_ <;> omega) | omega | simp_all) (by first | assumption | decide | (refine vp_in_nI ?_ ?_ <;> omega) | omega | simp_all) (fun h0 => b_C_isOfKind_24 (b_C_isOfKind_29 (by first | assumption | decide | (refine vp_in_nI ?_ ?_ <;> omega) | omega | simp_all) ?_)) (fun h0 => b_C_isOfKind_10 (by first | assumption | decide | (refine vp_in_nI ?_ ?_ <;> omega) | omega | simp_all) (by first | assumption | decide | (refine vp_in_nI ?_ ?_ <;> omega) | omega | simp_all) (by first | assumption | decide | (refine vp_in_nI ?_ ?_ <;> omega) | omega | simp_all) (fun h10 => b_C_isOfKind_28 (b_C_isOfKind_29 (by first | assumption | decide | (refine vp_in_nI ?_ ?_ <;> omega) | omega | simp_all) ?_)) (fun h10 => b_C_isOfKind_24 (b_C_isOfKind_29 (by first | assumption | decide | (refine vp_in_nI ?_ ?_ <;> omega) | omega | simp_all) ?_)))
  · rw [ck] at h0
    simpa [isK, h0, bI] using hQ
  · rw [ck] at h0 h10
    simpa [isK, h0, h10, bI] using hQ
  · rw [ck] at h0 h10
    simpa [isK, h0, h10, bI] using hQ
end S24
