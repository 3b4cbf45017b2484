/-! bits, searches -/
def bb (p : Nat → Bool) : Nat → Nat
  | 0 => 0
  | n + 1 => bb p n + if p n then 2 ^ n else 0
theorem bb_lt (p : Nat → Bool) : ∀ n, bb p n < 2 ^ n
  | 0 => by simp [bb]
  | n + 1 => by
    have := bb_lt p n
    simp only [bb, Nat.pow_succ]
    by_cases h : p n = true <;> simp [h] <;> omega
theorem bb_cg {p q : Nat → Bool} : ∀ n, (∀ k, k < n → p k = q k) → bb p n = bb q n
  | 0, _ => rfl
  | n + 1, h => by simp only [bb]; rw [bb_cg n (fun k hk => h k (by omega)), h n (by omega)]
theorem or_bit : ∀ i, i < 8 → ∀ m, m < 2 ^ i → nI m ||| ((1 : Int32) <<< (nI i &&& 31)) = nI (m + 2 ^ i) := by decide +kernel
theorem or_0 : ∀ m, m < 256 → nI m ||| 0 = nI m := by decide +kernel
theorem bb_st {p : Nat → Bool} {i : Nat} (hi : i < 8) : nI (bb p i) ||| (if p i then (1 : Int32) <<< (nI i &&& 31) else 0) = nI (bb p (i + 1)) := by
  have h := bb_lt p i
  have h2 : 2 ^ i ≤ 256 := by
    have : 2 ^ i ≤ 2 ^ 8 := Nat.pow_le_pow_right (by decide) (by omega)
    simpa using this
  by_cases hp : p i = true
  · simp only [bb, hp, if_true]; exact or_bit i hi _ h
  · simp only [bb, hp, if_false, Nat.add_zero, Bool.false_eq_true]; exact or_0 _ (by omega)
def alF (p : Nat → Bool) : Nat → Nat → Bool
  | _, 0 => true
  | i, m + 1 => p i && alF p (i + 1) m
def exF (p : Nat → Bool) : Nat → Nat → Bool
  | _, 0 => false
  | i, m + 1 => p i || exF p (i + 1) m
theorem alF_iff {p : Nat → Bool} : ∀ (m i : Nat), alF p i m = true ↔ ∀ k, i ≤ k → k < i + m → p k = true
  | 0, i => by simp only [alF, true_iff]; intro k h1 h2; omega
  | m + 1, i => by
    simp only [alF, Bool.and_eq_true, alF_iff m (i + 1)]
    constructor
    · rintro ⟨h1, h2⟩ k hk hk2
      by_cases h : k = i
      · rw [h]; exact h1
      · exact h2 k (by omega) (by omega)
    · intro h
      exact ⟨h i (Nat.le_refl _) (by omega), fun k h1 h2 => h k (by omega) (by omega)⟩
theorem exF_iff {p : Nat → Bool} : ∀ (m i : Nat), exF p i m = true ↔ ∃ k, i ≤ k ∧ k < i + m ∧ p k = true
  | 0, i => by simp only [exF, Bool.false_eq_true, false_iff]; rintro ⟨k, h1, h2, -⟩; omega
  | m + 1, i => by
    simp only [exF, Bool.or_eq_true, exF_iff m (i + 1)]
    constructor
    · rintro (h | ⟨k, h1, h2, h3⟩)
      · exact ⟨i, Nat.le_refl _, by omega, h⟩
      · exact ⟨k, by omega, by omega, h3⟩
    · rintro ⟨k, h1, h2, h3⟩
      by_cases h : k = i
      · rw [h] at h3; exact Or.inl h3
      · exact Or.inr ⟨k, by omega, by omega, h3⟩
section S23
variable {X : aX} {d : Nat} {vi : Nat → Nat → Int32} {vl : Nat → Nat → Int64} {post : aO}
theorem c_C_holds {b k y : Nat} (hb : isCl b) (hk : k < 8) (hy : y < 5) (hQ : post (some (.int (bI (hldB (vi (b + 3)) (vi (b + 4)) (vi (b + 9)) k y)))) (mk vi vl)) : CallOk X (d + 1) 0 0 k_C_holds [.ref b, .int (nI k), .int (nI y)] (mk vi vl) post := by
  refine CallOk.intro (by decide +kernel) rfl (Nat.le_of_ble_eq_true rfl) ?_
  have ck : (nI k).toNatClampNeg = k := nI_clamp (by omega)
  have vk : vp_in (nI k) 8 := vp_in_nI hk (by omega)
  have key : ∀ (a t : Bool), (a = (decide (1 ≤ y) && decide (vi (b + 9) (y - 1) = vi (b + 4) k))) → (t = (decide (2 ≤ y) && decide (vi (b + 9) (y - 2) = vi (b + 4) k))) → wp X (d + 1) k_C_holds 0 0 55 [some (.ref b), some (.int (nI k)), some (.int (nI y)), some (.int (bI a)), none] [.int (bI t)] (mk vi vl) post := by
    intro a t ha ht
    have ea := bI_01 a
    have et := bI_01 t
    simp only [hldB, ← ha, ← ht] at hQ
    refine b_C_holds_55 (by first | assumption | decide | (refine vp_in_nI ?_ ?_ <;> omega) | omega | simp_all) (by first | assumption | decide | (refine vp_in_nI ?_ ?_ <;> omega) | omega | simp_all) ?_
    rw [ck]
    refine ⟨fun e => ?_, fun e0 => ⟨fun e => ?_, fun e3 => ⟨fun e => ?_, fun e5 => ?_⟩⟩⟩
    · refine b_C_holds_96 (by first | assumption | decide | (refine vp_in_nI ?_ ?_ <;> omega) | omega | simp_all) ?_
      simpa [e] using hQ
    · refine b_C_holds_98 (by first | assumption | decide | (refine vp_in_nI ?_ ?_ <;> omega) | omega | simp_all) ?_
      simpa [e] using hQ
    · refine b_C_holds_101 (fun h101 => b_C_holds_110 (b_C_holds_115 (by first | assumption | decide | (refine vp_in_nI ?_ ?_ <;> omega) | omega | simp_all) ?_)) (fun h101 => b_C_holds_105 (fun h105 => b_C_holds_114 (b_C_holds_115 (by first | assumption | decide | (refine vp_in_nI ?_ ?_ <;> omega) | omega | simp_all) ?_)) (fun h105 => b_C_holds_110 (b_C_holds_115 (by first | assumption | decide | (refine vp_in_nI ?_ ?_ <;> omega) | omega | simp_all) ?_)))
      · simpa [e, bI_t h101, bI] using hQ
      · simpa [e, bI_f h101, bI_f h105, bI] using hQ
      · simpa [e, bI_t h105, bI] using hQ
    · show wp X (d + 1) k_C_holds 0 0 116 _ _ _ _
      refine b_C_holds_116 ?_
      simpa [e0, e3, e5, bI] using hQ
  rcases (show y = 0 ∨ y = 1 ∨ ∃ z, y = z + 2 by rcases y with _ | _ | z; exact Or.inl rfl; exact Or.inr (Or.inl rfl); exact Or.inr (Or.inr ⟨z, rfl⟩)) with rfl | rfl | ⟨z, rfl⟩
  · refine b_C_holds_0 (fun h0 => b_C_holds_26 (b_C_holds_27 (fun h27 => b_C_holds_54 ?_) (fun h27 => absurd h27 (by first | decide | assumption | omega | simp_all)))) (fun h0 => absurd h0 (by first | decide | assumption | omega | simp_all))
    exact key false false rfl rfl
  · have e1 : ¬ nI 1 < 1 := by decide
    have s1 : nI 1 - 1 = nI 0 := by decide
    have v1 : vp_in (nI 1 - 1) 5 := by rw [s1]; exact vp_in_nI (by omega) (by omega)
    refine b_C_holds_0 (fun h0 => absurd h0 (by first | decide | assumption | omega | simp_all)) (fun h0 => b_C_holds_5 (by first | assumption | decide | (refine vp_in_nI ?_ ?_ <;> omega) | omega | simp_all) (by first | assumption | decide | (refine vp_in_nI ?_ ?_ <;> omega) | omega | simp_all) (by first | assumption | decide | (refine vp_in_nI ?_ ?_ <;> omega) | omega | simp_all) (fun h5 => b_C_holds_26 (b_C_holds_27 (fun h27 => b_C_holds_54 ?_) (fun h27 => absurd h27 (by first | decide | assumption | omega | simp_all)))) (fun h5 => b_C_holds_22 (b_C_holds_27 (fun h27 => b_C_holds_54 ?_) (fun h27 => absurd h27 (by first | decide | assumption | omega | simp_all)))))
    · rw [ck, s1, nI_clamp (by omega)] at h5
      exact key false false (by simpa using h5) rfl
    · rw [ck, s1, nI_clamp (by omega)] at h5
      exact key true false (by simpa using h5) rfl
  · have e1 : ¬ nI (z + 2) < 1 := nI_nlt (a := z + 2) (b := 1) (by omega) (by omega)
    have e2 : ¬ nI (z + 2) < 2 := nI_nlt (a := z + 2) (b := 2) (by omega) (by omega)
    have s1 : nI (z + 2) - 1 = nI (z + 1) := nI_pred (z + 1)
    have s2 : nI (z + 2) - 2 = nI z := pk_sub (a := z + 2) (b := 2) (by omega)
    have v1 : vp_in (nI (z + 2) - 1) 5 := by rw [s1]; exact vp_in_nI (by omega) (by omega)
    have v2 : vp_in (nI (z + 2) - 2) 5 := by rw [s2]; exact vp_in_nI (by omega) (by omega)
    have g1 : z + 2 - 1 = z + 1 := by omega
    refine b_C_holds_0 (fun h0 => absurd h0 (by first | decide | assumption | omega | simp_all)) (fun h0 => b_C_holds_5 (by first | assumption | decide | (refine vp_in_nI ?_ ?_ <;> omega) | omega | simp_all) (by first | assumption | decide | (refine vp_in_nI ?_ ?_ <;> omega) | omega | simp_all) (by first | assumption | decide | (refine vp_in_nI ?_ ?_ <;> omega) | omega | simp_all) (fun h5 => b_C_holds_26 (b_C_holds_27 (fun h27 => absurd h27 (by first | decide | assumption | omega | simp_all)) (fun h27 => b_C_holds_33 (by first | assumption | decide | (refine vp_in_nI ?_ ?_ <;> omega) | omega | simp_all) (by first | assumption | decide | (refine vp_in_nI ?_ ?_ <;> omega) | omega | simp_all) (by first | assumption | decide | (refine vp_in_nI ?_ ?_ <;> omega) | omega | simp_all) (fun h33 => b_C_holds_54 ?_) (fun h33 => b_C_holds_50 ?_)))) (fun h5 => b_C_holds_22 (b_C_holds_27 (fun h27 => absurd h27 (by first | decide | assumption | omega | simp_all)) (fun h27 => b_C_holds_33 (by first | assumption | decide | (refine vp_in_nI ?_ ?_ <;> omega) | omega | simp_all) (by first | assumption | decide | (refine vp_in_nI ?_ ?_ <;> omega) | omega | simp_all) (by first | assumption | decide | (refine vp_in_nI ?_ ?_ <;> omega) | omega | simp_all) (fun h33 => b_C_holds_54 ?_) (fun h33 => b_C_holds_50 ?_)))))
    all_goals rw [ck, s1, nI_clamp (by omega)] at h5
    all_goals rw [ck, s2, nI_clamp (by omega)] at h33
    · exact key false false (by simp [h5, g1]) (by simp [h33])
    · exact key false true (by simp [h5, g1]) (by simp [h33])
    · exact key true false (by simp [h5, g1]) (by simp [h33])
    · exact key true true (by simp [h5, g1]) (by simp [h33])
theorem c_C_lawHoldingIn {b y L : Nat} (hb : isCl b) (hy : y < 5) (hL : vi b 3 = nI L) (hL8 : L ≤ 8) (hQ : post (some (.int (frF (fun k => hldB (vi (b + 3)) (vi (b + 4)) (vi (b + 9)) k y) 0 L))) (mk vi vl)) : CallOk X (d + 2) 0 0 k_C_lawHoldingIn [.ref b, .int (nI y)] (mk vi vl) post := by
  refine CallOk.intro (by decide +kernel) rfl (Nat.le_of_ble_eq_true rfl) ?_
  refine b_C_lawHoldingIn_0 ?_
  have key := loop_up (P := fun j => post (some (.int (frF (fun k => hldB (vi (b + 3)) (vi (b + 4)) (vi (b + 9)) k y) j (L - j)))) (mk vi vl) → wp X (d + 2) k_C_lawHoldingIn 0 0 2 [some (.ref b), some (.int (nI y)), some (.int (nI j))] [] (mk vi vl) post) L 0 (Nat.zero_le _) ?_ ?_
  · exact key hQ
  · intro hq
    rw [Nat.sub_self] at hq
    have e1 : vi b 3 ≤ nI L := by rw [hL]; exact nI_le (Nat.le_refl _) (by omega)
    refine b_C_lawHoldingIn_2 (by first | assumption | decide | (refine vp_in_nI ?_ ?_ <;> omega) | omega | simp_all) (fun h2 => b_C_lawHoldingIn_27 ?_) (fun h2 => absurd h2 (by first | decide | assumption | omega | simp_all))
    exact hq
  · intro j _ hj ih hq
    have e1 : ¬ vi b 3 ≤ nI j := by rw [hL]; exact nI_ge hj (by omega)
    rw [show L - j = (L - (j + 1)) + 1 by omega] at hq
    simp only [frF] at hq
    refine b_C_lawHoldingIn_2 (by first | assumption | decide | (refine vp_in_nI ?_ ?_ <;> omega) | omega | simp_all) (fun h2 => absurd h2 (by first | decide | assumption | omega | simp_all)) (fun h2 => b_C_lawHoldingIn_10 ?_ (by first | assumption | decide | (refine vp_in_nI ?_ ?_ <;> omega) | omega | simp_all))
    refine c_C_holds hb (by omega) hy ?_
    cases hh : hldB (vi (b + 3)) (vi (b + 4)) (vi (b + 9)) j y
    · refine b_C_lawHoldingIn_16 (fun h16 => b_C_lawHoldingIn_21 ?_) (fun h16 => absurd h16 (by first | decide | assumption | omega | simp_all))
      rw [nI_1]
      refine ih ?_
      simpa [hh] using hq
    · refine b_C_lawHoldingIn_16 (fun h16 => absurd h16 (by first | decide | assumption | omega | simp_all)) (fun h16 => b_C_lawHoldingIn_19 ?_)
      simpa [hh] using hq
/-- the memory behind settle(y) -/
def stM (vi : Nat → Nat → Int32) (b L y : Nat) : Nat → Nat → Int32 :=
  up2 (up2 vi (b + 10) y (mkF (vi (b + 1)) (vi (b + 2)) (vi (b + 3)) (vi (b + 4)) (vi (b + 9)) L y)) (b + 9) y (hpF (vi (b + 1)) (vi (b + 2)) (vi (b + 3)) (vi (b + 4)) (vi (b + 5)) (vi (b + 9)) L y)
theorem c_C_settle {b y L : Nat} (hb : isCl b) (hy : y < 5) (hL : vi b 3 = nI L) (hL8 : L ≤ 8) (hQ : post none (mk (stM vi b L y) vl)) : CallOk X (d + 3) 0 0 k_C_settle [.ref b, .int (nI y)] (mk vi vl) post := by
  refine CallOk.intro (by decide +kernel) rfl (Nat.le_of_ble_eq_true rfl) ?_
  have cy : (nI y).toNatClampNeg = y := nI_clamp (by omega)
  have vy : vp_in (nI y) 5 := vp_in_nI hy (by omega)
  have n1 : b + 9 ≠ b + 10 := by omega
  have key : ∀ z : Int32, ¬ vi (b + 1) y = 1 → z = mkF (vi (b + 1)) (vi (b + 2)) (vi (b + 3)) (vi (b + 4)) (vi (b + 9)) L y → (z = -9 ∨ ∃ k, k < 8 ∧ z = nI k) → wp X (d + 3) k_C_settle 0 0 59 [some (.ref b), some (.int (nI y)), none] [.int z] (mk vi vl) post := by
    intro z hw hz hor
    simp only [stM, hpF, if_neg hw, ← hz] at hQ
    refine b_C_settle_59 (by first | assumption | decide | (refine vp_in_nI ?_ ?_ <;> omega) | omega | simp_all) (by first | assumption | decide | (refine vp_in_nI ?_ ?_ <;> omega) | omega | simp_all) (fun w59 hw59 => ?_)
    rw [cy] at hw59
    by_cases h9 : z = -9
    · refine b_C_settle_67 (by first | assumption | decide | (refine vp_in_nI ?_ ?_ <;> omega) | omega | simp_all) (fun h67 => absurd h67 (by first | decide | assumption | omega | simp_all)) (fun h67 => b_C_settle_78 (b_C_settle_89 (by first | assumption | decide | (refine vp_in_nI ?_ ?_ <;> omega) | omega | simp_all) (by first | assumption | decide | (refine vp_in_nI ?_ ?_ <;> omega) | omega | simp_all) (fun w89 hw89 => b_C_settle_90 ?_)))
      rw [cy] at hw89
      rw [hw89, hw59]
      rw [if_pos h9] at hQ
      exact hQ
    · obtain ⟨k, hk, rfl⟩ : ∃ k, k < 8 ∧ z = nI k := hor.resolve_left h9
      refine b_C_settle_67 (by first | assumption | decide | (refine vp_in_nI ?_ ?_ <;> omega) | omega | simp_all) (fun h67 => b_C_settle_83 (by first | assumption | decide | (refine vp_in_nI ?_ ?_ <;> omega) | omega | simp_all) (by first | assumption | decide | (refine vp_in_nI ?_ ?_ <;> omega) | omega | simp_all) (b_C_settle_89 (by first | assumption | decide | (refine vp_in_nI ?_ ?_ <;> omega) | omega | simp_all) (by first | assumption | decide | (refine vp_in_nI ?_ ?_ <;> omega) | omega | simp_all) (fun w89 hw89 => b_C_settle_90 ?_))) (fun h67 => absurd h67 (by first | decide | assumption | omega | simp_all))
      rw [cy] at hw89
      rw [hw89, hw59, up2_n (show b + 5 ≠ b + 10 by omega)]
      rw [if_neg h9] at hQ
      exact hQ
  refine b_C_settle_0 (by first | assumption | decide | (refine vp_in_nI ?_ ?_ <;> omega) | omega | simp_all) (by first | assumption | decide | (refine vp_in_nI ?_ ?_ <;> omega) | omega | simp_all) (fun h0 => b_C_settle_31 (by first | assumption | decide | (refine vp_in_nI ?_ ?_ <;> omega) | omega | simp_all) (by first | assumption | decide | (refine vp_in_nI ?_ ?_ <;> omega) | omega | simp_all) (fun h31 => b_C_settle_54 ?_ (by first | assumption | decide | (refine vp_in_nI ?_ ?_ <;> omega) | omega | simp_all)) (fun h31 => b_C_settle_41 (by first | assumption | decide | (refine vp_in_nI ?_ ?_ <;> omega) | omega | simp_all) (by first | assumption | decide | (refine vp_in_nI ?_ ?_ <;> omega) | omega | simp_all) ?_)) (fun h0 => b_C_settle_10 (by first | assumption | decide | (refine vp_in_nI ?_ ?_ <;> omega) | omega | simp_all) (by first | assumption | decide | (refine vp_in_nI ?_ ?_ <;> omega) | omega | simp_all) (fun w10 hw10 => b_C_settle_18 (by first | assumption | decide | (refine vp_in_nI ?_ ?_ <;> omega) | omega | simp_all) (by first | assumption | decide | (refine vp_in_nI ?_ ?_ <;> omega) | omega | simp_all) (by first | assumption | decide | (refine vp_in_nI ?_ ?_ <;> omega) | omega | simp_all) (fun w18 hw18 => b_C_settle_30 ?_)))
  · rw [cy] at h0 h31
    refine c_C_lawHoldingIn hb hy hL hL8 ?_
    refine key _ h0 (by rw [mkF, if_neg h0, if_neg h31]) ?_
    rcases frF_or (p := fun k => hldB (vi (b + 3)) (vi (b + 4)) (vi (b + 9)) k y) L 0 with h | ⟨k, -, h2, -, h3⟩
    · exact Or.inl h
    · exact Or.inr ⟨k, by omega, h3⟩
  · rw [cy] at h0 h31 ⊢
    refine c_C_gapFor hb hL hL8 ?_
    refine b_C_settle_51 ?_
    refine key _ h0 (by rw [mkF, if_neg h0, if_pos h31]) ?_
    rcases frF_or (p := gapB (vi (b + 3)) (vi (b + 4)) (vi (b + 2) y)) L 0 with h | ⟨k, -, h2, -, h3⟩
    · exact Or.inl h
    · exact Or.inr ⟨k, by omega, h3⟩
  · rw [cy] at h0 hw10 hw18
    rw [hw18, hw10, up2_n (show b + 2 ≠ b + 10 by omega)]
    simp only [stM, hpF, mkF, if_pos h0] at hQ
    exact hQ
end S23
