/-! the reference: plans -/
theorem nI_div {a b : Nat} (ha : a < 2 ^ 31) (hb : b < 2 ^ 31) : nI a / nI b = nI (a / b) := (Int32.ofNat_div ha hb).symm
theorem nI_mod {a b : Nat} (ha : a < 2 ^ 31) (hb : b < 2 ^ 31) : nI a - nI a / nI b * nI b = nI (a % b) := by
  rw [nI_div ha hb, nI_mul, nI_sub (Nat.div_mul_le_self a b)]
  congr 1
  have := Nat.div_add_mod a b
  rw [Nat.mul_comm] at this
  omega
theorem nI_m7 {a : Nat} (ha : a < 2 ^ 31) : nI a - nI a / 7 * 7 = nI (a % 7) := nI_mod (b := 7) ha (by omega)
theorem nI_d7 {a : Nat} (ha : a < 2 ^ 31) : nI a / 7 = nI (a / 7) := nI_div (b := 7) ha (by omega)
theorem ctP_s {p : Nat → Nat} {y : Nat} : ctP p (y + 1) = ctP p y + if p y = 6 then 0 else 1 := by
  unfold ctP
  by_cases h : p y = 6
  · rw [if_pos h, cn_f (by rw [decide_eq_true h]; rfl)]; rfl
  · rw [if_neg h, cn_t (by rw [decide_eq_false h]; rfl)]
theorem ctP_le {p : Nat → Nat} {y n : Nat} (h : y ≤ n) : ctP p y ≤ ctP p n := by
  induction n with
  | zero => rw [show y = 0 by omega]; exact Nat.le_refl _
  | succ n ih =>
    by_cases hy : y = n + 1
    · rw [hy]; exact Nat.le_refl _
    · have := ih (by omega); rw [ctP_s]; omega
section S70
variable {X : aX} {d : Nat} {vi : Nat → Nat → Int32} {vl : Nat → Nat → Int64} {post : aO} {A : aA} {c : Cl} {f g : Nat → Int32}
theorem c_M_plans (hw : wfV c) (hV : MV c 0 (vi 96)) (hQ : post (some (.int (nI (7 ^ cN c)))) (mk vi vl)) : CallOk X (d + 1) 0 0 k_M_plans [.ref 95] (mk vi vl) post := by
  refine CallOk.intro (by decide +kernel) rfl (Nat.le_of_ble_eq_true rfl) ?_
  have hn5 := hw.1
  have e0 : vi 96 0 = nI (cN c) := hV.1
  refine b_M_plans_0 ?_
  have key := loop_up (P := fun j => wp X (d + 1) k_M_plans 0 0 4 [some (.ref 95), some (.int (nI (7 ^ j))), some (.int (nI j))] [] (mk vi vl) post) (cN c) 0 (Nat.zero_le _) ?_ ?_
  · exact key
  · have g : ¬ ¬ vi 96 0 ≤ nI (cN c) := fun q => q (by rw [e0]; exact Int32.le_refl _)
    refine b_M_plans_4 (fun h4 => b_M_plans_25 ?_) (fun h4 => absurd h4 (by first | decide | assumption | omega | simp_all))
    exact hQ
  · intro j _ hj ih
    have g : ¬ vi 96 0 ≤ nI j := by rw [e0]; exact nI_ge hj (by omega)
    refine b_M_plans_4 (fun h4 => absurd h4 (by first | decide | assumption | omega | simp_all)) (fun h4 => b_M_plans_14 ?_)
    rw [nI_1, show (7 : Int32) = nI 7 from rfl, nI_mul, ← Nat.pow_succ]
    exact ih
theorem c_M_canBe {y : Nat} {x : Int32} (hw : wfV c) (hy : y < cN c) (h2 : vi 96 (2 + y) = cW c y) (hQ : post (some (.int (bI (decide (x = 6) || decide ((x = 5) ↔ (cW c y = 1)))))) (mk vi vl)) : CallOk X (d + 1) 0 0 k_M_canBe [.ref 95, .int (nI y), .int x] (mk vi vl) post := by
  refine CallOk.intro (by decide +kernel) rfl (Nat.le_of_ble_eq_true rfl) ?_
  have hn5 := hw.1
  have i2 : (2 + nI y).toNatClampNeg = 2 + y := by rw [ix2]; exact nI_clamp (by omega)
  have v2 : vp_in (2 + nI y) 5976 := by rw [ix2]; exact vp_in_nI (by omega) (by omega)
  have e2 : vi 96 (2 + nI y).toNatClampNeg = cW c y := by rw [i2]; exact h2
  by_cases h6 : x = 6
  · rw [decide_eq_true h6, Bool.true_or] at hQ
    refine b_M_canBe_0 (fun h0 => b_M_canBe_36 (b_M_canBe_41 (by first | assumption | decide | (refine vp_in_nI ?_ ?_ <;> omega) | omega | simp_all) ?_)) (fun h0 => absurd h0 (by first | decide | assumption | omega | simp_all))
    exact hQ
  · rw [decide_eq_false h6, Bool.false_or] at hQ
    by_cases h5 : x = 5
    · by_cases h1 : cW c y = 1
      · have g1 : ¬ ¬ vi 96 (2 + nI y).toNatClampNeg = 1 := fun q => q (by rw [e2]; exact h1)
        rw [decide_eq_true (iff_of_true h5 h1)] at hQ
        refine b_M_canBe_0 (fun h0 => absurd h0 (by first | decide | assumption | omega | simp_all)) (fun h0 => b_M_canBe_6 (fun h6 => absurd h6 (by first | decide | assumption | omega | simp_all)) (fun h6 => b_M_canBe_11 (b_M_canBe_16 (by first | assumption | decide | (refine vp_in_nI ?_ ?_ <;> omega) | omega | simp_all) (fun h16 => absurd h16 (by first | decide | assumption | omega | simp_all)) (fun h16 => b_M_canBe_28 (b_M_canBe_33 (fun h33 => absurd h33 (by first | decide | assumption | omega | simp_all)) (fun h33 => b_M_canBe_36 (b_M_canBe_41 (by first | assumption | decide | (refine vp_in_nI ?_ ?_ <;> omega) | omega | simp_all) ?_)))))))
        exact hQ
      · have g1 : ¬ vi 96 (2 + nI y).toNatClampNeg = 1 := by rw [e2]; exact h1
        rw [decide_eq_false (fun q => h1 (q.mp h5))] at hQ
        refine b_M_canBe_0 (fun h0 => absurd h0 (by first | decide | assumption | omega | simp_all)) (fun h0 => b_M_canBe_6 (fun h6 => absurd h6 (by first | decide | assumption | omega | simp_all)) (fun h6 => b_M_canBe_11 (b_M_canBe_16 (by first | assumption | decide | (refine vp_in_nI ?_ ?_ <;> omega) | omega | simp_all) (fun h16 => b_M_canBe_32 (b_M_canBe_33 (fun h33 => b_M_canBe_40 (b_M_canBe_41 (by first | assumption | decide | (refine vp_in_nI ?_ ?_ <;> omega) | omega | simp_all) ?_)) (fun h33 => absurd h33 (by first | decide | assumption | omega | simp_all)))) (fun h16 => absurd h16 (by first | decide | assumption | omega | simp_all)))))
        exact hQ
    · by_cases h1 : cW c y = 1
      · have g1 : ¬ ¬ vi 96 (2 + nI y).toNatClampNeg = 1 := fun q => q (by rw [e2]; exact h1)
        rw [decide_eq_false (fun q => h5 (q.mpr h1))] at hQ
        refine b_M_canBe_0 (fun h0 => absurd h0 (by first | decide | assumption | omega | simp_all)) (fun h0 => b_M_canBe_6 (fun h6 => b_M_canBe_15 (b_M_canBe_16 (by first | assumption | decide | (refine vp_in_nI ?_ ?_ <;> omega) | omega | simp_all) (fun h16 => absurd h16 (by first | decide | assumption | omega | simp_all)) (fun h16 => b_M_canBe_28 (b_M_canBe_33 (fun h33 => b_M_canBe_40 (b_M_canBe_41 (by first | assumption | decide | (refine vp_in_nI ?_ ?_ <;> omega) | omega | simp_all) ?_)) (fun h33 => absurd h33 (by first | decide | assumption | omega | simp_all)))))) (fun h6 => absurd h6 (by first | decide | assumption | omega | simp_all)))
        exact hQ
      · have g1 : ¬ vi 96 (2 + nI y).toNatClampNeg = 1 := by rw [e2]; exact h1
        rw [decide_eq_true (iff_of_false h5 h1)] at hQ
        refine b_M_canBe_0 (fun h0 => absurd h0 (by first | decide | assumption | omega | simp_all)) (fun h0 => b_M_canBe_6 (fun h6 => b_M_canBe_15 (b_M_canBe_16 (by first | assumption | decide | (refine vp_in_nI ?_ ?_ <;> omega) | omega | simp_all) (fun h16 => b_M_canBe_32 (b_M_canBe_33 (fun h33 => absurd h33 (by first | decide | assumption | omega | simp_all)) (fun h33 => b_M_canBe_36 (b_M_canBe_41 (by first | assumption | decide | (refine vp_in_nI ?_ ?_ <;> omega) | omega | simp_all) ?_)))) (fun h16 => absurd h16 (by first | decide | assumption | omega | simp_all)))) (fun h6 => absurd h6 (by first | decide | assumption | omega | simp_all)))
        exact hQ
theorem alC_b {w : Int32} {k : Nat} (hk : k < 7) : (decide (nI k = 6) || decide ((nI k = 5) ↔ (w = 1))) = alC w k := by
  unfold alC
  have e6 := nI_6 (ch := k) (by omega)
  have e5 := nI_5 (ch := k) (by omega)
  by_cases h6 : k = 6
  · rw [decide_eq_true (e6.mpr h6), decide_eq_true h6]; rfl
  · rw [decide_eq_false (fun q => h6 (e6.mp q)), decide_eq_false h6, Bool.false_or, Bool.false_or]
    by_cases h1 : w = 1
    · rw [if_pos h1]; exact decide_eq_decide.mpr ⟨fun q => e5.mp (q.mpr h1), fun q => ⟨fun _ => h1, fun _ => e5.mpr q⟩⟩
    · rw [if_neg h1]; exact decide_eq_decide.mpr ⟨fun q => by have : ¬ k = 5 := fun r => h1 (q.mp (e5.mpr r)); omega, fun q => ⟨fun r => by have := e5.mp r; omega, fun r => absurd r h1⟩⟩
end S70
