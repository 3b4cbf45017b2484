/-! the reference: rows and texts -/
theorem nI_mul (a b : Nat) : nI a * nI b = nI (a * b) := (Int32.ofNat_mul a b).symm
theorem ix40 (r k : Nat) : (40 : Int32) * nI r + nI k = nI (40 * r + k) := by rw [show (40 : Int32) = nI 40 from rfl, nI_mul, nI_add]
theorem ix60 (r k : Nat) : (60 : Int32) * nI r + nI k = nI (60 * r + k) := by rw [show (60 : Int32) = nI 60 from rfl, nI_mul, nI_add]
theorem add64 (x y : Int32) : (x.toInt64 + y.toInt64).toInt = x.toInt + y.toInt := by
  rw [Int64.toInt_add, Int32.toInt_toInt64, Int32.toInt_toInt64]
  have h1 := x.le_toInt
  have h2 := y.le_toInt
  have h3 := x.toInt_lt
  have h4 := y.toInt_lt
  exact Int.bmod_eq_of_le (by omega) (by omega)
theorem sz_or {s : Int32} {M : Nat} (h : s = -1 ∨ ∃ n, n ≤ M ∧ s = nI n) (hM : M < 2 ^ 31) : (s = -1 ∧ ¬ 0 ≤ s ∧ s < 0) ∨ ∃ n, n ≤ M ∧ s = nI n ∧ 0 ≤ s ∧ ¬ s < 0 ∧ ¬ s = -1 := by
  rcases h with rfl | ⟨n, hn, rfl⟩
  · exact Or.inl ⟨rfl, by decide, by decide⟩
  · refine Or.inr ⟨n, hn, rfl, nI_pos' (by omega), nI_pos (by omega), fun q => ?_⟩
    have := nI_pos (n := n) (by omega)
    rw [q] at this; exact this (by decide)
theorem nin_iff {i : Int32} {n : Nat} (hn : n < 2 ^ 31) : (i < 0 ∨ nI n ≤ i) ↔ ¬ ((0 : Int64).toInt ≤ i.toInt64.toInt ∧ i.toInt64.toInt ≤ (nI n - 1).toInt64.toInt) := by
  rw [Int32.toInt_toInt64, Int32.toInt_toInt64, nI_m1 hn, Int32.lt_iff_toInt_lt, Int32.le_iff_toInt_le, nI_toInt hn]
  have : (0 : Int32).toInt = 0 := rfl
  have : (0 : Int64).toInt = 0 := rfl
  omega
theorem nin_ex {i : Int32} {n : Nat} (hn : n < 2 ^ 31) (h : ¬ (i < 0 ∨ nI n ≤ i)) : ∃ j, j < n ∧ i = nI j := by
  obtain ⟨j, hj, rfl⟩ := nI_of (x := i) (fun q => h (Or.inl q))
  exact ⟨j, Nat.not_le.mp fun q => h (Or.inr (nI_le q hj)), rfl⟩
section S51
variable {X : aX} {d : Nat} {vi : Nat → Nat → Int32} {vl : Nat → Nat → Int64} {post : aO} {A : aA}
def anM (vi : Nat → Nat → Int32) (r : Nat) (n : Int32) : Nat → Nat → Int32 := up1 (up2 vi 99 r n) 98 (fun k => if 40 * r ≤ k ∧ k < 40 * r + 40 then 0 else vi 98 k)
theorem c_M_anew {r : Nat} {n : Int32} (hr : r < 6) (hQ : post none (mk (anM vi r n) vl)) : CallOk X (d + 1) 0 0 k_M_anew [.ref 95, .int (nI r), .int n] (mk vi vl) post := by
  refine CallOk.intro (by decide +kernel) rfl (Nat.le_of_ble_eq_true rfl) ?_
  have cr : (nI r).toNatClampNeg = r := nI_clamp (by omega)
  have vr : vp_in (nI r) 6 := vp_in_nI hr (by omega)
  refine b_M_anew_0 (by first | assumption | decide | (refine vp_in_nI ?_ ?_ <;> omega) | omega | simp_all) (fun w0 hw0 => b_M_anew_7 ?_)
  rw [cr] at hw0
  have key := loop_up (P := fun j => wp X (d + 1) k_M_anew 0 0 9 [some (.ref 95), some (.int (nI r)), some (.int n), some (.int (nI j))] [] (mk (up1 (up2 vi 99 r n) 98 (fun k => if 40 * r ≤ k ∧ k < 40 * r + j then 0 else vi 98 k)) vl) post) 40 0 (Nat.zero_le _) ?_ ?_
  · have e : up1 (up2 vi 99 r n) 98 (fun k => if 40 * r ≤ k ∧ k < 40 * r + 0 then 0 else vi 98 k) = w0 := by
      have : (fun k => if 40 * r ≤ k ∧ k < 40 * r + 0 then 0 else vi 98 k) = up2 vi 99 r n 98 := by funext k; rw [if_neg (by omega), up2_n (by decide)]
      rw [this, up1_id, hw0]
    rw [e] at key
    exact key
  · have g1 : ¬ ¬ (40 : Int32) ≤ nI 40 := by decide
    refine b_M_anew_9 (fun h9 => b_M_anew_33 ?_) (fun h9 => absurd h9 (by first | decide | assumption | omega | simp_all))
    exact hQ
  · intro j _ hj ih
    have g1 : ¬ (40 : Int32) ≤ nI j := nI_ge (a := j) (b := 40) hj (by omega)
    have v1 : vp_in (40 * nI r + nI j) 240 := by rw [ix40]; exact vp_in_nI (by omega) (by omega)
    refine b_M_anew_9 (fun h9 => absurd h9 (by first | decide | assumption | omega | simp_all)) (fun h9 => b_M_anew_15 (by first | assumption | decide | (refine vp_in_nI ?_ ?_ <;> omega) | omega | simp_all) (fun w15 hw15 => b_M_anew_27 ?_))
    rw [nI_1]
    have e : w15 = up1 (up2 vi 99 r n) 98 (fun k => if 40 * r ≤ k ∧ k < 40 * r + (j + 1) then 0 else vi 98 k) := by
      rw [hw15, ix40, nI_clamp (by omega), up2_up1, up1_u, up1_s]
      congr 1
      funext k
      by_cases hk : k = 40 * r + j
      · subst hk; rw [vau_s, if_pos (by omega)]
      · rw [vau_n hk]
        by_cases h2 : 40 * r ≤ k ∧ k < 40 * r + j
        · rw [if_pos h2, if_pos (by omega)]
        · rw [if_neg h2, if_neg (by omega)]
    rw [e]
    exact ih
theorem AbM_an {r : Nat} {n : Int32} (hW : wfA A) (hA : AbM A vi vl) (hr : r < 6) : AbM (tRw A r n (fun _ => 0)) (anM vi r n) vl := by
  refine AbM_row hW hA ?_ (fun k hk => ?_) (fun q hq hqr k hk => ?_) (fun j a b _ => ?_)
  · unfold anM; rw [up1_n (by decide), up2_s]
  · unfold anM; rw [up1_s, if_pos (by omega)]
  · unfold anM; rw [up1_s, if_neg (by omega)]
  · unfold anM; rw [up1_n a, up2_n b]
theorem an_o {r j : Nat} {n : Int32} (hj : j < 95) : anM vi r n j = vi j := by unfold anM; rw [up1_n (by omega), up2_n (by omega)]
theorem fd_o {f j : Nat} (hj : j < 95) : fdM vi f j = vi j := by unfold fdM; rw [up2_n (by omega), up2_n (by omega)]
theorem m_row {r n : Int32} (hW : wfA A) (hA : AbM A vi vl) (hQ : PM vi vl post (oRow A r n)) : CallOk X (d + 3) 0 0 k_M_row [.ref 95, .int r, .int n] (mk vi vl) post := by
  refine CallOk.intro (by decide +kernel) rfl (Nat.le_of_ble_eq_true rfl) ?_
  unfold oRow at hQ
  refine b_M_row_0 ?_
  refine c_M_isRow ?_
  by_cases hr : vp_in r 6
  · rw [inB_t hr] at hQ ⊢
    obtain ⟨m, hm, rfl⟩ := vp_in_of hr (by decide)
    have cm : (nI m).toNatClampNeg = m := nI_clamp (by omega)
    by_cases h40 : n ≤ 40
    · rw [if_pos ⟨rfl, h40⟩] at hQ
      by_cases h0 : n < 0
      · rw [if_pos h0] at hQ
        have g : ¬ 0 ≤ n := Int32.not_le.mpr h0
        refine b_M_row_4 (fun h4 => absurd h4 (by first | decide | assumption | omega | simp_all)) (fun h4 => b_M_row_7 (fun h7 => b_M_row_15 (fun h15 => absurd h15 (by first | decide | assumption | omega | simp_all)) (fun h15 => b_M_row_19 ?_)) (fun h7 => absurd h7 (by first | decide | assumption | omega | simp_all)))
        refine c_M_found (f := 5) (by decide) ?_
        refine b_M_row_24 ?_
        exact hQ _ _ (AbM_fd hW hA (by decide)) (smC_of fun j hj => fd_o hj)
      · rw [if_neg h0, cm] at hQ
        have g : 0 ≤ n := Int32.not_lt.mp h0
        refine b_M_row_4 (fun h4 => absurd h4 (by first | decide | assumption | omega | simp_all)) (fun h4 => b_M_row_7 (fun h7 => b_M_row_15 (fun h15 => b_M_row_25 ?_) (fun h15 => absurd h15 (by first | decide | assumption | omega | simp_all))) (fun h7 => absurd h7 (by first | decide | assumption | omega | simp_all)))
        refine c_M_anew hm ?_
        refine b_M_row_31 ?_
        exact hQ _ _ (AbM_an hW hA hm) (smC_of fun j hj => an_o hj)
    · rw [if_neg (fun q => h40 q.2)] at hQ
      refine b_M_row_4 (fun h4 => absurd h4 (by first | decide | assumption | omega | simp_all)) (fun h4 => b_M_row_7 (fun h7 => absurd h7 (by first | decide | assumption | omega | simp_all)) (fun h7 => b_M_row_13 ?_))
      exact hQ _ _ hA smC_rf
  · rw [inB_f hr] at hQ ⊢
    rw [if_neg (fun q => by cases q.1)] at hQ
    refine b_M_row_4 (fun h4 => b_M_row_13 ?_) (fun h4 => absurd h4 (by first | decide | assumption | omega | simp_all))
    exact hQ _ _ hA smC_rf
theorem m_at {r i : Int32} (hW : wfA A) (hA : AbM A vi vl) (hQ : PM vi vl post (oAt A r i)) : CallOk X (d + 3) 0 0 k_M_at [.ref 95, .int r, .int i] (mk vi vl) post := by
  refine CallOk.intro (by decide +kernel) rfl (Nat.le_of_ble_eq_true rfl) ?_
  unfold oAt at hQ
  refine b_M_at_0 ?_
  refine c_M_isRow ?_
  by_cases hr : vp_in r 6
  · rw [inB_t hr] at hQ ⊢
    rw [if_pos rfl] at hQ
    obtain ⟨m, hm, rfl⟩ := vp_in_of hr (by decide)
    have cm : (nI m).toNatClampNeg = m := nI_clamp (by omega)
    rw [cm] at hQ
    obtain ⟨e1, e2⟩ := hA.1 m hm
    rcases sz_or (hW.1 m hm) (by omega) with ⟨h1, h2, -⟩ | ⟨n, hn, h1, h2, -, h3⟩
    · rw [if_pos h1] at hQ
      have g : ¬ 0 ≤ vi 99 (nI m).toNatClampNeg := by rw [cm, e1]; exact h2
      refine b_M_at_4 (fun h4 => b_M_at_9 (by first | assumption | decide | (refine vp_in_nI ?_ ?_ <;> omega) | omega | simp_all) (fun h9 => absurd h9 (by first | decide | assumption | omega | simp_all)) (fun h9 => b_M_at_18 ?_)) (fun h4 => absurd h4 (by first | decide | assumption | omega | simp_all))
      refine c_M_found (f := 1) (by decide) ?_
      refine b_M_at_23 ?_
      exact hQ _ _ (AbM_fd hW hA (by decide)) (smC_of fun j hj => fd_o hj)
    · rw [if_neg h3] at hQ
      have g : 0 ≤ vi 99 (nI m).toNatClampNeg := by rw [cm, e1]; exact h2
      refine b_M_at_4 (fun h4 => b_M_at_9 (by first | assumption | decide | (refine vp_in_nI ?_ ?_ <;> omega) | omega | simp_all) (fun h9 => b_M_at_24 (by first | assumption | decide | (refine vp_in_nI ?_ ?_ <;> omega) | omega | simp_all) ?_) (fun h9 => absurd h9 (by first | decide | assumption | omega | simp_all))) (fun h4 => absurd h4 (by first | decide | assumption | omega | simp_all))
      rw [cm, e1, h1]
      refine c_M_in ?_
      rw [h1] at hQ
      by_cases hi : i < 0 ∨ nI n ≤ i
      · rw [if_pos hi] at hQ
        rw [decide_eq_false ((nin_iff (by omega)).mp hi)]
        refine b_M_at_39 (fun h39 => b_M_at_61 ?_) (fun h39 => absurd h39 (by first | decide | assumption | omega | simp_all))
        refine c_M_found (f := 2) (by decide) ?_
        refine b_M_at_66 ?_
        exact hQ _ _ (AbM_fd hW hA (by decide)) (smC_of fun j hj => fd_o hj)
      · rw [if_neg hi] at hQ
        rw [decide_eq_true (Decidable.not_not.mp (fun q => hi ((nin_iff (by omega)).mpr q)))]
        obtain ⟨j, hj, rfl⟩ := nin_ex (by omega) hi
        have cj : (nI j).toNatClampNeg = j := nI_clamp (by omega)
        have v1 : vp_in (40 * nI m + nI j) 240 := by rw [ix40]; exact vp_in_nI (by omega) (by omega)
        refine b_M_at_39 (fun h39 => absurd h39 (by first | decide | assumption | omega | simp_all)) (fun h39 => b_M_at_42 (by first | assumption | decide | (refine vp_in_nI ?_ ?_ <;> omega) | omega | simp_all) ?_)
        rw [ix40, nI_clamp (by omega), e2 j (by omega)]
        refine c_M_tells ?_
        refine b_M_at_58 (b_M_at_66 ?_)
        rw [cj] at hQ
        exact hQ _ _ (AbM_ak hW hA _) (smC_of fun q hq => up2_n (by omega))
  · rw [inB_f hr] at hQ ⊢
    rw [if_neg (fun q => by cases q)] at hQ
    refine b_M_at_4 (fun h4 => absurd h4 (by first | decide | assumption | omega | simp_all)) (fun h4 => b_M_at_7 ?_)
    exact hQ _ _ hA smC_rf
theorem m_tear {r : Int32} (hW : wfA A) (hA : AbM A vi vl) (hQ : PM vi vl post (oTear A r)) : CallOk X (d + 3) 0 0 k_M_tear [.ref 95, .int r] (mk vi vl) post := by
  refine CallOk.intro (by decide +kernel) rfl (Nat.le_of_ble_eq_true rfl) ?_
  unfold oTear at hQ
  refine b_M_tear_0 ?_
  refine c_M_isRow ?_
  by_cases hr : vp_in r 6
  · rw [inB_t hr] at hQ ⊢
    rw [if_pos rfl] at hQ
    obtain ⟨m, hm, rfl⟩ := vp_in_of hr (by decide)
    have cm : (nI m).toNatClampNeg = m := nI_clamp (by omega)
    rw [cm] at hQ
    obtain ⟨e1, e2⟩ := hA.1 m hm
    rcases sz_or (hW.1 m hm) (by omega) with ⟨h1, h2, -⟩ | ⟨n, hn, h1, h2, -, h3⟩
    · rw [if_pos h1] at hQ
      have g : ¬ 0 ≤ vi 99 (nI m).toNatClampNeg := by rw [cm, e1]; exact h2
      refine b_M_tear_4 (fun h4 => b_M_tear_9 (by first | assumption | decide | (refine vp_in_nI ?_ ?_ <;> omega) | omega | simp_all) (fun h9 => absurd h9 (by first | decide | assumption | omega | simp_all)) (fun h9 => b_M_tear_18 ?_)) (fun h4 => absurd h4 (by first | decide | assumption | omega | simp_all))
      refine c_M_found (f := 1) (by decide) ?_
      refine b_M_tear_23 ?_
      exact hQ _ _ (AbM_fd hW hA (by decide)) (smC_of fun j hj => fd_o hj)
    · rw [if_neg h3] at hQ
      have g : 0 ≤ vi 99 (nI m).toNatClampNeg := by rw [cm, e1]; exact h2
      refine b_M_tear_4 (fun h4 => b_M_tear_9 (by first | assumption | decide | (refine vp_in_nI ?_ ?_ <;> omega) | omega | simp_all) (fun h9 => b_M_tear_24 (by first | assumption | decide | (refine vp_in_nI ?_ ?_ <;> omega) | omega | simp_all) (fun w24 hw24 => b_M_tear_31 ?_)) (fun h9 => absurd h9 (by first | decide | assumption | omega | simp_all))) (fun h4 => absurd h4 (by first | decide | assumption | omega | simp_all))
      rw [cm] at hw24
      rw [hw24]
      refine hQ _ _ (AbM_row hW hA ?_ (fun k hk => ?_) (fun q hq hqr k hk => ?_) (fun j a b _ => ?_)) (smC_of fun q hq => up2_n (by omega))
      · rw [up2_s]
      · rw [up2_n (by decide)]; exact e2 k hk
      · rw [up2_n (by decide)]
      · rw [up2_n b]
  · rw [inB_f hr] at hQ ⊢
    rw [if_neg (fun q => by cases q)] at hQ
    refine b_M_tear_4 (fun h4 => absurd h4 (by first | decide | assumption | omega | simp_all)) (fun h4 => b_M_tear_7 ?_)
    exact hQ _ _ hA smC_rf
end S51
