/-! the class's calls: rows, texts -/
section S33
variable {X : aX} {d : Nat} {vi : Nat → Nat → Int32} {vl : Nat → Nat → Int64} {post : aO} {A : aA}
theorem wfA.L8 (h : wfA A) : cL (aCu A) ≤ 8 := h.2.2.1.2.1
theorem wfA.N5 (h : wfA A) : cN (aCu A) ≤ 5 := h.2.2.1.1
theorem rl_r {j : Nat} (h : j < 6) : rl (42 + 2 * j) = 40 := by unfold rl; rw [if_pos (by omega)]
theorem rl_t {j : Nat} : rl (54 + 2 * j) = 60 := by unfold rl; rw [if_neg (by omega)]
theorem bgM_o {r n q : Nat} {x : Int32} (h0 : q ≠ r) (h1 : q ≠ r + 1) : bgM vi r n x q = vi q := by unfold bgM; rw [up1_n h1, up2_n h0]
theorem bgM_0 {r n : Nat} {x : Int32} : bgM vi r n x r 1 = nI n := by unfold bgM; rw [up1_n (by omega), up2_s, vau_s]
theorem bgM_1 {r n k : Nat} {x : Int32} (hk : k < rl r) : bgM vi r n x (r + 1) k = x := by unfold bgM; rw [up1_s]; unfold flF; rw [if_pos hk]
theorem le_neg {x : Int32} (h : ¬ (0 : Int32) ≤ x) : x < 0 := Int32.not_le.mp h
theorem ge_neg {x : Int32} (h : (0 : Int32) ≤ x) : ¬ x < 0 := Int32.not_lt.mpr h
theorem s_row {r n : Int32} (hW : wfA A) (hA : AbC A vi vl) (hQ : PC vi vl post (oRow A r n)) : CallOk X (d + 3) 0 0 k_S_row [.ref 0, .int r, .int n] (mk vi vl) post := by
  refine CallOk.intro (by decide +kernel) rfl (Nat.le_of_ble_eq_true rfl) ?_
  unfold oRow at hQ
  refine b_S_row_0 ?_
  refine c_S_isRow (fun hr => ?_) (fun hr => ?_)
  · rw [inB_t hr] at hQ
    obtain ⟨j, hj, rfl⟩ := vp_in_of hr (by decide)
    have cj : (nI j).toNatClampNeg = j := nI_clamp (by omega)
    refine b_S_row_4 (fun h4 => absurd h4 (by first | decide | assumption | omega | simp_all)) (fun h4 => b_S_row_7 (fun h7 => b_S_row_15 (fun h15 => b_S_row_25 (by first | assumption | decide | (refine vp_in_nI ?_ ?_ <;> omega) | omega | simp_all) ?_) (fun h15 => b_S_row_19 ?_)) (fun h7 => b_S_row_13 ?_))
    · rw [if_pos ⟨rfl, h7⟩, if_neg (ge_neg h15)] at hQ
      obtain ⟨m, hm, rfl⟩ := nI_of2 (x := n) (M := 40) (n := 40) (by decide) (ge_neg h15) h7
      rw [nI_clamp (by omega)]
      refine c_R_begin (rows_i hj) (by rw [rl_r hj]; exact hm) ?_
      refine b_S_row_36 ?_
      rw [cj] at hQ
      refine hQ _ _ (AbC_row hW.L8 hA hj bgM_0 (fun k hk => ?_) (fun q h1 h2 => bgM_o h1 (by omega))) (smM_of fun q hq => bgM_o (by omega) (by omega))
      rw [show 43 + 2 * j = 42 + 2 * j + 1 by omega]
      exact bgM_1 (by rw [rl_r hj]; exact hk)
    · rw [if_pos ⟨rfl, h7⟩, if_pos (le_neg h15)] at hQ
      refine c_S_refuse 5 (by decide) (by decide) ?_
      refine b_S_row_24 ?_
      exact hQ _ _ (AbC_fd hW.L8 hA (by decide) (by decide)) smM_rfM
    · rw [if_neg (fun q => h7 q.2)] at hQ
      exact hQ _ _ hA smM_rf
  · rw [inB_f hr, if_neg (fun q => by cases q.1)] at hQ
    refine b_S_row_4 (fun h4 => b_S_row_13 ?_) (fun h4 => absurd h4 (by first | decide | assumption | omega | simp_all))
    exact hQ _ _ hA smM_rf
theorem s_text {r n : Int32} (hW : wfA A) (hA : AbC A vi vl) (hQ : PC vi vl post (oText A r n)) : CallOk X (d + 3) 0 0 k_S_text [.ref 0, .int r, .int n] (mk vi vl) post := by
  refine CallOk.intro (by decide +kernel) rfl (Nat.le_of_ble_eq_true rfl) ?_
  unfold oText at hQ
  refine b_S_text_0 ?_
  refine c_S_isText (fun hr => ?_) (fun hr => ?_)
  · rw [inB_t hr] at hQ
    obtain ⟨j, hj, rfl⟩ := vp_in_of hr (by decide)
    have cj : (nI j).toNatClampNeg = j := nI_clamp (by omega)
    refine b_S_text_4 (fun h4 => absurd h4 (by first | decide | assumption | omega | simp_all)) (fun h4 => b_S_text_7 (fun h7 => b_S_text_15 (fun h15 => b_S_text_25 (by first | assumption | decide | (refine vp_in_nI ?_ ?_ <;> omega) | omega | simp_all) ?_) (fun h15 => b_S_text_19 ?_)) (fun h7 => b_S_text_13 ?_))
    · rw [if_pos ⟨rfl, h7⟩, if_neg (ge_neg h15)] at hQ
      obtain ⟨m, hm, rfl⟩ := nI_of2 (x := n) (M := 60) (n := 60) (by decide) (ge_neg h15) h7
      rw [nI_clamp (by omega)]
      refine c_R_begin (texts_i hj) (by rw [rl_t]; exact hm) ?_
      refine b_S_text_37 ?_
      rw [cj] at hQ
      refine hQ _ _ (AbC_txt hW.L8 hA hj bgM_0 (fun k hk => ?_) (fun q h1 h2 => bgM_o h1 (by omega))) (smM_of fun q hq => bgM_o (by omega) (by omega))
      rw [show 55 + 2 * j = 54 + 2 * j + 1 by omega]
      exact bgM_1 (by rw [rl_t]; exact hk)
    · rw [if_pos ⟨rfl, h7⟩, if_pos (le_neg h15)] at hQ
      refine c_S_refuse 5 (by decide) (by decide) ?_
      refine b_S_text_24 ?_
      exact hQ _ _ (AbC_fd hW.L8 hA (by decide) (by decide)) smM_rfM
    · rw [if_neg (fun q => h7 q.2)] at hQ
      exact hQ _ _ hA smM_rf
  · rw [inB_f hr, if_neg (fun q => by cases q.1)] at hQ
    refine b_S_text_4 (fun h4 => b_S_text_13 ?_) (fun h4 => absurd h4 (by first | decide | assumption | omega | simp_all))
    exact hQ _ _ hA smM_rf
/-- a place within a row of size nI n -/
theorem ix_of {i : Int32} {n m : Nat} (hn : n ≤ m) (hm : m < 2 ^ 31) (h0 : ¬ i < 0) (h1 : ¬ nI n ≤ i) : vp_in i m ∧ i.toNatClampNeg < n := by
  have h := vin_t (n := n) (by omega) h0 h1
  have h2 := vin_lt h
  obtain ⟨k, hk, rfl⟩ := vp_in_of h (by omega)
  exact ⟨vp_in_nI (by omega) hm, h2⟩
theorem rs_n (hW : wfA A) {j : Nat} (hj : j < 6) (h : ¬ aRs A j = -1) : ∃ n, n ≤ 40 ∧ aRs A j = nI n := (hW.1 j hj).resolve_left h
theorem ts_n (hW : wfA A) {j : Nat} (hj : j < 4) (h : ¬ aTs A j = -1) : ∃ n, n ≤ 60 ∧ aTs A j = nI n := (hW.2.1 j hj).resolve_left h
theorem s_at {r i : Int32} (hW : wfA A) (hA : AbC A vi vl) (hQ : PC vi vl post (oAt A r i)) : CallOk X (d + 3) 0 0 k_S_at [.ref 0, .int r, .int i] (mk vi vl) post := by
  refine CallOk.intro (by decide +kernel) rfl (Nat.le_of_ble_eq_true rfl) ?_
  unfold oAt at hQ
  refine b_S_at_0 ?_
  refine c_S_isRow (fun hr => ?_) (fun hr => ?_)
  · rw [inB_t hr, if_pos rfl] at hQ
    obtain ⟨j, hj, rfl⟩ := vp_in_of hr (by decide)
    have cj : (nI j).toNatClampNeg = j := nI_clamp (by omega)
    obtain ⟨e1, e2⟩ := hA.1.1 j hj
    refine b_S_at_4 (fun h4 => b_S_at_9 (by first | assumption | decide | (refine vp_in_nI ?_ ?_ <;> omega) | omega | simp_all) ?_) (fun h4 => absurd h4 (by first | decide | assumption | omega | simp_all))
    rw [nI_clamp (by omega)]
    rw [cj] at hQ
    refine c_S_refusePlace (rows_i hj) (fun h1 => ?_) (fun h1 h2 => ?_) (fun h1 h2 h3 => ?_)
    · rw [e1] at h1
      refine b_S_at_20 (fun h20 => absurd h20 (by first | decide | assumption | omega | simp_all)) (fun h20 => b_S_at_25 ?_)
      rw [if_pos h1] at hQ
      exact hQ _ _ (AbC_fd hW.L8 hA (by decide) (by decide)) smM_rfM
    · rw [e1] at h1 h2
      refine b_S_at_20 (fun h20 => absurd h20 (by first | decide | assumption | omega | simp_all)) (fun h20 => b_S_at_25 ?_)
      rw [if_neg h1, if_pos h2] at hQ
      exact hQ _ _ (AbC_fd hW.L8 hA (by decide) (by decide)) smM_rfM
    · rw [e1] at h1 h3
      rw [if_neg h1, if_neg (fun q => q.elim h2 h3)] at hQ
      obtain ⟨n, hn, en⟩ := rs_n hW hj h1
      rw [en] at h3
      obtain ⟨v1, v2⟩ := ix_of hn (by decide) h2 h3
      have v3 : vp_in i (rl (42 + 2 * (nI j).toNatClampNeg)) := by rw [nI_clamp (by omega), rl_r hj]; exact v1
      refine b_S_at_20 (fun h20 => b_S_at_27 (by first | assumption | decide | (refine vp_in_nI ?_ ?_ <;> omega) | omega | simp_all) (by first | assumption | decide | (refine vp_in_nI ?_ ?_ <;> omega) | omega | simp_all) (fun w27 hw27 => b_S_at_42 ?_)) (fun h20 => absurd h20 (by first | decide | assumption | omega | simp_all))
      rw [nI_clamp (by omega), show 42 + 2 * j + 1 = 43 + 2 * j by omega, e2 _ (by omega)] at hw27
      rw [hw27]
      exact hQ _ _ (AbC_ak hW.L8 hA _) (smM_o (by decide))
  · rw [inB_f hr, if_neg (fun q => by cases q)] at hQ
    refine b_S_at_4 (fun h4 => absurd h4 (by first | decide | assumption | omega | simp_all)) (fun h4 => b_S_at_7 ?_)
    exact hQ _ _ hA smM_rf
theorem s_lay {r i v : Int32} (hW : wfA A) (hA : AbC A vi vl) (hQ : PC vi vl post (oLay A r i v)) : CallOk X (d + 3) 0 0 k_S_lay [.ref 0, .int r, .int i, .int v] (mk vi vl) post := by
  refine CallOk.intro (by decide +kernel) rfl (Nat.le_of_ble_eq_true rfl) ?_
  unfold oLay at hQ
  refine b_S_lay_0 ?_
  refine c_S_isRow (fun hr => ?_) (fun hr => ?_)
  · rw [inB_t hr, if_pos rfl] at hQ
    obtain ⟨j, hj, rfl⟩ := vp_in_of hr (by decide)
    have cj : (nI j).toNatClampNeg = j := nI_clamp (by omega)
    obtain ⟨e1, e2⟩ := hA.1.1 j hj
    refine b_S_lay_4 (fun h4 => b_S_lay_9 (by first | assumption | decide | (refine vp_in_nI ?_ ?_ <;> omega) | omega | simp_all) ?_) (fun h4 => absurd h4 (by first | decide | assumption | omega | simp_all))
    rw [nI_clamp (by omega)]
    rw [cj] at hQ
    refine c_S_refusePlace (rows_i hj) (fun h1 => ?_) (fun h1 h2 => ?_) (fun h1 h2 h3 => ?_)
    · rw [e1] at h1
      refine b_S_lay_20 (fun h20 => absurd h20 (by first | decide | assumption | omega | simp_all)) (fun h20 => b_S_lay_27 ?_)
      rw [if_pos h1] at hQ
      exact hQ _ _ (AbC_fd hW.L8 hA (by decide) (by decide)) smM_rfM
    · rw [e1] at h1 h2
      refine b_S_lay_20 (fun h20 => absurd h20 (by first | decide | assumption | omega | simp_all)) (fun h20 => b_S_lay_27 ?_)
      rw [if_neg h1, if_pos h2] at hQ
      exact hQ _ _ (AbC_fd hW.L8 hA (by decide) (by decide)) smM_rfM
    · rw [e1] at h1 h3
      rw [if_neg h1, if_neg (fun q => q.elim h2 h3)] at hQ
      obtain ⟨n, hn, en⟩ := rs_n hW hj h1
      rw [en] at h3
      obtain ⟨v1, v2⟩ := ix_of hn (by decide) h2 h3
      have v3 : vp_in i (rl (42 + 2 * (nI j).toNatClampNeg)) := by rw [nI_clamp (by omega), rl_r hj]; exact v1
      refine b_S_lay_20 (fun h20 => b_S_lay_30 (by first | assumption | decide | (refine vp_in_nI ?_ ?_ <;> omega) | omega | simp_all) (by first | assumption | decide | (refine vp_in_nI ?_ ?_ <;> omega) | omega | simp_all) (fun w30 hw30 => b_S_lay_45 (by first | assumption | decide | (refine vp_in_nI ?_ ?_ <;> omega) | omega | simp_all) (by first | assumption | decide | (refine vp_in_nI ?_ ?_ <;> omega) | omega | simp_all) (fun w45 hw45 => b_S_lay_57 ?_))) (fun h20 => absurd h20 (by first | decide | assumption | omega | simp_all))
      rw [nI_clamp (by omega), show 42 + 2 * j + 1 = 43 + 2 * j by omega, e2 _ (by omega)] at hw30
      rw [nI_clamp (by omega), show 42 + 2 * j + 1 = 43 + 2 * j by omega] at hw45
      have hA1 := AbC_ak hW.L8 hA (aRp A j (i.toNatClampNeg))
      rw [← hw30] at hA1
      rw [hw45]
      refine hQ _ _ (AbC_row (A := tAk A (aRp A j (i.toNatClampNeg))) (vi := w30) hW.L8 hA1 hj ?_ (fun k hk => ?_) (fun q h1 h2 => up2_n h2)) (smM_of fun q hq => ?_)
      · rw [up2_n (by omega), hw30, up2_n (by omega)]; exact e1
      · rw [up2_s, hw30, up2_n (by omega)]
        by_cases hki : k = i.toNatClampNeg
        · subst hki; rw [vau_s, vau_s]
        · rw [vau_n hki, vau_n hki]; exact e2 k hk
      · rw [up2_n (by omega), hw30, up2_n (by omega)]
  · rw [inB_f hr, if_neg (fun q => by cases q)] at hQ
    refine b_S_lay_4 (fun h4 => absurd h4 (by first | decide | assumption | omega | simp_all)) (fun h4 => b_S_lay_7 ?_)
    exact hQ _ _ hA smM_rf
theorem s_put {r i v : Int32} (hW : wfA A) (hA : AbC A vi vl) (hQ : PC vi vl post (oPut A r i v)) : CallOk X (d + 3) 0 0 k_S_put [.ref 0, .int r, .int i, .int v] (mk vi vl) post := by
  refine CallOk.intro (by decide +kernel) rfl (Nat.le_of_ble_eq_true rfl) ?_
  unfold oPut at hQ
  refine b_S_put_0 ?_
  refine c_S_isText (fun hr => ?_) (fun hr => ?_)
  · rw [inB_t hr, if_pos rfl] at hQ
    obtain ⟨j, hj, rfl⟩ := vp_in_of hr (by decide)
    have cj : (nI j).toNatClampNeg = j := nI_clamp (by omega)
    obtain ⟨e1, e2⟩ := hA.1.2 j hj
    refine b_S_put_4 (fun h4 => b_S_put_9 (by first | assumption | decide | (refine vp_in_nI ?_ ?_ <;> omega) | omega | simp_all) ?_) (fun h4 => absurd h4 (by first | decide | assumption | omega | simp_all))
    rw [nI_clamp (by omega)]
    rw [cj] at hQ
    refine c_S_refusePlace (texts_i hj) (fun h1 => ?_) (fun h1 h2 => ?_) (fun h1 h2 h3 => ?_)
    · rw [e1] at h1
      refine b_S_put_20 (fun h20 => absurd h20 (by first | decide | assumption | omega | simp_all)) (fun h20 => b_S_put_27 ?_)
      rw [if_pos h1] at hQ
      exact hQ _ _ (AbC_fd hW.L8 hA (by decide) (by decide)) smM_rfM
    · rw [e1] at h1 h2
      refine b_S_put_20 (fun h20 => absurd h20 (by first | decide | assumption | omega | simp_all)) (fun h20 => b_S_put_27 ?_)
      rw [if_neg h1, if_pos h2] at hQ
      exact hQ _ _ (AbC_fd hW.L8 hA (by decide) (by decide)) smM_rfM
    · rw [e1] at h1 h3
      rw [if_neg h1, if_neg (fun q => q.elim h2 h3)] at hQ
      obtain ⟨n, hn, en⟩ := ts_n hW hj h1
      rw [en] at h3
      obtain ⟨v1, v2⟩ := ix_of hn (by decide) h2 h3
      have v3 : vp_in i (rl (54 + 2 * (nI j).toNatClampNeg)) := by rw [nI_clamp (by omega), rl_t]; exact v1
      refine b_S_put_20 (fun h20 => b_S_put_30 (by first | assumption | decide | (refine vp_in_nI ?_ ?_ <;> omega) | omega | simp_all) (by first | assumption | decide | (refine vp_in_nI ?_ ?_ <;> omega) | omega | simp_all) (by first | assumption | decide | (refine vp_in_nI ?_ ?_ <;> omega) | omega | simp_all) (by first | assumption | decide | (refine vp_in_nI ?_ ?_ <;> omega) | omega | simp_all) (fun w30 hw30 => b_S_put_56 ?_)) (fun h20 => absurd h20 (by first | decide | assumption | omega | simp_all))
      rw [nI_clamp (by omega), show 54 + 2 * j + 1 = 55 + 2 * j by omega] at hw30 ⊢
      rw [e2 _ (by omega), hw30]
      refine hQ _ _ (AbC_txt (vi := vi) hW.L8 hA hj ?_ (fun k hk => ?_) (fun q h1 h2 => up2_n h2)) (smM_of fun q hq => ?_)
      · rw [up2_n (by omega)]; exact e1
      · rw [up2_s]
        by_cases hki : k = i.toNatClampNeg
        · subst hki; rw [vau_s, vau_s]
        · rw [vau_n hki, vau_n hki]; exact e2 k hk
      · rw [up2_n (by omega)]
  · rw [inB_f hr, if_neg (fun q => by cases q)] at hQ
    refine b_S_put_4 (fun h4 => absurd h4 (by first | decide | assumption | omega | simp_all)) (fun h4 => b_S_put_7 ?_)
    exact hQ _ _ hA smM_rf
theorem s_tear {r : Int32} (hW : wfA A) (hA : AbC A vi vl) (hQ : PC vi vl post (oTear A r)) : CallOk X (d + 3) 0 0 k_S_tear [.ref 0, .int r] (mk vi vl) post := by
  refine CallOk.intro (by decide +kernel) rfl (Nat.le_of_ble_eq_true rfl) ?_
  unfold oTear at hQ
  refine b_S_tear_0 ?_
  refine c_S_isRow (fun hr => ?_) (fun hr => ?_)
  · rw [inB_t hr, if_pos rfl] at hQ
    obtain ⟨j, hj, rfl⟩ := vp_in_of hr (by decide)
    have cj : (nI j).toNatClampNeg = j := nI_clamp (by omega)
    obtain ⟨e1, e2⟩ := hA.1.1 j hj
    refine b_S_tear_4 (fun h4 => b_S_tear_9 (by first | assumption | decide | (refine vp_in_nI ?_ ?_ <;> omega) | omega | simp_all) ?_) (fun h4 => absurd h4 (by first | decide | assumption | omega | simp_all))
    rw [nI_clamp (by omega)]
    rw [cj] at hQ
    refine c_R_isMissing (rows_i hj) (fun h1 => ?_) (fun h1 => ?_)
    · rw [e1] at h1
      refine b_S_tear_18 (fun h18 => absurd h18 (by first | decide | assumption | omega | simp_all)) (fun h18 => b_S_tear_21 ?_)
      refine c_S_refuse 1 (by decide) (by decide) ?_
      refine b_S_tear_26 ?_
      rw [if_pos h1] at hQ
      exact hQ _ _ (AbC_fd hW.L8 hA (by decide) (by decide)) smM_rfM
    · rw [e1] at h1
      refine b_S_tear_18 (fun h18 => b_S_tear_27 (by first | assumption | decide | (refine vp_in_nI ?_ ?_ <;> omega) | omega | simp_all) ?_) (fun h18 => absurd h18 (by first | decide | assumption | omega | simp_all))
      rw [nI_clamp (by omega)]
      refine c_R_remove (rows_i hj) ?_
      refine b_S_tear_36 ?_
      rw [if_neg h1] at hQ
      refine hQ _ _ (AbC_row (vi := vi) hW.L8 hA hj ?_ (fun k hk => ?_) (fun q h1 h2 => up2_n h1)) (smM_of fun q hq => up2_n (by omega))
      · rw [up2_s, vau_s]
      · rw [up2_n (by omega)]; exact e2 k hk
  · rw [inB_f hr, if_neg (fun q => by cases q)] at hQ
    refine b_S_tear_4 (fun h4 => absurd h4 (by first | decide | assumption | omega | simp_all)) (fun h4 => b_S_tear_7 ?_)
    exact hQ _ _ hA smM_rf
theorem s_mean {r : Int32} (hW : wfA A) (hA : AbC A vi vl) (hQ : PC vi vl post (oMean A r)) : CallOk X (d + 2) 0 0 k_S_mean [.ref 0, .int r] (mk vi vl) post := by
  refine CallOk.intro (by decide +kernel) rfl (Nat.le_of_ble_eq_true rfl) ?_
  unfold oMean at hQ
  refine b_S_mean_0 ?_
  refine c_S_isRow (fun hr => ?_) (fun hr => ?_)
  · rw [inB_t hr, if_pos rfl] at hQ
    obtain ⟨j, hj, rfl⟩ := vp_in_of hr (by decide)
    have cj : (nI j).toNatClampNeg = j := nI_clamp (by omega)
    obtain ⟨e1, e2⟩ := hA.1.1 j hj
    refine b_S_mean_4 (fun h4 => b_S_mean_9 (by first | assumption | decide | (refine vp_in_nI ?_ ?_ <;> omega) | omega | simp_all) ?_) (fun h4 => absurd h4 (by first | decide | assumption | omega | simp_all))
    rw [nI_clamp (by omega)]
    rw [cj] at hQ
    have hrw := rows_i hj
    refine c_R_isMissing hrw (fun h1 => ?_) (fun h1 => ?_)
    · rw [e1] at h1
      refine b_S_mean_20 (fun h20 => absurd h20 (by first | decide | assumption | omega | simp_all)) (fun h20 => b_S_mean_23 ?_)
      refine c_S_refuse 1 (by decide) (by decide) ?_
      refine b_S_mean_28 ?_
      rw [if_pos h1] at hQ
      exact hQ _ _ (AbC_fd hW.L8 hA (by decide) (by decide)) smM_rfM
    · rw [e1] at h1
      rw [if_neg h1] at hQ
      obtain ⟨n, hn, en⟩ := rs_n hW hj h1
      refine b_S_mean_20 (fun h20 => b_S_mean_29 (by first | assumption | decide | (refine vp_in_nI ?_ ?_ <;> omega) | omega | simp_all) (fun h29 => b_S_mean_42 ?_) (fun h29 => b_S_mean_36 ?_)) (fun h20 => absurd h20 (by first | decide | assumption | omega | simp_all))
      · rw [e1] at h29
        rw [if_neg h29] at hQ
        have hn0 : n ≠ 0 := fun q => h29 (by rw [en, q]; rfl)
        have key := loop_up (P := fun q => wp X (d + 2) k_S_mean 0 0 47 [some (.ref 0), some (.int (nI j)), some (.ref (42 + 2 * j)), some (.long (smF (aRp A j) q)), none, some (.int (nI q))] [] (mk vi vl) post) n 0 (Nat.zero_le _) ?_ ?_
        · exact key
        · have g1 : vi (42 + 2 * j) 1 ≤ nI n := by rw [e1, en]; exact nI_le (Nat.le_refl _) (by omega)
          have g2 : ¬ (vi (42 + 2 * j) 1).toInt64 = 0 := by
            rw [e1, en, nI_l (by omega)]
            intro q
            have := (lN_eq (a := n) (b := 0) (by omega) (by omega)).mp q
            omega
          refine b_S_mean_47 (by first | assumption | decide | (refine vp_in_nI ?_ ?_ <;> omega) | omega | simp_all) (fun h47 => b_S_mean_73 (by first | assumption | decide | (refine vp_in_nI ?_ ?_ <;> omega) | omega | simp_all) (by first | assumption | decide | (refine vp_in_nI ?_ ?_ <;> omega) | omega | simp_all) (fun w73 hw73 => b_S_mean_85 ?_)) (fun h47 => absurd h47 (by first | decide | assumption | omega | simp_all))
          rw [hw73, e1]
          rw [en, nI_clamp (by omega)] at hQ
          rw [en]
          exact hQ _ _ (AbC_ak hW.L8 hA _) (smM_o (by decide))
        · intro q _ hq ih
          have g1 : ¬ vi (42 + 2 * j) 1 ≤ nI q := by rw [e1, en]; exact nI_ge hq (by omega)
          have g2 : vp_in (nI q) (rl (42 + 2 * j)) := by rw [rl_r hj]; exact vp_in_nI (by omega) (by omega)
          refine b_S_mean_47 (by first | assumption | decide | (refine vp_in_nI ?_ ?_ <;> omega) | omega | simp_all) (fun h47 => absurd h47 (by first | decide | assumption | omega | simp_all)) (fun h47 => b_S_mean_56 (by first | assumption | decide | (refine vp_in_nI ?_ ?_ <;> omega) | omega | simp_all) (by first | assumption | decide | (refine vp_in_nI ?_ ?_ <;> omega) | omega | simp_all) ?_)
          rw [nI_1, nI_clamp (by omega), show 42 + 2 * j + 1 = 43 + 2 * j by omega, e2 q (by omega)]
          exact ih
      · rw [e1] at h29
        rw [if_pos h29] at hQ
        refine c_S_refuse 4 (by decide) (by decide) ?_
        refine b_S_mean_41 ?_
        exact hQ _ _ (AbC_fd hW.L8 hA (by decide) (by decide)) smM_rfM
  · rw [inB_f hr, if_neg (fun q => by cases q)] at hQ
    refine b_S_mean_4 (fun h4 => absurd h4 (by first | decide | assumption | omega | simp_all)) (fun h4 => b_S_mean_7 ?_)
    exact hQ _ _ hA smM_rf
theorem sp_t {i n s : Int32} {m : Nat} (hs : s = nI m) (hm : m < 2 ^ 31) (h0 : ¬ i < 0) (h1 : ¬ n < 0) (h2 : ¬ s < n) (h3 : ¬ s - n < i) : spB i n s = true ∧ i.toNatClampNeg + n.toNatClampNeg ≤ m := by
  obtain ⟨a, ha, rfl⟩ := nI_of h0
  obtain ⟨b, hb, rfl⟩ := nI_of h1
  subst hs
  rw [nI_ltI (by omega) (by omega)] at h2
  rw [pk_sub (by omega), nI_ltI (by omega) (by omega)] at h3
  refine ⟨decide_eq_true ?_, ?_⟩
  · rw [nI_toInt ha, nI_toInt hb, nI_toInt hm]; omega
  · rw [nI_clamp ha, nI_clamp hb]; omega
theorem sp_f {i n s : Int32} {m : Nat} (hs : s = nI m) (hm : m < 2 ^ 31) (h1 : ¬ n < 0) (h : i < 0 ∨ n < 0 ∨ s < n ∨ (¬ n < 0 ∧ ¬ s < n ∧ s - n < i)) : ¬ spB i n s = true := by
  obtain ⟨b, hb, rfl⟩ := nI_of h1
  subst hs
  intro q
  have q := of_decide_eq_true q
  rw [nI_toInt hb, nI_toInt hm] at q
  have h0 : ¬ i < 0 := fun z => by rw [Int32.lt_iff_toInt_lt] at z; simp at z; omega
  obtain ⟨a, ha, rfl⟩ := nI_of h0
  rw [nI_toInt ha] at q
  rcases h with h | h | h | ⟨-, h2, h⟩
  · exact h0 h
  · exact h1 h
  · rw [nI_ltI (by omega) (by omega)] at h; omega
  · rw [nI_ltI (by omega) (by omega)] at h2
    rw [pk_sub (by omega), nI_ltI (by omega) (by omega)] at h
    omega
theorem s_copy {r i to j n : Int32} (hW : wfA A) (hA : AbC A vi vl) (hQ : PC vi vl post (oCopy A r i to j n)) : CallOk X (d + 2) 0 0 k_S_copy [.ref 0, .int r, .int i, .int to, .int j, .int n] (mk vi vl) post := by
  refine CallOk.intro (by decide +kernel) rfl (Nat.le_of_ble_eq_true rfl) ?_
  unfold oCopy at hQ
  refine b_S_copy_0 ?_
  refine c_S_isRow (fun hr => ?_) (fun hr => ?_)
  · refine b_S_copy_4 (fun h4 => absurd h4 (by first | decide | assumption | omega | simp_all)) (fun h4 => b_S_copy_7 ?_)
    refine c_S_isRow (fun hto => ?_) (fun hto => ?_)
    · rw [inB_t hr, inB_t hto, if_pos ⟨rfl, rfl⟩] at hQ
      obtain ⟨a, ha, rfl⟩ := vp_in_of hr (by decide)
      obtain ⟨b, hb, rfl⟩ := vp_in_of hto (by decide)
      have ca : (nI a).toNatClampNeg = a := nI_clamp (by omega)
      have cb : (nI b).toNatClampNeg = b := nI_clamp (by omega)
      obtain ⟨e1, e2⟩ := hA.1.1 a ha
      obtain ⟨f1, f2⟩ := hA.1.1 b hb
      rw [ca, cb] at hQ
      refine b_S_copy_11 (fun h11 => b_S_copy_16 (fun h16 => b_S_copy_27 (by first | assumption | decide | (refine vp_in_nI ?_ ?_ <;> omega) | omega | simp_all) ?_) (fun h16 => b_S_copy_21 ?_)) (fun h11 => absurd h11 (by first | decide | assumption | omega | simp_all))
      · rw [if_neg (ge_neg h16)] at hQ
        rw [nI_clamp (by omega)]
        have hmiss : aRs A a = -1 ∨ aRs A b = -1 → wp X (d + 2) k_S_copy 0 0 51 [some (.ref 0), some (.int (nI a)), some (.int i), some (.int (nI b)), some (.int j), some (.int n)] [] (mk vi vl) post := by
          intro hm
          rw [if_pos hm] at hQ
          refine b_S_copy_51 ?_
          refine c_S_refuse 1 (by decide) (by decide) ?_
          refine b_S_copy_56 ?_
          exact hQ _ _ (AbC_fd hW.L8 hA (by decide) (by decide)) smM_rfM
        refine c_R_isMissing (rows_i ha) (fun h1 => ?_) (fun h1 => ?_)
        · rw [e1] at h1
          refine b_S_copy_36 (fun h36 => ?_) (fun h36 => absurd h36 (by first | decide | assumption | omega | simp_all))
          exact hmiss (Or.inl h1)
        · rw [e1] at h1
          refine b_S_copy_36 (fun h36 => absurd h36 (by first | decide | assumption | omega | simp_all)) (fun h36 => b_S_copy_39 (by first | assumption | decide | (refine vp_in_nI ?_ ?_ <;> omega) | omega | simp_all) ?_)
          rw [nI_clamp (by omega)]
          refine c_R_isMissing (rows_i hb) (fun h2 => ?_) (fun h2 => ?_)
          · rw [f1] at h2
            refine b_S_copy_48 (fun h48 => absurd h48 (by first | decide | assumption | omega | simp_all)) (fun h48 => ?_)
            exact hmiss (Or.inr h2)
          · rw [f1] at h2
            rw [if_neg (fun q => q.elim h1 h2)] at hQ
            obtain ⟨m1, hm1, em1⟩ := rs_n hW ha h1
            obtain ⟨m2, hm2, em2⟩ := rs_n hW hb h2
            have hout : ¬ (spB i n (aRs A a) = true ∧ spB j n (aRs A b) = true) → wp X (d + 2) k_S_copy 0 0 88 [some (.ref 0), some (.int (nI a)), some (.int i), some (.int (nI b)), some (.int j), some (.int n)] [] (mk vi vl) post := by
              intro hm
              rw [if_neg hm] at hQ
              refine b_S_copy_88 ?_
              refine c_S_refuse 2 (by decide) (by decide) ?_
              refine b_S_copy_93 ?_
              exact hQ _ _ (AbC_fd hW.L8 hA (by decide) (by decide)) smM_rfM
            refine b_S_copy_48 (fun h48 => b_S_copy_57 (by first | assumption | decide | (refine vp_in_nI ?_ ?_ <;> omega) | omega | simp_all) ?_) (fun h48 => absurd h48 (by first | decide | assumption | omega | simp_all))
            rw [nI_clamp (by omega)]
            refine c_R_hasSpan (rows_i ha) (fun g1 g2 g3 g4 => ?_) (fun g => ?_)
            · rw [e1] at g3 g4
              obtain ⟨s1, s2⟩ := sp_t em1 (by omega) g1 g2 g3 g4
              refine b_S_copy_69 (fun h69 => absurd h69 (by first | decide | assumption | omega | simp_all)) (fun h69 => b_S_copy_72 (by first | assumption | decide | (refine vp_in_nI ?_ ?_ <;> omega) | omega | simp_all) ?_)
              rw [nI_clamp (by omega)]
              refine c_R_hasSpan (rows_i hb) (fun k1 k2 k3 k4 => ?_) (fun g => ?_)
              · rw [f1] at k3 k4
                obtain ⟨t1, t2⟩ := sp_t em2 (by omega) k1 k2 k3 k4
                rw [if_pos ⟨s1, t1⟩] at hQ
                have o1 : i.toNatClampNeg + n.toNatClampNeg ≤ rl (42 + 2 * (nI a).toNatClampNeg) := by rw [nI_clamp (by omega), rl_r ha]; exact Nat.le_trans s2 hm1
                have o2 : j.toNatClampNeg + n.toNatClampNeg ≤ rl (42 + 2 * (nI b).toNatClampNeg) := by rw [nI_clamp (by omega), rl_r hb]; exact Nat.le_trans t2 hm2
                refine b_S_copy_85 (fun h85 => b_S_copy_94 (by first | assumption | decide | (refine vp_in_nI ?_ ?_ <;> omega) | omega | simp_all) (by first | assumption | decide | (refine vp_in_nI ?_ ?_ <;> omega) | omega | simp_all) (by first | assumption | decide | (refine vp_in_nI ?_ ?_ <;> omega) | omega | simp_all) (by first | assumption | decide | (refine vp_in_nI ?_ ?_ <;> omega) | omega | simp_all) (by first | assumption | decide | (refine vp_in_nI ?_ ?_ <;> omega) | omega | simp_all) (by first | assumption | decide | (refine vp_in_nI ?_ ?_ <;> omega) | omega | simp_all) (by first | assumption | decide | (refine vp_in_nI ?_ ?_ <;> omega) | omega | simp_all) (fun w94 hw94 => b_S_copy_120 ?_)) (fun h85 => absurd h85 (by first | decide | assumption | omega | simp_all))
                rw [nI_clamp (by omega), nI_clamp (by omega), show 42 + 2 * a + 1 = 43 + 2 * a by omega, show 42 + 2 * b + 1 = 43 + 2 * b by omega] at hw94
                rw [hw94]
                refine hQ _ _ (AbC_row (vi := vi) hW.L8 hA hb ?_ (fun k hk => ?_) (fun q h1 h2 => up1_n h2)) (smM_of fun q hq => up1_n (by omega))
                · rw [up1_n (by omega)]; exact f1
                · rw [up1_s]
                  unfold va_cpy
                  by_cases hin : j.toNatClampNeg ≤ k ∧ k < j.toNatClampNeg + n.toNatClampNeg
                  · rw [if_pos hin, if_pos hin]; exact e2 _ (by omega)
                  · rw [if_neg hin, if_neg hin]; exact f2 k hk
              · rw [f1] at g
                refine b_S_copy_85 (fun h85 => absurd h85 (by first | decide | assumption | omega | simp_all)) (fun h85 => ?_)
                exact hout (fun q => sp_f em2 (by omega) g2 g q.2)
            · rw [e1] at g
              refine b_S_copy_69 (fun h69 => ?_) (fun h69 => absurd h69 (by first | decide | assumption | omega | simp_all))
              exact hout (fun q => sp_f em1 (by omega) (ge_neg h16) g q.1)
      · rw [if_pos (le_neg h16)] at hQ
        refine c_S_refuse 5 (by decide) (by decide) ?_
        refine b_S_copy_26 ?_
        exact hQ _ _ (AbC_fd hW.L8 hA (by decide) (by decide)) smM_rfM
    · rw [inB_f hto, if_neg (fun q => by cases q.2)] at hQ
      refine b_S_copy_11 (fun h11 => absurd h11 (by first | decide | assumption | omega | simp_all)) (fun h11 => b_S_copy_14 ?_)
      exact hQ _ _ hA smM_rf
  · rw [inB_f hr, if_neg (fun q => by cases q.1)] at hQ
    refine b_S_copy_4 (fun h4 => b_S_copy_14 ?_) (fun h4 => absurd h4 (by first | decide | assumption | omega | simp_all))
    exact hQ _ _ hA smM_rf
end S33
