def bI (b : Bool) : Int32 := if b then 1 else 0
theorem bI_t {b : Bool} (h : ¬ bI b = 0) : b = true := by cases b; exact absurd rfl h; rfl
theorem bI_f {b : Bool} (h : bI b = 0) : b = false := by cases b; rfl; exact absurd h (by decide)
theorem bI_01 (b : Bool) : bI b = 0 ∨ bI b = 1 := by cases b <;> decide
section S21
variable {X : aX} {d : Nat} {vi : Nat → Nat → Int32} {vl : Nat → Nat → Int64} {post : aO}
theorem c_S_isText {x : Int32} (ht : vp_in x 4 → post (some (.int 1)) (mk vi vl)) (hf : ¬ vp_in x 4 → post (some (.int 0)) (mk vi vl)) : CallOk X (d + 1) 0 0 k_S_isText [.int x] (mk vi vl) post := by
  refine CallOk.intro (by decide +kernel) rfl (Nat.le_of_ble_eq_true rfl) ?_
  refine b_S_isText_0 (fun h0 => b_S_isText_13 (b_S_isText_14 (by first | assumption | decide | (refine vp_in_nI ?_ ?_ <;> omega) | omega | simp_all) ?_)) (fun h0 => b_S_isText_4 (fun h4 => b_S_isText_13 (b_S_isText_14 (by first | assumption | decide | (refine vp_in_nI ?_ ?_ <;> omega) | omega | simp_all) ?_)) (fun h4 => b_S_isText_9 (b_S_isText_14 (by first | assumption | decide | (refine vp_in_nI ?_ ?_ <;> omega) | omega | simp_all) ?_)))
  · exact hf (vin_f0 h0)
  · exact hf (vin_f1 (n := 4) (by decide) h4)
  · exact ht (vin_t (n := 4) (by decide) h0 h4)
theorem c_S_isKeptPlace {x : Int32} (ht : vp_in x 3 → post (some (.int 1)) (mk vi vl)) (hf : ¬ vp_in x 3 → post (some (.int 0)) (mk vi vl)) : CallOk X (d + 1) 0 0 k_S_isKeptPlace [.int x] (mk vi vl) post := by
  refine CallOk.intro (by decide +kernel) rfl (Nat.le_of_ble_eq_true rfl) ?_
  refine b_S_isKeptPlace_0 (fun h0 => b_S_isKeptPlace_13 (b_S_isKeptPlace_14 (by first | assumption | decide | (refine vp_in_nI ?_ ?_ <;> omega) | omega | simp_all) ?_)) (fun h0 => b_S_isKeptPlace_4 (fun h4 => b_S_isKeptPlace_13 (b_S_isKeptPlace_14 (by first | assumption | decide | (refine vp_in_nI ?_ ?_ <;> omega) | omega | simp_all) ?_)) (fun h4 => b_S_isKeptPlace_9 (b_S_isKeptPlace_14 (by first | assumption | decide | (refine vp_in_nI ?_ ?_ <;> omega) | omega | simp_all) ?_)))
  · exact hf (vin_f0 h0)
  · exact hf (vin_f1 (n := 3) (by decide) h4)
  · exact ht (vin_t (n := 3) (by decide) h0 h4)
theorem c_S_isScene {x : Int32} (ht : vp_in x 5 → post (some (.int 1)) (mk vi vl)) (hf : ¬ vp_in x 5 → post (some (.int 0)) (mk vi vl)) : CallOk X (d + 1) 0 0 k_S_isScene [.int x] (mk vi vl) post := by
  refine CallOk.intro (by decide +kernel) rfl (Nat.le_of_ble_eq_true rfl) ?_
  refine b_S_isScene_0 (fun h0 => b_S_isScene_13 (b_S_isScene_14 (by first | assumption | decide | (refine vp_in_nI ?_ ?_ <;> omega) | omega | simp_all) ?_)) (fun h0 => b_S_isScene_4 (fun h4 => b_S_isScene_13 (b_S_isScene_14 (by first | assumption | decide | (refine vp_in_nI ?_ ?_ <;> omega) | omega | simp_all) ?_)) (fun h4 => b_S_isScene_9 (b_S_isScene_14 (by first | assumption | decide | (refine vp_in_nI ?_ ?_ <;> omega) | omega | simp_all) ?_)))
  · exact hf (vin_f0 h0)
  · exact hf (vin_f1 (n := 5) (by decide) h4)
  · exact ht (vin_t (n := 5) (by decide) h0 h4)
theorem c_S_isYear {x : Int32} {n : Nat} (hn : vi 3 0 = nI n) (hn5 : n ≤ 5) (ht : vp_in x n → post (some (.int 1)) (mk vi vl)) (hf : ¬ vp_in x n → post (some (.int 0)) (mk vi vl)) : CallOk X (d + 1) 0 0 k_S_isYear [.ref 0, .int x] (mk vi vl) post := by
  refine CallOk.intro (by decide +kernel) rfl (Nat.le_of_ble_eq_true rfl) ?_
  refine b_S_isYear_0 (fun h0 => b_S_isYear_19 (b_S_isYear_20 (by first | assumption | decide | (refine vp_in_nI ?_ ?_ <;> omega) | omega | simp_all) ?_)) (fun h0 => b_S_isYear_4 (fun h4 => b_S_isYear_19 (b_S_isYear_20 (by first | assumption | decide | (refine vp_in_nI ?_ ?_ <;> omega) | omega | simp_all) ?_)) (fun h4 => b_S_isYear_15 (b_S_isYear_20 (by first | assumption | decide | (refine vp_in_nI ?_ ?_ <;> omega) | omega | simp_all) ?_)))
  · exact hf (vin_f0 h0)
  · rw [hn] at h4; exact hf (vin_f1 (by omega) h4)
  · rw [hn] at h4; exact ht (vin_t (by omega) h0 h4)
theorem c_S_isLaw {x : Int32} {n : Nat} (hn : vi 3 3 = nI n) (hn5 : n ≤ 8) (ht : vp_in x n → post (some (.int 1)) (mk vi vl)) (hf : ¬ vp_in x n → post (some (.int 0)) (mk vi vl)) : CallOk X (d + 1) 0 0 k_S_isLaw [.ref 0, .int x] (mk vi vl) post := by
  refine CallOk.intro (by decide +kernel) rfl (Nat.le_of_ble_eq_true rfl) ?_
  refine b_S_isLaw_0 (fun h0 => b_S_isLaw_19 (b_S_isLaw_20 (by first | assumption | decide | (refine vp_in_nI ?_ ?_ <;> omega) | omega | simp_all) ?_)) (fun h0 => b_S_isLaw_4 (fun h4 => b_S_isLaw_19 (b_S_isLaw_20 (by first | assumption | decide | (refine vp_in_nI ?_ ?_ <;> omega) | omega | simp_all) ?_)) (fun h4 => b_S_isLaw_15 (b_S_isLaw_20 (by first | assumption | decide | (refine vp_in_nI ?_ ?_ <;> omega) | omega | simp_all) ?_)))
  · exact hf (vin_f0 h0)
  · rw [hn] at h4; exact hf (vin_f1 (by omega) h4)
  · rw [hn] at h4; exact ht (vin_t (by omega) h0 h4)
/-- the memory behind a FINDING of the class's -/
def rfM (vi : Nat → Nat → Int32) (f : Nat) : Nat → Nat → Int32 := up2 (up2 vi 41 f (vi 41 f + 1)) 0 7 (nI f)
theorem c_S_refuse (f : Nat) (h1 : 1 ≤ f) (h5 : f ≤ 5) (hQ : post (some (.int (-3))) (mk (rfM vi f) vl)) : CallOk X (d + 1) 0 0 k_S_refuse [.ref 0, .int (nI f)] (mk vi vl) post := by
  refine CallOk.intro (by decide +kernel) rfl (Nat.le_of_ble_eq_true rfl) ?_
  have e1 : ¬ nI f < 1 := nI_nlt (a := f) (b := 1) h1 (by omega)
  have e2 : ¬ 5 < nI f := nI_nlt (a := 5) (b := f) h5 (by omega)
  have e3 : vp_in (nI f) 6 := vp_in_nI (by omega) (by omega)
  refine b_S_refuse_0 (fun h0 => absurd h0 (by first | decide | assumption | omega | simp_all)) (fun h0 => b_S_refuse_5 (fun h5 => absurd h5 (by first | decide | assumption | omega | simp_all)) (fun h5 => b_S_refuse_10 (by first | assumption | decide | (refine vp_in_nI ?_ ?_ <;> omega) | omega | simp_all) (by first | assumption | decide | (refine vp_in_nI ?_ ?_ <;> omega) | omega | simp_all) (fun w10 hw10 => b_S_refuse_20 (fun w20 hw20 => b_S_refuse_25 ?_))))
  rw [hw20, hw10, nI_clamp (by omega)]
  exact hQ
theorem c_R_isMissing {r : Nat} (hr : isRw r) (ht : vi r 1 = -1 → post (some (.int 1)) (mk vi vl)) (hf : ¬ vi r 1 = -1 → post (some (.int 0)) (mk vi vl)) : CallOk X (d + 1) 0 0 k_R_isMissing [.ref r] (mk vi vl) post := by
  refine CallOk.intro (by decide +kernel) rfl (Nat.le_of_ble_eq_true rfl) ?_
  refine b_R_isMissing_0 (by first | assumption | decide | (refine vp_in_nI ?_ ?_ <;> omega) | omega | simp_all) (fun h0 => b_R_isMissing_12 (b_R_isMissing_13 (by first | assumption | decide | (refine vp_in_nI ?_ ?_ <;> omega) | omega | simp_all) ?_)) (fun h0 => b_R_isMissing_8 (b_R_isMissing_13 (by first | assumption | decide | (refine vp_in_nI ?_ ?_ <;> omega) | omega | simp_all) ?_))
  · exact hf h0
  · exact ht h0
theorem c_R_has {r : Nat} {i : Int32} (hr : isRw r) (ht : ¬ i < 0 → ¬ vi r 1 ≤ i → post (some (.int 1)) (mk vi vl)) (hf : i < 0 ∨ vi r 1 ≤ i → post (some (.int 0)) (mk vi vl)) : CallOk X (d + 1) 0 0 k_R_has [.ref r, .int i] (mk vi vl) post := by
  refine CallOk.intro (by decide +kernel) rfl (Nat.le_of_ble_eq_true rfl) ?_
  refine b_R_has_0 (fun h0 => b_R_has_16 (b_R_has_17 (by first | assumption | decide | (refine vp_in_nI ?_ ?_ <;> omega) | omega | simp_all) ?_)) (fun h0 => b_R_has_4 (by first | assumption | decide | (refine vp_in_nI ?_ ?_ <;> omega) | omega | simp_all) (fun h4 => b_R_has_16 (b_R_has_17 (by first | assumption | decide | (refine vp_in_nI ?_ ?_ <;> omega) | omega | simp_all) ?_)) (fun h4 => b_R_has_12 (b_R_has_17 (by first | assumption | decide | (refine vp_in_nI ?_ ?_ <;> omega) | omega | simp_all) ?_)))
  · exact hf (Or.inl h0)
  · exact hf (Or.inr h4)
  · exact ht h0 h4
theorem c_R_hasSpan {r : Nat} {i n : Int32} (hr : isRw r) (ht : ¬ i < 0 → ¬ n < 0 → ¬ vi r 1 < n → ¬ vi r 1 - n < i → post (some (.int 1)) (mk vi vl)) (hf : i < 0 ∨ n < 0 ∨ vi r 1 < n ∨ (¬ n < 0 ∧ ¬ vi r 1 < n ∧ vi r 1 - n < i) → post (some (.int 0)) (mk vi vl)) : CallOk X (d + 1) 0 0 k_R_hasSpan [.ref r, .int i, .int n] (mk vi vl) post := by
  refine CallOk.intro (by decide +kernel) rfl (Nat.le_of_ble_eq_true rfl) ?_
  refine b_R_hasSpan_0 (fun h0 => b_R_hasSpan_30 (b_R_hasSpan_31 (by first | assumption | decide | (refine vp_in_nI ?_ ?_ <;> omega) | omega | simp_all) ?_)) (fun h0 => b_R_hasSpan_4 (fun h4 => b_R_hasSpan_30 (b_R_hasSpan_31 (by first | assumption | decide | (refine vp_in_nI ?_ ?_ <;> omega) | omega | simp_all) ?_)) (fun h4 => b_R_hasSpan_8 (by first | assumption | decide | (refine vp_in_nI ?_ ?_ <;> omega) | omega | simp_all) (fun h8 => b_R_hasSpan_30 (b_R_hasSpan_31 (by first | assumption | decide | (refine vp_in_nI ?_ ?_ <;> omega) | omega | simp_all) ?_)) (fun h8 => b_R_hasSpan_16 (by first | assumption | decide | (refine vp_in_nI ?_ ?_ <;> omega) | omega | simp_all) (fun h16 => b_R_hasSpan_30 (b_R_hasSpan_31 (by first | assumption | decide | (refine vp_in_nI ?_ ?_ <;> omega) | omega | simp_all) ?_)) (fun h16 => b_R_hasSpan_26 (b_R_hasSpan_31 (by first | assumption | decide | (refine vp_in_nI ?_ ?_ <;> omega) | omega | simp_all) ?_)))))
  · exact hf (Or.inl h0)
  · exact hf (Or.inr (Or.inl h4))
  · exact hf (Or.inr (Or.inr (Or.inl h8)))
  · exact hf (Or.inr (Or.inr (Or.inr ⟨h4, h8, h16⟩)))
  · exact ht h0 h4 h8 h16
theorem bg_val {n L : Nat} (h : n ≤ L) (hL : L < 2 ^ 31) : (if (0 : Int32) < (if nI L < nI n then nI L else nI n) then (if nI L < nI n then nI L else nI n) else 0) = nI n := by
  rw [if_neg (nI_nlt h hL)]
  by_cases h0 : n = 0
  · subst h0; decide
  · have : (0 : Int32) < nI n := nI_lt (a := 0) (b := n) (by omega) (by omega)
    rw [if_pos this]
/-- the memory behind Row.begin -/
def bgM (vi : Nat → Nat → Int32) (r n : Nat) (x : Int32) : Nat → Nat → Int32 := up1 (up2 vi r 1 (nI n)) (r + 1) (flF (vi (r + 1)) x (rl r))
theorem rl_le (r : Nat) : rl r = 40 ∨ rl r = 60 := by unfold rl; by_cases h : r < 54 <;> simp [h]
theorem c_R_begin {r n : Nat} {x : Int32} (hr : isRw r) (hn : n ≤ rl r) (hQ : post none (mk (bgM vi r n x) vl)) : CallOk X (d + 2) 0 0 k_R_begin [.ref r, .int (nI n), .int x] (mk vi vl) post := by
  refine CallOk.intro (by decide +kernel) rfl (Nat.le_of_ble_eq_true rfl) ?_
  have hl := rl_le r
  refine b_R_begin_0 (by first | assumption | decide | (refine vp_in_nI ?_ ?_ <;> omega) | omega | simp_all) (fun w0 hw0 => b_R_begin_17 (by first | assumption | decide | (refine vp_in_nI ?_ ?_ <;> omega) | omega | simp_all) ?_)
  rw [show Int32.ofNat (rl r) = nI (rl r) from rfl, bg_val hn (by omega)] at hw0
  refine c_J_fill (rw_lt1 hr) (rw_s1 hr) (by omega) ?_
  refine b_R_begin_25 ?_
  rw [hw0, up2_n (show r + 1 ≠ r by omega)]
  exact hQ
theorem c_R_remove {r : Nat} (hr : isRw r) (hQ : post none (mk (up2 vi r 1 (-1)) vl)) : CallOk X (d + 1) 0 0 k_R_remove [.ref r] (mk vi vl) post := by
  refine CallOk.intro (by decide +kernel) rfl (Nat.le_of_ble_eq_true rfl) ?_
  refine b_R_remove_0 (by first | assumption | decide | (refine vp_in_nI ?_ ?_ <;> omega) | omega | simp_all) (fun w0 hw0 => b_R_remove_5 ?_)
  rw [hw0]; exact hQ
theorem c_S_refusePlace {r : Nat} {i : Int32} (hr : isRw r) (h1 : vi r 1 = -1 → post (some (.int (-3))) (mk (rfM vi 1) vl)) (h2 : ¬ vi r 1 = -1 → (i < 0 ∨ vi r 1 ≤ i) → post (some (.int (-3))) (mk (rfM vi 2) vl)) (h3 : ¬ vi r 1 = -1 → ¬ i < 0 → ¬ vi r 1 ≤ i → post (some (.int 0)) (mk vi vl)) : CallOk X (d + 2) 0 0 k_S_refusePlace [.ref 0, .ref r, .int i] (mk vi vl) post := by
  refine CallOk.intro (by decide +kernel) rfl (Nat.le_of_ble_eq_true rfl) ?_
  refine b_S_refusePlace_0 ?_ (by first | assumption | decide | (refine vp_in_nI ?_ ?_ <;> omega) | omega | simp_all)
  refine c_R_isMissing hr (fun hm => ?_) (fun hm => ?_)
  · refine b_S_refusePlace_4 (fun h4 => absurd h4 (by first | decide | assumption | omega | simp_all)) (fun h4 => b_S_refusePlace_7 ?_)
    refine c_S_refuse 1 (by decide) (by decide) ?_
    refine b_S_refusePlace_12 ?_
    exact h1 hm
  · refine b_S_refusePlace_4 (fun h4 => b_S_refusePlace_13 ?_ (by first | assumption | decide | (refine vp_in_nI ?_ ?_ <;> omega) | omega | simp_all)) (fun h4 => absurd h4 (by first | decide | assumption | omega | simp_all))
    refine c_R_has hr (fun ha hb => ?_) (fun ha => ?_)
    · refine b_S_refusePlace_18 (fun h18 => b_S_refusePlace_27 ?_) (fun h18 => absurd h18 (by first | decide | assumption | omega | simp_all))
      exact h3 hm ha hb
    · refine b_S_refusePlace_18 (fun h18 => absurd h18 (by first | decide | assumption | omega | simp_all)) (fun h18 => b_S_refusePlace_21 ?_)
      refine c_S_refuse 2 (by decide) (by decide) ?_
      refine b_S_refusePlace_26 ?_
      exact h2 hm ha
end S21
