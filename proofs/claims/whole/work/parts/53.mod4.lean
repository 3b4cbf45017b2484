/-! the reference's reader -/
def btF (f : Nat → Int32) (n i : Nat) : Int32 := if i < n then f i else -1000
def TX (vi : Nat → Nat → Int32) (t : Nat) (f : Nat → Int32) (n : Nat) : Prop := t < 4 ∧ n ≤ 60 ∧ vi 101 t = nI n ∧ ∀ k, k < 60 → vi 100 (60 * t + k) = f k
/-- what the reader may change -/
def rdM (w u : Nat → Nat → Int32) : Prop := (∀ j, j ≠ 95 → j ≠ 96 → u j = w j) ∧ (∀ k, k ≠ 13 → u 95 k = w 95 k) ∧ ∀ k, k < 5904 → u 96 k = w 96 k
theorem rdM_rf {w : Nat → Nat → Int32} : rdM w w := ⟨fun _ _ _ => rfl, fun _ _ => rfl, fun _ _ => rfl⟩
theorem rdM_tr {u v w : Nat → Nat → Int32} (h1 : rdM u v) (h2 : rdM v w) : rdM u w := ⟨fun j a b => (h2.1 j a b).trans (h1.1 j a b), fun k a => (h2.2.1 k a).trans (h1.2.1 k a), fun k hk => (h2.2.2 k hk).trans (h1.2.2 k hk)⟩
theorem rdM_p {w : Nat → Nat → Int32} {v : Int32} : rdM w (up2 w 95 13 v) := ⟨fun j a b => up2_n a, fun k a => by rw [up2_s, vau_n a], fun k hk => by rw [up2_n (by decide)]⟩
theorem rdM_r {w : Nat → Nat → Int32} {v : Int32} {x : Nat} (hx : 5904 ≤ x) : rdM w (up2 w 96 x v) := ⟨fun j a b => up2_n b, fun k a => by rw [up2_n (by decide)], fun k hk => by rw [up2_s, vau_n (by omega)]⟩
theorem TX.rd {w u : Nat → Nat → Int32} {t : Nat} {f : Nat → Int32} {n : Nat} (h : TX w t f n) (hr : rdM w u) : TX u t f n := by
  obtain ⟨h1, h2, h3, h4⟩ := h
  exact ⟨h1, h2, by rw [hr.1 101 (by decide) (by decide)]; exact h3, fun k hk => by rw [hr.1 100 (by decide) (by decide)]; exact h4 k hk⟩
theorem rdM_sc {w u : Nat → Nat → Int32} (h : rdM w u) : scM w u := ⟨fun j hj => h.1 j (by omega) (by omega), fun k a _ => h.2.1 k a, h.2.2⟩
theorem kd_val (x : Int32) : kdF x = if x = 108 then 0 else if x = 98 then 1 else if x = 103 then 2 else if x = 101 then 3 else if x = 107 then 4 else if x = 115 then 5 else -9 := by
  unfold kdF
  simp only [frF, decide_eq_true_eq]
  have e0 : am_let 0 = 108 := by decide
  have e1 : am_let (0 + 1) = 98 := by decide
  have e2 : am_let (0 + 1 + 1) = 103 := by decide
  have e3 : am_let (0 + 1 + 1 + 1) = 101 := by decide
  have e4 : am_let (0 + 1 + 1 + 1 + 1) = 107 := by decide
  have e5 : am_let (0 + 1 + 1 + 1 + 1 + 1) = 115 := by decide
  rw [e0, e1, e2, e3, e4, e5]
  simp only [eq_comm (b := x)]
  rfl
theorem sg_nk {f : Nat → Int32} {n i : Nat} (h : sgB f n i = true) : i < n ∧ kdF (f i) = -9 ∧ ¬ f i = 32 := by
  have hi : i < n := by
    have h' := h
    unfold sgB scB at h'
    simp at h'
    rcases h' with q | q <;> exact q.1
  refine ⟨hi, ?_⟩
  have hv : f i = 45 ∨ f i = 48 ∨ f i = 49 ∨ f i = 50 ∨ f i = 51 ∨ f i = 52 := by
    unfold sgB at h
    rw [Bool.or_eq_true] at h
    rcases h with h | h
    · exact Or.inl (by simp at h; exact h.2)
    · obtain ⟨j, hj, e⟩ := vp_in_of (scB_v h) (by decide)
      have e2 : f i = nI (j + 48) := by rw [← nI_add, ← e]; show f i = f i - 48 + 48; rw [Int32.sub_add_cancel]
      rcases (show j = 0 ∨ j = 1 ∨ j = 2 ∨ j = 3 ∨ j = 4 by omega) with rfl | rfl | rfl | rfl | rfl
      · exact Or.inr (Or.inl e2)
      · exact Or.inr (Or.inr (Or.inl e2))
      · exact Or.inr (Or.inr (Or.inr (Or.inl e2)))
      · exact Or.inr (Or.inr (Or.inr (Or.inr (Or.inl e2))))
      · exact Or.inr (Or.inr (Or.inr (Or.inr (Or.inr e2))))
  rcases hv with e | e | e | e | e | e <;> rw [e] <;> exact ⟨by decide, by decide⟩
section S53
variable {X : aX} {d : Nat} {vi : Nat → Nat → Int32} {vl : Nat → Nat → Int64} {post : aO} {A : aA} {t n : Nat} {f : Nat → Int32}
theorem c_M_kindOf {x : Int32} (hQ : post (some (.int (if kdF x = -9 then -1 else kdF x))) (mk vi vl)) : CallOk X (d + 1) 0 0 k_M_kindOf [.int x] (mk vi vl) post := by
  refine CallOk.intro (by decide +kernel) rfl (Nat.le_of_ble_eq_true rfl) ?_
  rw [kd_val] at hQ
  by_cases h0 : x = 108
  · rw [if_pos h0] at hQ
    refine b_M_kindOf_0 (fun h0 => absurd h0 (by first | decide | assumption | omega | simp_all)) (fun h0 => b_M_kindOf_6 (b_M_kindOf_61 ?_))
    exact hQ
  · rw [if_neg h0] at hQ
    by_cases h1 : x = 98
    · rw [if_pos h1] at hQ
      refine b_M_kindOf_0 (fun h0 => b_M_kindOf_10 (fun h10 => absurd h10 (by first | decide | assumption | omega | simp_all)) (fun h10 => b_M_kindOf_16 (b_M_kindOf_61 ?_))) (fun h0 => absurd h0 (by first | decide | assumption | omega | simp_all))
      exact hQ
    · rw [if_neg h1] at hQ
      by_cases h2 : x = 103
      · rw [if_pos h2] at hQ
        refine b_M_kindOf_0 (fun h0 => b_M_kindOf_10 (fun h10 => b_M_kindOf_20 (fun h20 => absurd h20 (by first | decide | assumption | omega | simp_all)) (fun h20 => b_M_kindOf_26 (b_M_kindOf_61 ?_))) (fun h10 => absurd h10 (by first | decide | assumption | omega | simp_all))) (fun h0 => absurd h0 (by first | decide | assumption | omega | simp_all))
        exact hQ
      · rw [if_neg h2] at hQ
        by_cases h3 : x = 101
        · rw [if_pos h3] at hQ
          refine b_M_kindOf_0 (fun h0 => b_M_kindOf_10 (fun h10 => b_M_kindOf_20 (fun h20 => b_M_kindOf_30 (fun h30 => absurd h30 (by first | decide | assumption | omega | simp_all)) (fun h30 => b_M_kindOf_36 (b_M_kindOf_61 ?_))) (fun h20 => absurd h20 (by first | decide | assumption | omega | simp_all))) (fun h10 => absurd h10 (by first | decide | assumption | omega | simp_all))) (fun h0 => absurd h0 (by first | decide | assumption | omega | simp_all))
          exact hQ
        · rw [if_neg h3] at hQ
          by_cases h4 : x = 107
          · rw [if_pos h4] at hQ
            refine b_M_kindOf_0 (fun h0 => b_M_kindOf_10 (fun h10 => b_M_kindOf_20 (fun h20 => b_M_kindOf_30 (fun h30 => b_M_kindOf_40 (fun h40 => absurd h40 (by first | decide | assumption | omega | simp_all)) (fun h40 => b_M_kindOf_46 (b_M_kindOf_61 ?_))) (fun h30 => absurd h30 (by first | decide | assumption | omega | simp_all))) (fun h20 => absurd h20 (by first | decide | assumption | omega | simp_all))) (fun h10 => absurd h10 (by first | decide | assumption | omega | simp_all))) (fun h0 => absurd h0 (by first | decide | assumption | omega | simp_all))
            exact hQ
          · rw [if_neg h4] at hQ
            by_cases h5 : x = 115
            · rw [if_pos h5] at hQ
              refine b_M_kindOf_0 (fun h0 => b_M_kindOf_10 (fun h10 => b_M_kindOf_20 (fun h20 => b_M_kindOf_30 (fun h30 => b_M_kindOf_40 (fun h40 => b_M_kindOf_50 (fun h50 => absurd h50 (by first | decide | assumption | omega | simp_all)) (fun h50 => b_M_kindOf_56 (b_M_kindOf_61 ?_))) (fun h40 => absurd h40 (by first | decide | assumption | omega | simp_all))) (fun h30 => absurd h30 (by first | decide | assumption | omega | simp_all))) (fun h20 => absurd h20 (by first | decide | assumption | omega | simp_all))) (fun h10 => absurd h10 (by first | decide | assumption | omega | simp_all))) (fun h0 => absurd h0 (by first | decide | assumption | omega | simp_all))
              exact hQ
            · rw [if_neg h5] at hQ
              refine b_M_kindOf_0 (fun h0 => b_M_kindOf_10 (fun h10 => b_M_kindOf_20 (fun h20 => b_M_kindOf_30 (fun h30 => b_M_kindOf_40 (fun h40 => b_M_kindOf_50 (fun h50 => b_M_kindOf_60 (b_M_kindOf_61 ?_)) (fun h50 => absurd h50 (by first | decide | assumption | omega | simp_all))) (fun h40 => absurd h40 (by first | decide | assumption | omega | simp_all))) (fun h30 => absurd h30 (by first | decide | assumption | omega | simp_all))) (fun h20 => absurd h20 (by first | decide | assumption | omega | simp_all))) (fun h10 => absurd h10 (by first | decide | assumption | omega | simp_all))) (fun h0 => absurd h0 (by first | decide | assumption | omega | simp_all))
              exact hQ
theorem c_M_byteAt {i : Nat} (hT : TX vi t f n) (hi : i < 1000) (hQ : post (some (.int (btF f n i))) (mk vi vl)) : CallOk X (d + 1) 0 0 k_M_byteAt [.ref 95, .int (nI t), .int (nI i)] (mk vi vl) post := by
  refine CallOk.intro (by decide +kernel) rfl (Nat.le_of_ble_eq_true rfl) ?_
  obtain ⟨h1, h2, h3, h4⟩ := hT
  have ct : (nI t).toNatClampNeg = t := nI_clamp (by omega)
  have vt : vp_in (nI t) 4 := vp_in_nI h1 (by omega)
  unfold btF at hQ
  by_cases hin : i < n
  · rw [if_pos hin] at hQ
    have g : ¬ vi 101 (nI t).toNatClampNeg ≤ nI i := by rw [ct, h3]; exact nI_ge hin (by omega)
    have v1 : vp_in (60 * nI t + nI i) 240 := by rw [ix60]; exact vp_in_nI (by omega) (by omega)
    refine b_M_byteAt_0 (by first | assumption | decide | (refine vp_in_nI ?_ ?_ <;> omega) | omega | simp_all) (fun h0 => absurd h0 (by first | decide | assumption | omega | simp_all)) (fun h0 => b_M_byteAt_10 (by first | assumption | decide | (refine vp_in_nI ?_ ?_ <;> omega) | omega | simp_all) (b_M_byteAt_27 ?_))
    rw [ix60, nI_clamp (by omega), h4 i (by omega)]
    exact hQ
  · rw [if_neg hin] at hQ
    have g : ¬ ¬ vi 101 (nI t).toNatClampNeg ≤ nI i := fun q => q (by rw [ct, h3]; exact nI_le (by omega) (by omega))
    refine b_M_byteAt_0 (by first | assumption | decide | (refine vp_in_nI ?_ ?_ <;> omega) | omega | simp_all) (fun h0 => b_M_byteAt_24 (b_M_byteAt_27 ?_)) (fun h0 => absurd h0 (by first | decide | assumption | omega | simp_all))
    exact hQ
theorem c_M_blanks : ∀ (m p : Nat) (vi : Nat → Nat → Int32) (post : aO), TX vi t f n → p + m = n → vi 95 13 = nI p → (∀ u, (∀ j, j ≠ 95 → u j = vi j) → (∀ k, k ≠ 13 → u 95 k = vi 95 k) → u 95 13 = nI (skF f n m p) → post none (mk u vl)) → wp X (d + 2) k_M_blanks 0 0 0 [some (.ref 95), some (.int (nI t))] [] (mk vi vl) post := by
  intro m
  induction m with
  | zero =>
    intro p vi post hT hp h13 hQ
    have hn := hT.2.1
    refine b_M_blanks_0 ?_
    rw [h13]
    refine c_M_byteAt hT (by omega) ?_
    unfold btF
    rw [if_neg (by omega)]
    have g : ¬ (-1000 : Int32) = 32 := by decide
    refine b_M_blanks_9 (fun h9 => b_M_blanks_27 ?_) (fun h9 => absurd h9 (by first | decide | assumption | omega | simp_all))
    exact hQ vi (fun _ _ => rfl) (fun _ _ => rfl) h13
  | succ m ih =>
    intro p vi post hT hp h13 hQ
    have hn := hT.2.1
    have eb : blB f n p = decide (f p = 32) := by unfold blB; rw [decide_eq_true (show p < n by omega), Bool.true_and]
    simp only [skF] at hQ
    refine b_M_blanks_0 ?_
    rw [h13]
    refine c_M_byteAt hT (by omega) ?_
    unfold btF
    rw [if_pos (by omega)]
    by_cases h : f p = 32
    · rw [if_pos (show blB f n p = true by rw [eb]; exact decide_eq_true h)] at hQ
      rw [h]
      refine b_M_blanks_9 (fun h9 => absurd h9 (by first | decide | assumption | omega | simp_all)) (fun h9 => b_M_blanks_14 (fun w14 hw14 => b_M_blanks_24 ?_))
      rw [h13, nI_1] at hw14
      have hr : rdM vi w14 := by rw [hw14]; exact rdM_p
      refine ih (p + 1) w14 post (hT.rd hr) (by omega) (by rw [hw14, up2_s, vau_s]) (fun u u1 u2 u3 => hQ u (fun j hj => ?_) (fun k hk => ?_) u3)
      · rw [u1 j hj, hw14, up2_n hj]
      · rw [u2 k hk, hw14, up2_s, vau_n hk]
    · rw [if_neg (show ¬ blB f n p = true by rw [eb]; exact fun q => h (of_decide_eq_true q))] at hQ
      refine b_M_blanks_9 (fun h9 => b_M_blanks_27 ?_) (fun h9 => absurd h9 (by first | decide | assumption | omega | simp_all))
      exact hQ vi (fun _ _ => rfl) (fun _ _ => rfl) h13
theorem a_blanks {p : Nat} (hT : TX vi t f n) (hp : p ≤ n) (h13 : vi 95 13 = nI p) (hQ : ∀ u, (∀ j, j ≠ 95 → u j = vi j) → (∀ k, k ≠ 13 → u 95 k = vi 95 k) → u 95 13 = nI (sk f n p) → post none (mk u vl)) : CallOk X (d + 2) 0 0 k_M_blanks [.ref 95, .int (nI t)] (mk vi vl) post := by
  refine CallOk.intro (by decide +kernel) rfl (Nat.le_of_ble_eq_true rfl) ?_
  exact c_M_blanks (n - p) p vi _ hT (by omega) h13 hQ
theorem c_M_isScene {p : Nat} (hT : TX vi t f n) (hp : p < 1000) (h13 : vi 95 13 = nI p) (hQ : post (some (.int (bI (scB f n p)))) (mk vi vl)) : CallOk X (d + 2) 0 0 k_M_isScene [.ref 95, .int (nI t)] (mk vi vl) post := by
  refine CallOk.intro (by decide +kernel) rfl (Nat.le_of_ble_eq_true rfl) ?_
  refine b_M_isScene_0 ?_
  rw [h13]
  refine c_M_byteAt hT hp ?_
  refine b_M_isScene_9 ?_
  refine c_M_in ?_
  have e : decide ((48 : Int64).toInt ≤ (btF f n p).toInt64.toInt ∧ (btF f n p).toInt64.toInt ≤ (52 : Int64).toInt) = scB f n p := by
    rw [Int32.toInt_toInt64, show (48 : Int64).toInt = 48 from rfl, show (52 : Int64).toInt = 52 from rfl]
    unfold btF scB
    by_cases h : p < n
    · rw [if_pos h, decide_eq_true h, Bool.true_and, Bool.decide_and]
    · rw [if_neg h, decide_eq_false h, Bool.false_and]; decide
  rw [e]
  have hb := bI_01 (scB f n p)
  refine b_M_isScene_19 (by first | assumption | decide | (refine vp_in_nI ?_ ?_ <;> omega) | omega | simp_all) ?_
  exact hQ
theorem c_M_isSign {p : Nat} (hT : TX vi t f n) (hp : p < 1000) (h13 : vi 95 13 = nI p) (hQ : post (some (.int (bI (sgB f n p)))) (mk vi vl)) : CallOk X (d + 3) 0 0 k_M_isSign [.ref 95, .int (nI t)] (mk vi vl) post := by
  refine CallOk.intro (by decide +kernel) rfl (Nat.le_of_ble_eq_true rfl) ?_
  unfold sgB at hQ
  refine b_M_isSign_0 ?_
  refine c_M_isScene hT hp h13 ?_
  cases hs : scB f n p
  · rw [hs, Bool.or_false] at hQ
    refine b_M_isSign_5 (fun h5 => absurd h5 (by first | decide | assumption | omega | simp_all)) (fun h5 => b_M_isSign_8 ?_)
    rw [h13]
    refine c_M_byteAt hT hp ?_
    have e : (decide (p < n) && decide (f p = 45)) = decide (btF f n p = 45) := by
      unfold btF
      by_cases h : p < n
      · rw [if_pos h, decide_eq_true h, Bool.true_and]
      · rw [if_neg h, decide_eq_false h, Bool.false_and]; decide
    rw [e] at hQ
    by_cases h45 : btF f n p = 45
    · rw [decide_eq_true h45] at hQ
      rw [h45]
      refine b_M_isSign_17 (fun h17 => absurd h17 (by first | decide | assumption | omega | simp_all)) (fun h17 => b_M_isSign_22 (b_M_isSign_27 (by first | assumption | decide | (refine vp_in_nI ?_ ?_ <;> omega) | omega | simp_all) ?_))
      exact hQ
    · rw [decide_eq_false h45] at hQ
      refine b_M_isSign_17 (fun h17 => b_M_isSign_26 (b_M_isSign_27 (by first | assumption | decide | (refine vp_in_nI ?_ ?_ <;> omega) | omega | simp_all) ?_)) (fun h17 => absurd h17 (by first | decide | assumption | omega | simp_all))
      exact hQ
  · rw [hs, Bool.or_true] at hQ
    refine b_M_isSign_5 (fun h5 => b_M_isSign_22 (b_M_isSign_27 (by first | assumption | decide | (refine vp_in_nI ?_ ?_ <;> omega) | omega | simp_all) ?_)) (fun h5 => absurd h5 (by first | decide | assumption | omega | simp_all))
    exact hQ
end S53
