/-! numbers and stores -/
theorem vin_t {x : Int32} {n : Nat} (hn : n < 2 ^ 31) (h0 : ¬ x < 0) (h1 : ¬ nI n ≤ x) : vp_in x n := by
  rw [vp_in_iff]
  have a : ¬ x.toInt < 0 := fun q => h0 (by rw [Int32.lt_iff_toInt_lt]; simpa using q)
  have b : ¬ (n : Int) ≤ x.toInt := fun q => h1 (by rw [Int32.le_iff_toInt_le, nI_toInt hn]; exact q)
  omega
theorem vin_f0 {x : Int32} {n : Nat} (h : x < 0) : ¬ vp_in x n := fun q => q (Or.inl h)
theorem vin_f1 {x : Int32} {n : Nat} (hn : n < 2 ^ 31) (h : nI n ≤ x) : ¬ vp_in x n := fun q => by
  rw [vp_in_iff] at q
  rw [Int32.le_iff_toInt_le, nI_toInt hn] at h
  omega
theorem vin_nI {j n : Nat} (hj : j < 2 ^ 31) : vp_in (nI j) n ↔ j < n := by
  rw [vp_in_iff, nI_toInt hj]; omega
theorem loop_up {P : Nat → Prop} (n i : Nat) (h : i ≤ n) (hn : P n) (hs : ∀ j, i ≤ j → j < n → P (j + 1) → P j) : P i := by
  have key : ∀ m j, i ≤ j → j + m = n → P j := by
    intro m
    induction m with
    | zero => intro j _ e; rw [show j = n by omega]; exact hn
    | succ m ih => intro j hj e; exact hs j hj (by omega) (ih (j + 1) (by omega) (by omega))
  exact key (n - i) i (Nat.le_refl _) (by omega)
theorem up1_s {α : Type} {f : Nat → α} {i : Nat} {v : α} : up1 f i v i = v := if_pos rfl
theorem up1_n {α : Type} {f : Nat → α} {i j : Nat} {v : α} (h : j ≠ i) : up1 f i v j = f j := if_neg h
theorem up1_u {α : Type} {f : Nat → α} {i : Nat} {v w : α} : up1 (up1 f i v) i w = up1 f i w := by
  funext j; by_cases h : j = i
  · simp [up1, h]
  · simp [up1, h]
theorem up1_id {α : Type} {f : Nat → α} {i : Nat} : up1 f i (f i) = f := by
  funext j; by_cases h : j = i
  · simp [up1, h]
  · simp [up1, h]
theorem up2_up1 {α : Type} {f : Nat → Nat → α} {i k : Nat} {v : α} : up2 f i k v = up1 f i (va_up (f i) k v) := rfl
theorem vau_s {α : Type} {f : Nat → α} {i : Nat} {v : α} : va_up f i v i = v := if_pos rfl
theorem vau_n {α : Type} {f : Nat → α} {i j : Nat} {v : α} (h : j ≠ i) : va_up f i v j = f j := if_neg h
theorem up2_s {α : Type} {f : Nat → Nat → α} {i k : Nat} {v : α} : up2 f i k v i = va_up (f i) k v := if_pos rfl
theorem up2_n {α : Type} {f : Nat → Nat → α} {i j k : Nat} {v : α} (h : j ≠ i) : up2 f i k v j = f j := if_neg h
/-- the first n places are x -/
def flF (f : Nat → Int32) (x : Int32) (n : Nat) : Nat → Int32 := fun k => if k < n then x else f k
theorem flF_0 {f : Nat → Int32} {x : Int32} : flF f x 0 = f := by funext k; simp [flF]
theorem flF_s {f : Nat → Int32} {x : Int32} {n : Nat} : va_up (flF f x n) n x = flF f x (n + 1) := by
  funext k
  simp only [va_up, flF]
  by_cases h : k = n
  · subst h; simp
  · rw [if_neg h]
    by_cases h2 : k < n
    · rw [if_pos h2, if_pos (by omega)]
    · rw [if_neg h2, if_neg (by omega)]
section S20
variable {X : aX} {d : Nat} {vi : Nat → Nat → Int32} {vl : Nat → Nat → Int64} {post : aO}
theorem c_J_fill {a n : Nat} {x : Int32} (ha : a < 107) (hs : sh0 a = (0, n)) (hn : n < 2 ^ 31) (hQ : post none (mk (up1 vi a (flF (vi a) x n)) vl)) : CallOk X (d + 1) 0 0 k_J_fill [.ref a, .int x] (mk vi vl) post := by
  refine CallOk.intro (by decide +kernel) rfl (Nat.le_of_ble_eq_true rfl) ?_
  refine b_J_fill_0 (by first | assumption | decide | (refine vp_in_nI ?_ ?_ <;> omega) | omega | simp_all) (by first | assumption | decide | (refine vp_in_nI ?_ ?_ <;> omega) | omega | simp_all) ?_
  have key := loop_up (P := fun j => wp X (d + 1) k_J_fill 0 0 5 [some (.ref a), some (.int x), some (.int (nI j)), some (.int (nI n))] [] (mk (up1 vi a (flF (vi a) x j)) vl) post) n 0 (Nat.zero_le _) ?_ ?_
  · rw [flF_0, up1_id] at key
    exact key
  · refine b_J_fill_5 (fun h5 => b_J_fill_20 ?_) (fun h5 => absurd h5 (by first | decide | assumption | omega | simp_all))
    exact hQ
  · intro j _ hj ih
    have hlt : ¬ nI n ≤ nI j := nI_ge hj hn
    refine b_J_fill_5 (fun h5 => absurd h5 (by first | decide | assumption | omega | simp_all)) (fun h5 => b_J_fill_10 (by first | assumption | decide | (refine vp_in_nI ?_ ?_ <;> omega) | omega | simp_all) (by first | assumption | decide | (refine vp_in_nI ?_ ?_ <;> omega) | omega | simp_all) (by first | assumption | decide | (refine vp_in_nI ?_ ?_ <;> omega) | omega | simp_all) (fun w10 hw10 => b_J_fill_14 ?_))
    rw [hw10, nI_clamp (by omega), nI_1, up2_up1, up1_s, up1_u, flF_s]
    exact ih
theorem c_S_isRow {x : Int32} (ht : vp_in x 6 → post (some (.int 1)) (mk vi vl)) (hf : ¬ vp_in x 6 → post (some (.int 0)) (mk vi vl)) : CallOk X (d + 1) 0 0 k_S_isRow [.int x] (mk vi vl) post := by
  refine CallOk.intro (by decide +kernel) rfl (Nat.le_of_ble_eq_true rfl) ?_
  refine b_S_isRow_0 (fun h0 => b_S_isRow_14 (b_S_isRow_15 (by first | assumption | decide | (refine vp_in_nI ?_ ?_ <;> omega) | omega | simp_all) ?_)) (fun h0 => b_S_isRow_4 (fun h4 => b_S_isRow_14 (b_S_isRow_15 (by first | assumption | decide | (refine vp_in_nI ?_ ?_ <;> omega) | omega | simp_all) ?_)) (fun h4 => b_S_isRow_10 (b_S_isRow_15 (by first | assumption | decide | (refine vp_in_nI ?_ ?_ <;> omega) | omega | simp_all) ?_)))
  · exact hf (vin_f0 h0)
  · exact hf (vin_f1 (n := 6) (by decide) h4)
  · exact ht (vin_t (n := 6) (by decide) h0 h4)
end S20
