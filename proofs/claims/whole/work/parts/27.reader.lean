/-! the small language -/
def sgF (f : Nat → Int32) (n i : Nat) : Int32 := if i < n then f i else -9
def blB (f : Nat → Int32) (n i : Nat) : Bool := decide (i < n) && decide (f i = 32)
def skF (f : Nat → Int32) (n : Nat) : Nat → Nat → Nat
  | 0, i => i
  | m + 1, i => if blB f n i then skF f n m (i + 1) else i
def sk (f : Nat → Int32) (n i : Nat) : Nat := skF f n (n - i) i
def scB (f : Nat → Int32) (n i : Nat) : Bool := decide (i < n) && (decide (48 ≤ (f i).toInt) && decide ((f i).toInt ≤ 52))
def sgB (f : Nat → Int32) (n i : Nat) : Bool := (decide (i < n) && decide (f i = 45)) || scB f n i
def kdF (x : Int32) : Int32 := frF (fun k => decide (am_let k = x)) 0 6
def yrF (f : Nat → Int32) (n : Nat) : Nat → Nat → Nat
  | 0, _ => 0
  | m + 1, i => if sgB f n i then yrF f n m (i + 1) + 1 else 0
def lp (f : Nat → Int32) (n i : Nat) : Nat → Nat
  | 0 => sk f n i
  | k + 1 => sk f n (lp f n i k + 3)
/-- the LAWS from p on, at most m: the FAULT (-9: none), how many there are -/
def lwR (f : Nat → Int32) (n : Nat) : Nat → Nat → Int32 × Nat
  | 0, p => (if p < n then nI p else -9, 0)
  | m + 1, p => if p < n then (if kdF (f p) = -9 then (nI p, 0) else if scB f n (p + 1) then (if scB f n (p + 2) then ((lwR f n m (sk f n (p + 3))).1, (lwR f n m (sk f n (p + 3))).2 + 1) else (nI (p + 2), 0)) else (nI (p + 1), 0)) else (-9, 0)
def yv (f : Nat → Int32) (i : Nat) : Int32 := if f i = 45 then -9 else f i - 48
/-- where the YEARS begin, how many, the FAULT -/
def y0F (f : Nat → Int32) (n : Nat) : Nat := sk f n 0 + 1
def ytF (f : Nat → Int32) (n : Nat) : Nat := yrF f n 5 (y0F f n)
def lwF (f : Nat → Int32) (n : Nat) : Int32 × Nat := lwR f n 8 (sk f n (y0F f n + ytF f n))
def prF (f : Nat → Int32) (n : Nat) : Int32 := if sgF f n (sk f n 0) = 121 then (if ytF f n < 2 then nI (y0F f n + ytF f n) else (lwF f n).1) else nI (sk f n 0)
/-- the CLOTH b is as the TEXT says -/
def Prsd (f : Nat → Int32) (n : Nat) (w : Nat → Nat → Int32) (b : Nat) : Prop :=
  w b 0 = nI (ytF f n) ∧ w b 7 = nI 0 ∧ w b 3 = nI (lwF f n).2 ∧ (∀ y, y < ytF f n → w (b + 1) y = (if yv f (y0F f n + y) = -9 then 0 else 1) ∧ w (b + 2) y = yv f (y0F f n + y)) ∧ ∀ k, k < (lwF f n).2 → w (b + 3) k = kdF (f (lp f n (y0F f n + ytF f n) k)) ∧ w (b + 4) k = f (lp f n (y0F f n + ytF f n) k + 1) - 48 ∧ w (b + 5) k = f (lp f n (y0F f n + ytF f n) k + 2) - 48
theorem skF_le {f : Nat → Int32} {n : Nat} : ∀ (m i : Nat), i ≤ skF f n m i ∧ (i + m = n → i ≤ n → skF f n m i ≤ n)
  | 0, i => ⟨Nat.le_refl _, fun _ h => h⟩
  | m + 1, i => by
    simp only [skF]
    by_cases h : blB f n i = true
    · rw [if_pos h]
      obtain ⟨a, b⟩ := skF_le (f := f) (n := n) m (i + 1)
      exact ⟨by omega, fun h1 h2 => b (by omega) (by omega)⟩
    · rw [if_neg h]; exact ⟨Nat.le_refl _, fun _ h => h⟩
theorem sk_le {f : Nat → Int32} {n i : Nat} (h : i ≤ n) : sk f n i ≤ n := (skF_le (f := f) (n - i) i).2 (by omega) h
theorem sk_gt {f : Nat → Int32} {n i : Nat} (h : n ≤ i) : sk f n i = i := by unfold sk; rw [show n - i = 0 by omega]; rfl
theorem sk_bd {f : Nat → Int32} {n i : Nat} : sk f n i ≤ max n i := by
  by_cases h : i ≤ n
  · have := sk_le (f := f) h; omega
  · rw [sk_gt (by omega)]; omega
theorem yrF_le {f : Nat → Int32} {n : Nat} : ∀ (m i : Nat), yrF f n m i ≤ m ∧ (i ≤ n → i + yrF f n m i ≤ n)
  | 0, i => ⟨Nat.le_refl _, fun h => h⟩
  | m + 1, i => by
    simp only [yrF]
    by_cases h : sgB f n i = true
    · rw [if_pos h]
      have hi : i < n := by
        unfold sgB scB at h
        simp at h
        rcases h with h | h <;> exact h.1
      obtain ⟨a, b⟩ := yrF_le (f := f) (n := n) m (i + 1)
      exact ⟨by omega, fun _ => by have := b (by omega); omega⟩
    · rw [if_neg h]; exact ⟨by omega, fun h => h⟩
theorem lwR_le {f : Nat → Int32} {n : Nat} : ∀ (m p : Nat), (lwR f n m p).2 ≤ m
  | 0, p => Nat.le_refl _
  | m + 1, p => by
    simp only [lwR]
    have := lwR_le (f := f) (n := n) m (sk f n (p + 3))
    by_cases h1 : p < n
    · rw [if_pos h1]
      by_cases h2 : kdF (f p) = -9
      · rw [if_pos h2]; exact Nat.zero_le _
      · rw [if_neg h2]
        by_cases h3 : scB f n (p + 1) = true
        · rw [if_pos h3]
          by_cases h4 : scB f n (p + 2) = true
          · rw [if_pos h4]; show _ + 1 ≤ m + 1; omega
          · rw [if_neg h4]; exact Nat.zero_le _
        · rw [if_neg h3]; exact Nat.zero_le _
    · rw [if_neg h1]; exact Nat.zero_le _
theorem sc48 {x : Int32} : vp_in (x - 48) 5 ↔ 48 ≤ x.toInt ∧ x.toInt ≤ 52 := by
  constructor
  · intro h
    obtain ⟨j, hj, e⟩ := vp_in_of h (by decide)
    have : x = nI (j + 48) := by
      rw [← nI_add, ← e]
      show x = x - 48 + 48
      rw [Int32.sub_add_cancel]
    rw [this, nI_toInt (by omega)]
    omega
  · rintro ⟨h1, h2⟩
    obtain ⟨k, hk, rfl⟩ := nI_of (x := x) (fun h => by rw [Int32.lt_iff_toInt_lt] at h; simp at h; omega)
    rw [nI_toInt hk] at h1 h2
    have e : nI k - 48 = nI (k - 48) := pk_sub (a := k) (b := 48) (by omega)
    rw [e]
    exact vp_in_nI (by omega) (by omega)
theorem scB_iff {f : Nat → Int32} {n i : Nat} : scB f n i = true ↔ vp_in (sgF f n i - 48) 5 := by
  unfold scB sgF
  by_cases h : i < n
  · simp only [h, decide_true, Bool.true_and, if_true, Bool.and_eq_true, decide_eq_true_eq]; exact sc48.symm
  · simp only [h, decide_false, Bool.false_and, if_false, Bool.false_eq_true, false_iff]
    intro q; rw [sc48] at q; revert q; decide
theorem sgB_iff {f : Nat → Int32} {n i : Nat} : sgB f n i = (decide (sgF f n i = 45) || decide (48 ≤ (sgF f n i).toInt ∧ (sgF f n i).toInt ≤ 52)) := by
  unfold sgB scB sgF
  by_cases h : i < n
  · simp [h]
  · simp only [h, decide_false, Bool.false_and, if_false, Bool.or_self]; decide
theorem kdF_9 : kdF (-9) = -9 := by decide
theorem kdF_or (x : Int32) : kdF x = -9 ∨ ∃ k, k < 6 ∧ kdF x = nI k := by
  rcases frF_or (p := fun k => decide (am_let k = x)) 6 0 with h | ⟨k, -, h2, -, h3⟩
  · exact Or.inl h
  · exact Or.inr ⟨k, by omega, h3⟩
section S27
variable {X : aX} {d : Nat} {vi : Nat → Nat → Int32} {vl : Nat → Nat → Int64} {post : aO}
theorem c_D_signAt {r n i : Nat} (hr : isRw r) (hn : vi r 1 = nI n) (hn60 : n ≤ rl r) (hi : i < 1000) (hQ : post (some (.int (sgF (vi (r + 1)) n i))) (mk vi vl)) : CallOk X (d + 2) 0 0 k_D_signAt [.ref r, .int (nI i)] (mk vi vl) post := by
  refine CallOk.intro (by decide +kernel) rfl (Nat.le_of_ble_eq_true rfl) ?_
  have hl := rl_le r
  refine b_D_signAt_0 ?_ (by first | assumption | decide | (refine vp_in_nI ?_ ?_ <;> omega) | omega | simp_all)
  refine c_R_has hr (fun h1 h2 => ?_) (fun h1 => ?_)
  · rw [hn, nI_leI (by omega) (by omega)] at h2
    have v : vp_in (nI i) (rl r) := vp_in_nI (by omega) (by omega)
    refine b_D_signAt_5 (fun h5 => absurd h5 (by first | decide | assumption | omega | simp_all)) (fun h5 => b_D_signAt_8 (by first | assumption | decide | (refine vp_in_nI ?_ ?_ <;> omega) | omega | simp_all) (by first | assumption | decide | (refine vp_in_nI ?_ ?_ <;> omega) | omega | simp_all) (b_D_signAt_19 ?_))
    rw [nI_clamp (by omega)]
    unfold sgF at hQ
    rw [if_pos (by omega)] at hQ
    exact hQ
  · have h2 : ¬ i < n := by
      rcases h1 with h1 | h1
      · exact absurd h1 (nI_pos (by omega))
      · rw [hn, nI_leI (by omega) (by omega)] at h1; omega
    refine b_D_signAt_5 (fun h5 => b_D_signAt_17 (b_D_signAt_19 ?_)) (fun h5 => absurd h5 (by first | decide | assumption | omega | simp_all))
    unfold sgF at hQ
    rw [if_neg h2] at hQ
    exact hQ
theorem c_D_pastBlanks {r n i : Nat} (hr : isRw r) (hn : vi r 1 = nI n) (hn60 : n ≤ rl r) (hi : i < 900) (hQ : post (some (.int (nI (sk (vi (r + 1)) n i)))) (mk vi vl)) : CallOk X (d + 3) 0 0 k_D_pastBlanks [.ref r, .int (nI i)] (mk vi vl) post := by
  refine CallOk.intro (by decide +kernel) rfl (Nat.le_of_ble_eq_true rfl) ?_
  have hl := rl_le r
  refine b_D_pastBlanks_0 ?_
  unfold sk at hQ
  have key : ∀ m j, n - j = m → j < 900 → post (some (.int (nI (skF (vi (r + 1)) n m j)))) (mk vi vl) → wp X (d + 3) k_D_pastBlanks 0 0 2 [some (.ref r), some (.int (nI i)), some (.int (nI j))] [] (mk vi vl) post := by
    intro m
    induction m with
    | zero =>
      intro j hj h9 hq
      have e1 : vi r 1 ≤ nI j := by rw [hn]; exact nI_le (by omega) (by omega)
      refine b_D_pastBlanks_2 (by first | assumption | decide | (refine vp_in_nI ?_ ?_ <;> omega) | omega | simp_all) (fun h2 => b_D_pastBlanks_26 ?_) (fun h2 => absurd h2 (by first | decide | assumption | omega | simp_all))
      exact hq
    | succ m ih =>
      intro j hj h9 hq
      have e1 : ¬ vi r 1 ≤ nI j := by rw [hn]; exact nI_ge (by omega) (by omega)
      simp only [skF, blB] at hq
      refine b_D_pastBlanks_2 (by first | assumption | decide | (refine vp_in_nI ?_ ?_ <;> omega) | omega | simp_all) (fun h2 => absurd h2 (by first | decide | assumption | omega | simp_all)) (fun h2 => b_D_pastBlanks_10 ?_)
      refine c_D_signAt hr hn hn60 (by omega) ?_
      unfold sgF
      rw [if_pos (show j < n by omega)]
      refine b_D_pastBlanks_15 (fun h15 => b_D_pastBlanks_26 ?_) (fun h15 => b_D_pastBlanks_20 ?_)
      · simpa [h15] using hq
      · rw [nI_1]
        refine ih (j + 1) (by omega) (by omega) ?_
        simpa [h15, show j < n by omega] using hq
  exact key (n - i) i rfl hi hQ
theorem c_D_isYearSign {x : Int32} (hQ : post (some (.int (bI (decide (x = 45) || decide (48 ≤ x.toInt ∧ x.toInt ≤ 52))))) (mk vi vl)) : CallOk X (d + 2) 0 0 k_D_isYearSign [.int x] (mk vi vl) post := by
  refine CallOk.intro (by decide +kernel) rfl (Nat.le_of_ble_eq_true rfl) ?_
  refine b_D_isYearSign_0 (fun h0 => b_D_isYearSign_16 (b_D_isYearSign_21 (by first | assumption | decide | (refine vp_in_nI ?_ ?_ <;> omega) | omega | simp_all) ?_)) (fun h0 => b_D_isYearSign_6 ?_)
  · simpa [h0, bI] using hQ
  · refine c_S_isScene (fun h => ?_) (fun h => ?_)
    · refine b_D_isYearSign_13 (fun h13 => absurd h13 (by first | decide | assumption | omega | simp_all)) (fun h13 => b_D_isYearSign_16 (b_D_isYearSign_21 (by first | assumption | decide | (refine vp_in_nI ?_ ?_ <;> omega) | omega | simp_all) ?_))
      rw [sc48] at h
      have : decide (48 ≤ x.toInt ∧ x.toInt ≤ 52) = true := decide_eq_true h
      rw [this] at hQ
      simpa [bI] using hQ
    · refine b_D_isYearSign_13 (fun h13 => b_D_isYearSign_20 (b_D_isYearSign_21 (by first | assumption | decide | (refine vp_in_nI ?_ ?_ <;> omega) | omega | simp_all) ?_)) (fun h13 => absurd h13 (by first | decide | assumption | omega | simp_all))
      rw [sc48] at h
      have : decide (48 ≤ x.toInt ∧ x.toInt ≤ 52) = false := decide_eq_false h
      rw [this] at hQ
      simpa [h0, bI] using hQ
theorem c_D_kindOf {x : Int32} (hQ : post (some (.int (kdF x))) (mk vi vl)) : CallOk X (d + 1) 0 0 k_D_kindOf [.int x] (mk vi vl) post := by
  refine CallOk.intro (by decide +kernel) rfl (Nat.le_of_ble_eq_true rfl) ?_
  refine b_D_kindOf_0 ?_
  have key := loop_up (P := fun j => post (some (.int (frF (fun k => decide (am_let k = x)) j (6 - j)))) (mk vi vl) → wp X (d + 1) k_D_kindOf 0 0 2 [some (.int x), some (.int (nI j))] [] (mk vi vl) post) 6 0 (Nat.zero_le _) ?_ ?_
  · exact key hQ
  · intro hq
    have e1 : (6 : Int32) ≤ nI 6 := by decide
    refine b_D_kindOf_2 (fun h2 => b_D_kindOf_25 ?_) (fun h2 => absurd h2 (by first | decide | assumption | omega | simp_all))
    exact hq
  · intro j _ hj ih hq
    have e1 : ¬ (6 : Int32) ≤ nI j := nI_ge (a := j) (b := 6) hj (by omega)
    rw [show 6 - j = (6 - (j + 1)) + 1 by omega] at hq
    simp only [frF] at hq
    refine b_D_kindOf_2 (fun h2 => absurd h2 (by first | decide | assumption | omega | simp_all)) (fun h2 => b_D_kindOf_8 (by first | assumption | decide | (refine vp_in_nI ?_ ?_ <;> omega) | omega | simp_all) (fun h8 => b_D_kindOf_19 ?_) (fun h8 => b_D_kindOf_17 ?_))
    · rw [nI_clamp (by omega)] at h8
      rw [nI_1]
      refine ih ?_
      simpa [h8] using hq
    · rw [nI_clamp (by omega)] at h8
      simpa [h8] using hq
theorem rw_cl {r b : Nat} (hr : isRw r) (hb : isCl b) : r + 1 < b ∨ b + 10 < r := by unfold isRw at hr; unfold isCl at hb; omega
theorem alM_o {vi : Nat → Nat → Int32} {b L j : Nat} {k c e : Int32} (h0 : j ≠ b) (h3 : j ≠ b + 3) (h4 : j ≠ b + 4) (h5 : j ≠ b + 5) : alM vi b L k c e j = vi j := by
  unfold alM; rw [up2_n h0, up2_n h5, up2_n h4, up2_n h3]
theorem c_D_readLaws {r n b i : Nat} (hr : isRw r) (hb : isCl b) (hn : vi r 1 = nI n) (hn60 : n ≤ rl r) (hi : i < 800) (hL0 : vi b 3 = nI 0)
    (hQ : ∀ w, (∀ j, j ≠ b → j ≠ b + 3 → j ≠ b + 4 → j ≠ b + 5 → w j = vi j) → (∀ j, j ≠ 3 → w b j = vi b j) → ((lwR (vi (r + 1)) n 8 (sk (vi (r + 1)) n i)).1 = -9 → w b 3 = nI (lwR (vi (r + 1)) n 8 (sk (vi (r + 1)) n i)).2 ∧ ∀ k, k < (lwR (vi (r + 1)) n 8 (sk (vi (r + 1)) n i)).2 → w (b + 3) k = kdF (vi (r + 1) (lp (vi (r + 1)) n i k)) ∧ w (b + 4) k = vi (r + 1) (lp (vi (r + 1)) n i k + 1) - 48 ∧ w (b + 5) k = vi (r + 1) (lp (vi (r + 1)) n i k + 2) - 48) → post (some (.int (lwR (vi (r + 1)) n 8 (sk (vi (r + 1)) n i)).1)) (mk w vl)) :
    CallOk X (d + 4) 0 0 k_D_readLaws [.ref r, .int (nI i), .ref b] (mk vi vl) post := by
  refine CallOk.intro (by decide +kernel) rfl (Nat.le_of_ble_eq_true rfl) ?_
  have hl := rl_le r
  have hap := rw_cl hr hb
  refine b_D_readLaws_0 ?_
  refine c_D_pastBlanks hr hn hn60 (by omega) ?_
  refine b_D_readLaws_5 ?_
  generalize hf : vi (r + 1) = f at hQ ⊢
  have hbd : ∀ k, lp f n i k ≤ max n i + 3 * k := by
    intro k
    induction k with
    | zero => exact sk_bd
    | succ k ih => have := sk_bd (f := f) (n := n) (i := lp f n i k + 3); simp only [lp]; omega
  have key : ∀ (m k : Nat), k + m = 8 → (lwR f n 8 (sk f n i)).1 = (lwR f n m (lp f n i k)).1 → (lwR f n 8 (sk f n i)).2 = k + (lwR f n m (lp f n i k)).2 → ∀ (o5 o6 o7 : Option Value) (w : Nat → Nat → Int32), (∀ j, j ≠ b → j ≠ b + 3 → j ≠ b + 4 → j ≠ b + 5 → w j = vi j) → (∀ j, j ≠ 3 → w b j = vi b j) → w b 3 = nI k → (∀ q, q < k → w (b + 3) q = kdF (f (lp f n i q)) ∧ w (b + 4) q = f (lp f n i q + 1) - 48 ∧ w (b + 5) q = f (lp f n i q + 2) - 48) → wp X (d + 4) k_D_readLaws 0 0 9 [some (.ref r), some (.int (nI i)), some (.ref b), some (.int (nI (lp f n i k))), some (.int (nI k)), o5, o6, o7] [] (mk w vl) post := by
    intro m
    induction m with
    | zero =>
      intro k hk e1 e2 o5 o6 o7 w hw hwb hw3 hwl
      have hb8 := hbd k
      have hk8 : k = 8 := by omega
      subst hk8
      have el : lwR f n 0 (lp f n i 8) = (if lp f n i 8 < n then nI (lp f n i 8) else -9, 0) := rfl
      rw [el] at e1 e2
      have hwr : w r 1 = nI n := by rw [hw r (by omega) (by omega) (by omega) (by omega)]; exact hn
      have g8 : (8 : Int32) ≤ nI 8 := by decide
      have fin := hQ w hw hwb (fun _ => ⟨by rw [hw3, e2]; rfl, by rw [e2]; exact hwl⟩)
      rw [e1] at fin
      by_cases hp : lp f n i 8 < n
      · have g1 : ¬ w r 1 ≤ nI (lp f n i 8) := by rw [hwr]; exact nI_ge hp (by omega)
        refine b_D_readLaws_9 (fun h9 => b_D_readLaws_115 (by first | assumption | decide | (refine vp_in_nI ?_ ?_ <;> omega) | omega | simp_all) (fun h115 => absurd h115 (by first | decide | assumption | omega | simp_all)) (fun h115 => b_D_readLaws_123 (b_D_readLaws_129 ?_))) (fun h9 => absurd h9 (by first | decide | assumption | omega | simp_all))
        rw [if_pos hp] at fin
        exact fin
      · have g1 : w r 1 ≤ nI (lp f n i 8) := by rw [hwr]; exact nI_le (by omega) (by omega)
        refine b_D_readLaws_9 (fun h9 => b_D_readLaws_115 (by first | assumption | decide | (refine vp_in_nI ?_ ?_ <;> omega) | omega | simp_all) (fun h115 => b_D_readLaws_127 (b_D_readLaws_129 ?_)) (fun h115 => absurd h115 (by first | decide | assumption | omega | simp_all))) (fun h9 => absurd h9 (by first | decide | assumption | omega | simp_all))
        rw [if_neg hp] at fin
        exact fin
    | succ m ih =>
      intro k hk e1 e2 o5 o6 o7 w hw hwb hw3 hwl
      have hb8 := hbd k
      have hwr : w r 1 = nI n := by rw [hw r (by omega) (by omega) (by omega) (by omega)]; exact hn
      have hwf : w (r + 1) = f := by rw [hw (r + 1) (by omega) (by omega) (by omega) (by omega)]; exact hf
      have g8 : ¬ (8 : Int32) ≤ nI k := nI_ge (a := k) (b := 8) (by omega) (by omega)
      by_cases hp : lp f n i k < n
      · have g1 : ¬ w r 1 ≤ nI (lp f n i k) := by rw [hwr]; exact nI_ge hp (by omega)
        refine b_D_readLaws_9 (fun h9 => absurd h9 (by first | decide | assumption | omega | simp_all)) (fun h9 => b_D_readLaws_16 (by first | assumption | decide | (refine vp_in_nI ?_ ?_ <;> omega) | omega | simp_all) (fun h16 => absurd h16 (by first | decide | assumption | omega | simp_all)) (fun h16 => b_D_readLaws_24 ?_))
        refine c_D_signAt hr hwr hn60 (by omega) ?_
        refine b_D_readLaws_29 ?_
        refine c_D_kindOf ?_
        have hs0 : sgF (w (r + 1)) n (lp f n i k) = f (lp f n i k) := by rw [hwf]; unfold sgF; rw [if_pos hp]
        rw [hs0]
        have el : lwR f n (m + 1) (lp f n i k) = (if kdF (f (lp f n i k)) = -9 then (nI (lp f n i k), 0) else if scB f n (lp f n i k + 1) then (if scB f n (lp f n i k + 2) then ((lwR f n m (lp f n i (k + 1))).1, (lwR f n m (lp f n i (k + 1))).2 + 1) else (nI (lp f n i k + 2), 0)) else (nI (lp f n i k + 1), 0)) := by
          simp only [lwR]; rw [if_pos hp]; rfl
        rw [el] at e1 e2
        by_cases hkd : kdF (f (lp f n i k)) = -9
        · refine b_D_readLaws_32 (fun h32 => absurd h32 (by first | decide | assumption | omega | simp_all)) (fun h32 => b_D_readLaws_41 ?_)
          rw [if_pos hkd] at e1 e2
          have fin := hQ w hw hwb (fun _ => ⟨by rw [hw3, e2]; rfl, by rw [e2]; exact hwl⟩)
          rw [e1] at fin
          exact fin
        · refine b_D_readLaws_32 (fun h32 => b_D_readLaws_43 ?_) (fun h32 => absurd h32 (by first | decide | assumption | omega | simp_all))
          rw [if_neg hkd] at e1 e2
          rw [nI_1]
          refine c_D_signAt hr hwr hn60 (by omega) ?_
          rw [hwf]
          refine b_D_readLaws_50 ?_
          refine c_S_isScene (fun h1 => ?_) (fun h1 => ?_)
          · rw [← scB_iff] at h1
            rw [if_pos h1] at e1 e2
            refine b_D_readLaws_60 (fun h60 => b_D_readLaws_67 ?_) (fun h60 => absurd h60 (by first | decide | assumption | omega | simp_all))
            rw [show nI (lp f n i k) + 2 = nI (lp f n i k + 2) from nI_add _ 2]
            refine c_D_signAt hr hwr hn60 (by omega) ?_
            rw [hwf]
            refine b_D_readLaws_74 ?_
            refine c_S_isScene (fun h2 => ?_) (fun h2 => ?_)
            · rw [← scB_iff] at h2
              rw [if_pos h2] at e1 e2
              refine b_D_readLaws_84 (fun h84 => b_D_readLaws_91 ?_ (by first | assumption | decide | (refine vp_in_nI ?_ ?_ <;> omega) | omega | simp_all)) (fun h84 => absurd h84 (by first | decide | assumption | omega | simp_all))
              refine c_C_addLaw (L := k) hb hw3 (by omega) ?_
              refine b_D_readLaws_101 ?_
              have s1 : sgF f n (lp f n i k + 1) = f (lp f n i k + 1) := by
                unfold sgF; rw [if_pos]; unfold scB at h1; simp at h1; exact h1.1
              have s2 : sgF f n (lp f n i k + 2) = f (lp f n i k + 2) := by
                unfold sgF; rw [if_pos]; unfold scB at h2; simp at h2; exact h2.1
              rw [s1, s2]
              rw [show nI (lp f n i k) + 3 = nI (lp f n i k + 3) from nI_add _ 3]
              have ar : alM w b k (kdF (f (lp f n i k))) (f (lp f n i k + 1) - 48) (f (lp f n i k + 2) - 48) r 1 = nI n := by rw [alM_o (by omega) (by omega) (by omega) (by omega)]; exact hwr
              have af : alM w b k (kdF (f (lp f n i k))) (f (lp f n i k + 1) - 48) (f (lp f n i k + 2) - 48) (r + 1) = f := by rw [alM_o (by omega) (by omega) (by omega) (by omega)]; exact hwf
              refine c_D_pastBlanks hr ar hn60 (by omega) ?_
              rw [af]
              refine b_D_readLaws_108 ?_
              rw [nI_1]
              refine ih (k + 1) (by omega) e1 (by omega) _ _ _ _ (fun j h0 h3 h4 h5 => by rw [alM_o h0 h3 h4 h5]; exact hw j h0 h3 h4 h5) (fun j h3 => ?_) ?_ ?_
              · unfold alM
                rw [up2_s, vau_n h3, up2_n (show b ≠ b + 5 by omega), up2_n (show b ≠ b + 4 by omega), up2_n (show b ≠ b + 3 by omega)]
                exact hwb j h3
              · unfold alM; rw [up2_s, vau_s]
              · intro q hq
                unfold alM
                rw [up2_n (show b + 3 ≠ b by omega), up2_n (show b + 3 ≠ b + 5 by omega), up2_n (show b + 3 ≠ b + 4 by omega), up2_s, up2_n (show b + 4 ≠ b by omega), up2_n (show b + 4 ≠ b + 5 by omega), up2_s, up2_n (show b + 4 ≠ b + 3 by omega), up2_n (show b + 5 ≠ b by omega), up2_s, up2_n (show b + 5 ≠ b + 4 by omega), up2_n (show b + 5 ≠ b + 3 by omega)]
                by_cases hqk : q = k
                · subst hqk; rw [vau_s, vau_s, vau_s]; exact ⟨rfl, rfl, rfl⟩
                · rw [vau_n hqk, vau_n hqk, vau_n hqk]; exact hwl q (by omega)
            · rw [← scB_iff] at h2
              rw [if_neg h2] at e1 e2
              refine b_D_readLaws_84 (fun h84 => absurd h84 (by first | decide | assumption | omega | simp_all)) (fun h84 => b_D_readLaws_87 ?_)
              rw [show nI (lp f n i k) + 2 = nI (lp f n i k + 2) from nI_add _ 2]
              have fin := hQ w hw hwb (fun _ => ⟨by rw [hw3, e2]; rfl, by rw [e2]; exact hwl⟩)
              rw [e1] at fin
              exact fin
          · rw [← scB_iff] at h1
            rw [if_neg h1] at e1 e2
            refine b_D_readLaws_60 (fun h60 => absurd h60 (by first | decide | assumption | omega | simp_all)) (fun h60 => b_D_readLaws_63 ?_)
            rw [nI_1]
            have fin := hQ w hw hwb (fun _ => ⟨by rw [hw3, e2]; rfl, by rw [e2]; exact hwl⟩)
            rw [e1] at fin
            exact fin
      · have g1 : w r 1 ≤ nI (lp f n i k) := by rw [hwr]; exact nI_le (by omega) (by omega)
        have el : lwR f n (m + 1) (lp f n i k) = (-9, 0) := by simp only [lwR]; rw [if_neg hp]
        rw [el] at e1 e2
        refine b_D_readLaws_9 (fun h9 => absurd h9 (by first | decide | assumption | omega | simp_all)) (fun h9 => b_D_readLaws_16 (by first | assumption | decide | (refine vp_in_nI ?_ ?_ <;> omega) | omega | simp_all) (fun h16 => b_D_readLaws_115 (by first | assumption | decide | (refine vp_in_nI ?_ ?_ <;> omega) | omega | simp_all) (fun h115 => b_D_readLaws_127 (b_D_readLaws_129 ?_)) (fun h115 => absurd h115 (by first | decide | assumption | omega | simp_all))) (fun h16 => absurd h16 (by first | decide | assumption | omega | simp_all)))
        have fin := hQ w hw hwb (fun _ => ⟨by rw [hw3, e2]; rfl, by rw [e2]; exact hwl⟩)
        rw [e1] at fin
        exact fin
  exact key 8 0 rfl rfl (by simp [lp]) _ _ _ vi (fun _ _ _ _ _ => rfl) (fun _ _ => rfl) hL0 (fun q hq => absurd hq (by omega))
theorem ayM_o {vi : Nat → Nat → Int32} {b n j : Nat} {s : Int32} (h0 : j ≠ b) (h1 : j ≠ b + 1) (h2 : j ≠ b + 2) : ayM vi b n s j = vi j := by
  unfold ayM setM; rw [up2_n h0, up2_n h2, up2_n h1]
theorem c_D_read {r n b : Nat} (hr : isRw r) (hb : isCl b) (hn : vi r 1 = nI n) (hn60 : n ≤ rl r)
    (hQ : ∀ w, (∀ j, (j < b ∨ b + 5 < j) → w j = vi j) → (prF (vi (r + 1)) n = -9 → Prsd (vi (r + 1)) n w b) → post (some (.int (prF (vi (r + 1)) n))) (mk w vl)) :
    CallOk X (d + 5) 0 0 k_D_read [.ref r, .ref b] (mk vi vl) post := by
  refine CallOk.intro (by decide +kernel) rfl (Nat.le_of_ble_eq_true rfl) ?_
  have hl := rl_le r
  have hap := rw_cl hr hb
  refine b_D_read_0 ?_ (by first | assumption | decide | (refine vp_in_nI ?_ ?_ <;> omega) | omega | simp_all)
  refine c_C_clear hb ?_
  generalize hv0 : up2 (up2 (up2 vi b 0 0) b 3 0) b 7 0 = v0
  have o0 : ∀ j, j ≠ b → v0 j = vi j := fun j h => by rw [← hv0, up2_n h, up2_n h, up2_n h]
  have b0 : v0 b 0 = nI 0 := by rw [← hv0, up2_s, vau_n (by decide), up2_s, vau_n (by decide), up2_s, vau_s]; rfl
  have b3 : v0 b 3 = nI 0 := by rw [← hv0, up2_s, vau_n (by decide), up2_s, vau_s]; rfl
  have b7 : v0 b 7 = nI 0 := by rw [← hv0, up2_s, vau_s]; rfl
  have n0 : v0 r 1 = nI n := by rw [o0 r (by omega)]; exact hn
  have f0 : v0 (r + 1) = vi (r + 1) := o0 _ (by omega)
  refine b_D_read_4 ?_
  refine c_D_pastBlanks (i := 0) hr n0 hn60 (by omega) ?_
  have hs0 : sk (vi (r + 1)) n 0 ≤ n := sk_le (Nat.zero_le _)
  rw [f0]
  refine b_D_read_9 ?_
  refine c_D_signAt hr n0 hn60 (by omega) ?_
  rw [f0]
  generalize hf : vi (r + 1) = f at hQ f0 hs0 ⊢
  by_cases hy : sgF f n (sk f n 0) = 121
  · refine b_D_read_15 (fun h15 => b_D_read_22 ?_) (fun h15 => absurd h15 (by first | decide | assumption | omega | simp_all))
    rw [nI_1]
    have hyn : sk f n 0 < n := by
      apply Nat.lt_of_not_le
      intro h
      unfold sgF at hy
      rw [if_neg (by omega)] at hy
      exact absurd hy (by decide)
    have ht5 := (yrF_le (f := f) (n := n) 5 (y0F f n)).1
    have htn := (yrF_le (f := f) (n := n) 5 (y0F f n)).2 (by unfold y0F; omega)
    have key : ∀ (m c : Nat), c + m = 5 → ytF f n = c + yrF f n m (y0F f n + c) → ∀ (o4 : Option Value) (w : Nat → Nat → Int32), (∀ j, j ≠ b → j ≠ b + 1 → j ≠ b + 2 → w j = v0 j) → (∀ j, j ≠ 0 → w b j = v0 b j) → w b 0 = nI c → (∀ y, y < c → w (b + 1) y = (if yv f (y0F f n + y) = -9 then 0 else 1) ∧ w (b + 2) y = yv f (y0F f n + y)) → wp X (d + 5) k_D_read 0 0 27 [some (.ref r), some (.ref b), some (.int (nI (y0F f n + c))), some (.int (nI c)), o4] [] (mk w vl) post := by
      have fin : ∀ (c : Nat), c ≤ 5 → ytF f n = c → ∀ (o4 : Option Value) (x3 : Int32) (w : Nat → Nat → Int32), (∀ j, j ≠ b → j ≠ b + 1 → j ≠ b + 2 → w j = v0 j) → (∀ j, j ≠ 0 → w b j = v0 b j) → w b 0 = nI c → (∀ y, y < c → w (b + 1) y = (if yv f (y0F f n + y) = -9 then 0 else 1) ∧ w (b + 2) y = yv f (y0F f n + y)) → wp X (d + 5) k_D_read 0 0 80 [some (.ref r), some (.ref b), some (.int (nI (y0F f n + c))), some (.int x3), o4] [] (mk w vl) post := by
        intro c hc5 ec o4 x3 w hw hwb hw0 hwy
        have hy0 : y0F f n = sk f n 0 + 1 := rfl
        have hp1 : prF f n = (if ytF f n < 2 then nI (y0F f n + ytF f n) else (lwF f n).1) := by unfold prF; rw [if_pos hy]
        by_cases h2 : c < 2
        · have g1 : ¬ (2 : Int32) ≤ w b 0 := by rw [hw0]; exact nI_ge (a := c) (b := 2) h2 (by omega)
          refine b_D_read_80 (by first | assumption | decide | (refine vp_in_nI ?_ ?_ <;> omega) | omega | simp_all) (fun h80 => absurd h80 (by first | decide | assumption | omega | simp_all)) (fun h80 => b_D_read_88 ?_)
          have hp2 : prF f n = nI (y0F f n + c) := by rw [hp1, ec, if_pos h2]
          rw [← hp2]
          refine hQ w (fun j hj => by rw [hw j (by omega) (by omega) (by omega), o0 j (by omega)]) (fun h9 => ?_)
          rw [hp2] at h9
          exact absurd h9 (by intro q; have := congrArg Int32.toInt q; rw [nI_toInt (by omega)] at this; have e9 : (-9 : Int32).toInt = -9 := by decide
                              omega)
        · have g1 : (2 : Int32) ≤ w b 0 := by rw [hw0]; exact nI_le (a := 2) (b := c) (by omega) (by omega)
          refine b_D_read_80 (by first | assumption | decide | (refine vp_in_nI ?_ ?_ <;> omega) | omega | simp_all) (fun h80 => b_D_read_90 ?_) (fun h80 => absurd h80 (by first | decide | assumption | omega | simp_all))
          have hwr : w r 1 = nI n := by rw [hw r (by omega) (by omega) (by omega)]; exact n0
          have hwf : w (r + 1) = f := by rw [hw (r + 1) (by omega) (by omega) (by omega)]; exact f0
          refine c_D_readLaws hr hb hwr hn60 (by omega) (by rw [hwb 3 (by decide)]; exact b3) (fun w' hw' hwb' hl' => ?_)
          rw [hwf] at hl' ⊢
          refine b_D_read_96 ?_
          have e1 : lwR f n 8 (sk f n (y0F f n + c)) = lwF f n := by unfold lwF; rw [ec]
          rw [e1] at hl' ⊢
          have hp2 : prF f n = (lwF f n).1 := by rw [hp1, ec, if_neg h2]
          rw [← hp2] at hl' ⊢
          refine hQ w' (fun j hj => by rw [hw' j (by omega) (by omega) (by omega) (by omega), hw j (by omega) (by omega) (by omega), o0 j (by omega)]) (fun h9 => ?_)
          obtain ⟨q1, q2⟩ := hl' h9
          refine ⟨by rw [hwb' 0 (by decide), hw0, ec], by rw [hwb' 7 (by decide), hwb 7 (by decide)]; exact b7, q1, fun y hy' => ?_, fun k hk => ?_⟩
          · rw [hw' (b + 1) (by omega) (by omega) (by omega) (by omega), hw' (b + 2) (by omega) (by omega) (by omega) (by omega)]
            exact hwy y (by omega)
          · rw [ec]; exact q2 k hk
      intro m
      induction m with
      | zero =>
        intro c hc ec o4 w hw hwb hw0 hwy
        have hc5 : c = 5 := by omega
        subst hc5
        have g8 : (5 : Int32) ≤ nI 5 := by decide
        refine b_D_read_27 (fun h27 => ?_) (fun h27 => absurd h27 (by first | decide | assumption | omega | simp_all))
        exact fin 5 (by omega) ec o4 _ w hw hwb hw0 hwy
      | succ m ih =>
        intro c hc ec o4 w hw hwb hw0 hwy
        have g8 : ¬ (5 : Int32) ≤ nI c := nI_ge (a := c) (b := 5) (by omega) (by omega)
        have hwr : w r 1 = nI n := by rw [hw r (by omega) (by omega) (by omega)]; exact n0
        have hwf : w (r + 1) = f := by rw [hw (r + 1) (by omega) (by omega) (by omega)]; exact f0
        have hy0 : y0F f n = sk f n 0 + 1 := rfl
        have et : ytF f n = yrF f n 5 (y0F f n) := rfl
        refine b_D_read_27 (fun h27 => absurd h27 (by first | decide | assumption | omega | simp_all)) (fun h27 => b_D_read_32 ?_)
        refine c_D_signAt hr hwr hn60 (by omega) ?_
        rw [hwf]
        refine b_D_read_37 ?_
        refine c_D_isYearSign ?_
        rw [← sgB_iff]
        simp only [yrF] at ec
        by_cases hsg : sgB f n (y0F f n + c) = true
        · rw [if_pos hsg] at ec
          rw [hsg]
          refine b_D_read_40 (fun h40 => absurd h40 (by first | decide | assumption | omega | simp_all)) (fun h40 => b_D_read_43 ?_)
          refine c_D_signAt hr hwr hn60 (by omega) ?_
          rw [hwf]
          have hin : y0F f n + c < n := by
            unfold sgB scB at hsg
            simp at hsg
            rcases hsg with h | h <;> exact h.1
          have hsf : sgF f n (y0F f n + c) = f (y0F f n + c) := by unfold sgF; rw [if_pos hin]
          rw [hsf]
          have hgo : ∀ (x4 : Int32), wp X (d + 5) k_D_read 0 0 68 [some (.ref r), some (.ref b), some (.int (nI (y0F f n + c))), some (.int (nI c)), some (.int x4)] [.int (yv f (y0F f n + c)), .ref b] (mk w vl) post := by
            intro x4
            refine b_D_read_68 ?_ (by first | assumption | decide | (refine vp_in_nI ?_ ?_ <;> omega) | omega | simp_all)
            refine c_C_addYear hb hw0 (by omega) ?_
            refine b_D_read_71 ?_
            rw [nI_1, nI_1]
            refine ih (c + 1) (by omega) (by rw [ec, show y0F f n + c + 1 = y0F f n + (c + 1) by omega]; omega) _ _ (fun j h0 h1 h2 => by rw [ayM_o h0 h1 h2]; exact hw j h0 h1 h2) (fun j h0 => ?_) ?_ (fun y hy' => ?_)
            · unfold ayM setM
              rw [up2_s, vau_n h0, up2_n (show b ≠ b + 2 by omega), up2_n (show b ≠ b + 1 by omega)]
              exact hwb j h0
            · unfold ayM; rw [up2_s, vau_s]
            · unfold ayM setM
              rw [up2_n (show b + 1 ≠ b by omega), up2_n (show b + 1 ≠ b + 2 by omega), up2_s, up2_n (show b + 2 ≠ b by omega), up2_s, up2_n (show b + 2 ≠ b + 1 by omega)]
              by_cases hyc : y = c
              · subst hyc; rw [vau_s, vau_s]; exact ⟨rfl, rfl⟩
              · rw [vau_n hyc, vau_n hyc]; exact hwy y (by omega)
          by_cases h45 : f (y0F f n + c) = 45
          · refine b_D_read_48 (fun h48 => absurd h48 (by first | decide | assumption | omega | simp_all)) (fun h48 => b_D_read_58 ?_)
            have := hgo (f (y0F f n + c))
            unfold yv at this
            rw [if_pos h45] at this
            exact this
          · refine b_D_read_48 (fun h48 => b_D_read_63 ?_) (fun h48 => absurd h48 (by first | decide | assumption | omega | simp_all))
            have := hgo (f (y0F f n + c))
            unfold yv at this
            rw [if_neg h45] at this
            exact this
        · have hsg' : sgB f n (y0F f n + c) = false := by simpa using hsg
          rw [if_neg hsg] at ec
          rw [hsg']
          refine b_D_read_40 (fun h40 => ?_) (fun h40 => absurd h40 (by first | decide | assumption | omega | simp_all))
          exact fin c (by omega) ec o4 _ w hw hwb hw0 hwy
    exact key 5 0 rfl (by unfold ytF; simp) _ v0 (fun _ _ _ _ => rfl) (fun _ _ => rfl) b0 (fun y hy => absurd hy (by omega))
  · refine b_D_read_15 (fun h15 => absurd h15 (by first | decide | assumption | omega | simp_all)) (fun h15 => b_D_read_20 ?_)
    have hp : prF f n = nI (sk f n 0) := by unfold prF; rw [if_neg hy]
    rw [← hp]
    refine hQ v0 (fun j hj => o0 j (by omega)) (fun h9 => ?_)
    rw [hp] at h9
    exact absurd h9 (by intro q; have := congrArg Int32.toInt q; rw [nI_toInt (by omega)] at this; have e9 : (-9 : Int32).toInt = -9 := by decide
                        omega)
end S27
