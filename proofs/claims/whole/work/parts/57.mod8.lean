/-! the reference: years, LAWS that are broken -/
theorem bb_tb {p : Nat → Bool} : ∀ (n y : Nat), y < n → (bb p n).testBit y = p y
  | 0, y, h => absurd h (by omega)
  | n + 1, y, h => by
    have hlt := bb_lt p n
    simp only [bb]
    by_cases hp : p n = true
    · rw [hp, if_pos rfl, Nat.add_comm]
      by_cases hy : y = n
      · subst hy; rw [Nat.testBit_two_pow_add_eq, Nat.testBit_lt_two_pow hlt, hp]; rfl
      · rw [Nat.testBit_two_pow_add_gt (by omega)]; exact bb_tb n y (by omega)
    · rw [if_neg hp, Nat.add_zero]
      by_cases hy : y = n
      · subst hy; rw [Nat.testBit_lt_two_pow hlt]; exact (Bool.eq_false_iff.mpr hp).symm
      · exact bb_tb n y (by omega)
def exBr (P Q : Nat → Bool) (n : Nat) (knot : Bool) : Bool := exF (fun y => exF (fun x => (P x && Q y) || (Q x && P y)) (if knot then 0 else y - 1) (y - (if knot then 0 else y - 1))) 1 (n - 1)
theorem exBr_cg {P P' Q Q' : Nat → Bool} {n : Nat} {kn : Bool} (hP : ∀ y, y < n → P y = P' y) (hQ : ∀ y, y < n → Q y = Q' y) : exBr P Q n kn = exBr P' Q' n kn := by
  unfold exBr
  refine exF_cg _ _ (fun y h1 h2 => exF_cg _ _ (fun x h3 h4 => ?_))
  have hx : x < y := by cases kn <;> simp at h3 h4 <;> omega
  rw [hP x (by omega), hP y (by omega), hQ x (by omega), hQ y (by omega)]
theorem br_bar : ∀ n, n < 6 → ∀ a, a < 2 ^ n → ∀ b, b < 2 ^ n → exBr a.testBit b.testBit n false = (!decide ((nI a <<< ((1 : Int32) &&& 31)) &&& nI b = 0) || !decide ((nI b <<< ((1 : Int32) &&& 31)) &&& nI a = 0)) := by decide +kernel
theorem br_kn1 : ∀ n, n < 6 → ∀ a, a < 2 ^ n → exBr a.testBit a.testBit n true = decide (1 < pop a) := by decide +kernel
theorem br_kn2 : ∀ n, n < 6 → ∀ a, a < 2 ^ n → ∀ b, b < 2 ^ n → a &&& b = 0 → exBr a.testBit b.testBit n true = (!decide (a = 0) && !decide (b = 0)) := by decide +kernel
theorem isK_1 {K : Nat → Int32} {k : Nat} (h : vp_in (K k) 6) : isK K k 1 = (decide (K k = 1) || decide (K k = 4)) := by
  obtain ⟨j, hj, e⟩ := vp_in_of h (by decide)
  unfold isK
  rw [e]
  rcases (show j = 0 ∨ j = 1 ∨ j = 2 ∨ j = 3 ∨ j = 4 ∨ j = 5 by omega) with rfl | rfl | rfl | rfl | rfl | rfl <;> decide
theorem isK_3 {K : Nat → Int32} {k : Nat} (h : vp_in (K k) 6) (q : Nat) (hq : q < 6) (h0 : 0 < q) : isK K k (nI q) = (decide (K k = nI q) || (decide (q = 1) && decide (K k = 4)) || (decide (q = 3) && decide (K k = 5))) := by
  obtain ⟨j, hj, e⟩ := vp_in_of h (by decide)
  unfold isK
  rw [e]
  rcases (show j = 0 ∨ j = 1 ∨ j = 2 ∨ j = 3 ∨ j = 4 ∨ j = 5 by omega) with rfl | rfl | rfl | rfl | rfl | rfl <;> rcases (show q = 1 ∨ q = 2 ∨ q = 3 ∨ q = 4 ∨ q = 5 by omega) with rfl | rfl | rfl | rfl | rfl <;> decide
theorem bro_ex {c : Cl} {k : Nat} (hK : vp_in (cK c k) 6) : bro c k = ((decide (cK c k = 1) && exBr (fun y => decide (hap c y = cC c k)) (fun y => decide (hap c y = cEn c k)) (cN c) false) || (decide (cK c k = 4) && exBr (fun y => decide (hap c y = cC c k)) (fun y => decide (hap c y = cEn c k)) (cN c) true)) := by
  unfold bro brk exBr
  have hz : ∀ m i, exF (fun _ => false) i m = false := fun m => by
    induction m with
    | zero => intro i; rfl
    | succ m ih => intro i; simp only [exF, ih]; rfl
  have e : (fun y => brIn (cK c) (cC c) (cEn c) (hap c) k y) = fun y => (decide (cK c k = 1) || decide (cK c k = 4)) && exF (fun x => (decide (hap c x = cC c k) && decide (hap c y = cEn c k)) || (decide (hap c x = cEn c k) && decide (hap c y = cC c k))) (if cK c k = 4 then 0 else y - 1) (y - (if cK c k = 4 then 0 else y - 1)) := by
    funext y; unfold brIn; rw [isK_1 hK]
  rw [e]
  by_cases h1 : cK c k = 1
  · have h4 : ¬ cK c k = 4 := by rw [h1]; decide
    simp [h1]
  · by_cases h4 : cK c k = 4
    · simp [h4]
    · simp only [decide_eq_false h1, decide_eq_false h4, Bool.or_false, Bool.false_and]; exact hz _ _
section S57
variable {X : aX} {d : Nat} {vi : Nat → Nat → Int32} {vl : Nat → Nat → Int64} {post : aO} {A : aA} {c : Cl}
/-- w tells the CLOTH, and what happens -/
def Pld (c : Cl) (vi : Nat → Nat → Int32) : Prop := MV c 0 (vi 96) ∧ ∀ y, y < cN c → vi 104 y = hap c y ∧ vi 105 y = mak c y
theorem c_M_yearsOf {s : Int32} (hw : wfV c) (hP : Pld c vi) (hQ : post (some (.int (nI (ysW c s)))) (mk vi vl)) : CallOk X (d + 1) 0 0 k_M_yearsOf [.ref 95, .int s] (mk vi vl) post := by
  refine CallOk.intro (by decide +kernel) rfl (Nat.le_of_ble_eq_true rfl) ?_
  have hn5 := hw.1
  have e0 : vi 96 0 = nI (cN c) := hP.1.1
  refine b_M_yearsOf_0 ?_
  have key := loop_up (P := fun j => wp X (d + 1) k_M_yearsOf 0 0 4 [some (.ref 95), some (.int s), some (.int (nI (bb (fun y => decide (hap c y = s)) j))), some (.int (nI j))] [] (mk vi vl) post) (cN c) 0 (Nat.zero_le _) ?_ ?_
  · exact key
  · have g : ¬ ¬ vi 96 0 ≤ nI (cN c) := fun q => q (by rw [e0]; exact Int32.le_refl _)
    refine b_M_yearsOf_4 (fun h4 => b_M_yearsOf_40 ?_) (fun h4 => absurd h4 (by first | decide | assumption | omega | simp_all))
    exact hQ
  · intro j _ hj ih
    have g : ¬ vi 96 0 ≤ nI j := by rw [e0]; exact nI_ge hj (by omega)
    have cj : (nI j).toNatClampNeg = j := nI_clamp (by omega)
    have vj : vp_in (nI j) 5 := vp_in_nI (by omega) (by omega)
    rw [← bb_st (by omega), ← nI_1] at ih
    by_cases h : hap c j = s
    · have g2 : ¬ ¬ vi 104 (nI j).toNatClampNeg = s := fun q => q (by rw [cj, (hP.2 j hj).1]; exact h)
      rw [if_pos (decide_eq_true h)] at ih
      refine b_M_yearsOf_4 (fun h4 => absurd h4 (by first | decide | assumption | omega | simp_all)) (fun h4 => b_M_yearsOf_14 (by first | assumption | decide | (refine vp_in_nI ?_ ?_ <;> omega) | omega | simp_all) (fun h14 => absurd h14 (by first | decide | assumption | omega | simp_all)) (fun h14 => b_M_yearsOf_25 (b_M_yearsOf_32 ?_)))
      exact ih
    · have g2 : ¬ vi 104 (nI j).toNatClampNeg = s := by rw [cj, (hP.2 j hj).1]; exact h
      rw [if_neg (fun q => h (of_decide_eq_true q))] at ih
      refine b_M_yearsOf_4 (fun h4 => absurd h4 (by first | decide | assumption | omega | simp_all)) (fun h4 => b_M_yearsOf_14 (by first | assumption | decide | (refine vp_in_nI ?_ ?_ <;> omega) | omega | simp_all) (fun h14 => b_M_yearsOf_31 (b_M_yearsOf_32 ?_)) (fun h14 => absurd h14 (by first | decide | assumption | omega | simp_all)))
      exact ih
theorem c_M_yearsThat {s : Int32} (hw : wfV c) (hV : MV c 0 (vi 96)) (hQ : post (some (.int (nI (ysT c s)))) (mk vi vl)) : CallOk X (d + 1) 0 0 k_M_yearsThat [.ref 95, .int s] (mk vi vl) post := by
  refine CallOk.intro (by decide +kernel) rfl (Nat.le_of_ble_eq_true rfl) ?_
  have hn5 := hw.1
  have e0 : vi 96 0 = nI (cN c) := hV.1
  refine b_M_yearsThat_0 ?_
  have key := loop_up (P := fun j => wp X (d + 1) k_M_yearsThat 0 0 4 [some (.ref 95), some (.int s), some (.int (nI (bb (fun y => decide (cW c y = s)) j))), some (.int (nI j))] [] (mk vi vl) post) (cN c) 0 (Nat.zero_le _) ?_ ?_
  · exact key
  · have g : ¬ ¬ vi 96 0 ≤ nI (cN c) := fun q => q (by rw [e0]; exact Int32.le_refl _)
    refine b_M_yearsThat_4 (fun h4 => b_M_yearsThat_42 ?_) (fun h4 => absurd h4 (by first | decide | assumption | omega | simp_all))
    exact hQ
  · intro j _ hj ih
    have g : ¬ vi 96 0 ≤ nI j := by rw [e0]; exact nI_ge hj (by omega)
    have i2 : (2 + nI j).toNatClampNeg = 2 + j := by rw [ix2]; exact nI_clamp (by omega)
    have v2 : vp_in (2 + nI j) 5976 := by rw [ix2]; exact vp_in_nI (by omega) (by omega)
    rw [← bb_st (by omega), ← nI_1] at ih
    by_cases h : cW c j = s
    · have g2 : ¬ ¬ vi 96 (2 + nI j).toNatClampNeg = s := fun q => q (by rw [i2, (hV.y hj).1]; exact h)
      rw [if_pos (decide_eq_true h)] at ih
      refine b_M_yearsThat_4 (fun h4 => absurd h4 (by first | decide | assumption | omega | simp_all)) (fun h4 => b_M_yearsThat_14 (by first | assumption | decide | (refine vp_in_nI ?_ ?_ <;> omega) | omega | simp_all) (fun h14 => absurd h14 (by first | decide | assumption | omega | simp_all)) (fun h14 => b_M_yearsThat_27 (b_M_yearsThat_34 ?_)))
      exact ih
    · have g2 : ¬ vi 96 (2 + nI j).toNatClampNeg = s := by rw [i2, (hV.y hj).1]; exact h
      rw [if_neg (fun q => h (of_decide_eq_true q))] at ih
      refine b_M_yearsThat_4 (fun h4 => absurd h4 (by first | decide | assumption | omega | simp_all)) (fun h4 => b_M_yearsThat_14 (by first | assumption | decide | (refine vp_in_nI ?_ ?_ <;> omega) | omega | simp_all) (fun h14 => b_M_yearsThat_33 (b_M_yearsThat_34 ?_)) (fun h14 => absurd h14 (by first | decide | assumption | omega | simp_all)))
      exact ih
theorem c_M_happening (hw : wfV c) (hP : Pld c vi) (hQ : post (some (.int (nI (ysS c)))) (mk vi vl)) : CallOk X (d + 1) 0 0 k_M_happening [.ref 95] (mk vi vl) post := by
  refine CallOk.intro (by decide +kernel) rfl (Nat.le_of_ble_eq_true rfl) ?_
  have hn5 := hw.1
  have e0 : vi 96 0 = nI (cN c) := hP.1.1
  refine b_M_happening_0 ?_
  have key := loop_up (P := fun j => wp X (d + 1) k_M_happening 0 0 4 [some (.ref 95), some (.int (nI (bb (fun y => !decide (hap c y = -9)) j))), some (.int (nI j))] [] (mk vi vl) post) (cN c) 0 (Nat.zero_le _) ?_ ?_
  · exact key
  · have g : ¬ ¬ vi 96 0 ≤ nI (cN c) := fun q => q (by rw [e0]; exact Int32.le_refl _)
    refine b_M_happening_4 (fun h4 => b_M_happening_41 ?_) (fun h4 => absurd h4 (by first | decide | assumption | omega | simp_all))
    exact hQ
  · intro j _ hj ih
    have g : ¬ vi 96 0 ≤ nI j := by rw [e0]; exact nI_ge hj (by omega)
    have cj : (nI j).toNatClampNeg = j := nI_clamp (by omega)
    have vj : vp_in (nI j) 5 := vp_in_nI (by omega) (by omega)
    rw [← bb_st (by omega), ← nI_1] at ih
    by_cases h : hap c j = -9
    · have g2 : ¬ ¬ vi 104 (nI j).toNatClampNeg = -9 := fun q => q (by rw [cj, (hP.2 j hj).1]; exact h)
      rw [if_neg (by rw [decide_eq_true h]; decide)] at ih
      refine b_M_happening_4 (fun h4 => absurd h4 (by first | decide | assumption | omega | simp_all)) (fun h4 => b_M_happening_14 (by first | assumption | decide | (refine vp_in_nI ?_ ?_ <;> omega) | omega | simp_all) (fun h14 => absurd h14 (by first | decide | assumption | omega | simp_all)) (fun h14 => b_M_happening_26 (b_M_happening_33 ?_)))
      exact ih
    · have g2 : ¬ vi 104 (nI j).toNatClampNeg = -9 := by rw [cj, (hP.2 j hj).1]; exact h
      rw [if_pos (by rw [decide_eq_false h]; rfl)] at ih
      refine b_M_happening_4 (fun h4 => absurd h4 (by first | decide | assumption | omega | simp_all)) (fun h4 => b_M_happening_14 (by first | assumption | decide | (refine vp_in_nI ?_ ?_ <;> omega) | omega | simp_all) (fun h14 => b_M_happening_30 (b_M_happening_33 ?_)) (fun h14 => absurd h14 (by first | decide | assumption | omega | simp_all)))
      exact ih
theorem c_M_ones {m : Nat} (hm : m < 256) (hQ : post (some (.int (nI (pop m)))) (mk vi vl)) : CallOk X (d + 1) 0 0 k_M_ones [.int (nI m)] (mk vi vl) post := by
  refine CallOk.intro (by decide +kernel) rfl (Nat.le_of_ble_eq_true rfl) ?_
  refine b_M_ones_0 ?_
  have key := loop_up (P := fun j => wp X (d + 1) k_M_ones 0 0 4 [some (.int (nI m)), some (.int (nI (cn (fun k => m.testBit k) j))), some (.int (nI j))] [] (mk vi vl) post) 8 0 (Nat.zero_le _) ?_ ?_
  · exact key
  · have g : ¬ ¬ (8 : Int32) ≤ nI 8 := by decide
    refine b_M_ones_4 (fun h4 => b_M_ones_24 ?_) (fun h4 => absurd h4 (by first | decide | assumption | omega | simp_all))
    exact hQ
  · intro j _ hj ih
    have g : ¬ (8 : Int32) ≤ nI j := nI_ge (a := j) (b := 8) hj (by omega)
    refine b_M_ones_4 (fun h4 => absurd h4 (by first | decide | assumption | omega | simp_all)) (fun h4 => b_M_ones_10 ?_)
    rw [bit_ok m hm j hj, nI_1]
    by_cases h : m.testBit j = true
    · rw [if_pos h, nI_1, ← cn_t (p := fun k => m.testBit k) h]
      exact ih
    · rw [if_neg h, Int32.add_zero, ← cn_f (p := fun k => m.testBit k) (Bool.eq_false_iff.mpr h)]
      exact ih
theorem c_M_has {m j : Nat} (hm : m < 256) (hj : j < 8) (hQ : post (some (.int (bI (m.testBit j)))) (mk vi vl)) : CallOk X (d + 1) 0 0 k_M_has [.int (nI m), .int (nI j)] (mk vi vl) post := by
  refine CallOk.intro (by decide +kernel) rfl (Nat.le_of_ble_eq_true rfl) ?_
  have e := bit_ok m hm j hj
  cases h : m.testBit j
  · rw [h] at e hQ
    have g : ¬ (nI m >>> (nI j &&& 31)) &&& 1 = 1 := by rw [e]; decide
    refine b_M_has_0 (fun h0 => b_M_has_13 (b_M_has_14 (by first | assumption | decide | (refine vp_in_nI ?_ ?_ <;> omega) | omega | simp_all) ?_)) (fun h0 => absurd h0 (by first | decide | assumption | omega | simp_all))
    exact hQ
  · rw [h] at e hQ
    have g : ¬ ¬ (nI m >>> (nI j &&& 31)) &&& 1 = 1 := fun q => q (by rw [e]; rfl)
    refine b_M_has_0 (fun h0 => absurd h0 (by first | decide | assumption | omega | simp_all)) (fun h0 => b_M_has_9 (b_M_has_14 (by first | assumption | decide | (refine vp_in_nI ?_ ?_ <;> omega) | omega | simp_all) ?_))
    exact hQ
theorem c_M_isBroken {k : Nat} (hw : wfV c) (hP : Pld c vi) (hk : k < cL c) (hQ : post (some (.int (bI (bro c k)))) (mk vi vl)) : CallOk X (d + 2) 0 0 k_M_isBroken [.ref 95, .int (nI k)] (mk vi vl) post := by
  refine CallOk.intro (by decide +kernel) rfl (Nat.le_of_ble_eq_true rfl) ?_
  have hn5 := hw.1
  have h8 := hw.2.1
  obtain ⟨eK, eC, eE⟩ := hP.1.l hk
  have i12 : (12 + nI k).toNatClampNeg = 12 + k := by rw [ix12]; exact nI_clamp (by omega)
  have i20 : (20 + nI k).toNatClampNeg = 20 + k := by rw [ix20]; exact nI_clamp (by omega)
  have i28 : (28 + nI k).toNatClampNeg = 28 + k := by rw [ix28]; exact nI_clamp (by omega)
  have v12 : vp_in (12 + nI k) 5976 := by rw [ix12]; exact vp_in_nI (by omega) (by omega)
  have v20 : vp_in (20 + nI k) 5976 := by rw [ix20]; exact vp_in_nI (by omega) (by omega)
  have v28 : vp_in (28 + nI k) 5976 := by rw [ix28]; exact vp_in_nI (by omega) (by omega)
  refine b_M_isBroken_0 (by first | assumption | decide | (refine vp_in_nI ?_ ?_ <;> omega) | omega | simp_all) ?_
  rw [i20, eC]
  refine c_M_yearsOf hw hP ?_
  refine b_M_isBroken_13 (by first | assumption | decide | (refine vp_in_nI ?_ ?_ <;> omega) | omega | simp_all) ?_
  rw [i28, eE]
  refine c_M_yearsOf hw hP ?_
  have l1 : ysW c (cC c k) < 2 ^ cN c := bb_lt _ _
  have l2 : ysW c (cEn c k) < 2 ^ cN c := bb_lt _ _
  have l1' := ysW_32 (c := c) (s := cC c k) hn5
  have l2' := ysW_32 (c := c) (s := cEn c k) hn5
  rw [bro_ex (hw.2.2 k hk)] at hQ
  have cg : ∀ kn, exBr (fun y => decide (hap c y = cC c k)) (fun y => decide (hap c y = cEn c k)) (cN c) kn = exBr (ysW c (cC c k)).testBit (ysW c (cEn c k)).testBit (cN c) kn := fun kn => exBr_cg (fun y hy => (bb_tb (p := fun y => decide (hap c y = cC c k)) _ y hy).symm) (fun y hy => (bb_tb (p := fun y => decide (hap c y = cEn c k)) _ y hy).symm)
  rw [cg, cg] at hQ
  generalize hA1 : ysW c (cC c k) = a at hQ l1 l1'
  generalize hA2 : ysW c (cEn c k) = b at hQ l2 l2'
  by_cases h1 : cK c k = 1
  · have g1 : ¬ ¬ vi 96 (12 + nI k).toNatClampNeg = 1 := fun q => q (by rw [i12, eK]; exact h1)
    have h4 : ¬ cK c k = 4 := by rw [h1]; decide
    rw [decide_eq_true h1, decide_eq_false h4, Bool.true_and, Bool.false_and, Bool.or_false, br_bar _ (by omega) a l1 b l2] at hQ
    by_cases z1 : (nI a <<< ((1 : Int32) &&& 31)) &&& nI b = 0
    · rw [decide_eq_true z1, Bool.not_true, Bool.false_or] at hQ
      by_cases z2 : (nI b <<< ((1 : Int32) &&& 31)) &&& nI a = 0
      · rw [decide_eq_true z2] at hQ
        refine b_M_isBroken_27 (by first | assumption | decide | (refine vp_in_nI ?_ ?_ <;> omega) | omega | simp_all) (fun h27 => absurd h27 (by first | decide | assumption | omega | simp_all)) (fun h27 => b_M_isBroken_41 (fun h41 => absurd h41 (by first | decide | assumption | omega | simp_all)) (fun h41 => b_M_isBroken_49 (fun h49 => b_M_isBroken_61 (b_M_isBroken_62 (by first | assumption | decide | (refine vp_in_nI ?_ ?_ <;> omega) | omega | simp_all) ?_)) (fun h49 => absurd h49 (by first | decide | assumption | omega | simp_all))))
        exact hQ
      · rw [decide_eq_false z2] at hQ
        refine b_M_isBroken_27 (by first | assumption | decide | (refine vp_in_nI ?_ ?_ <;> omega) | omega | simp_all) (fun h27 => absurd h27 (by first | decide | assumption | omega | simp_all)) (fun h27 => b_M_isBroken_41 (fun h41 => absurd h41 (by first | decide | assumption | omega | simp_all)) (fun h41 => b_M_isBroken_49 (fun h49 => absurd h49 (by first | decide | assumption | omega | simp_all)) (fun h49 => b_M_isBroken_57 (b_M_isBroken_62 (by first | assumption | decide | (refine vp_in_nI ?_ ?_ <;> omega) | omega | simp_all) ?_))))
        exact hQ
    · rw [decide_eq_false z1, Bool.not_false, Bool.true_or] at hQ
      refine b_M_isBroken_27 (by first | assumption | decide | (refine vp_in_nI ?_ ?_ <;> omega) | omega | simp_all) (fun h27 => absurd h27 (by first | decide | assumption | omega | simp_all)) (fun h27 => b_M_isBroken_41 (fun h41 => b_M_isBroken_57 (b_M_isBroken_62 (by first | assumption | decide | (refine vp_in_nI ?_ ?_ <;> omega) | omega | simp_all) ?_)) (fun h41 => absurd h41 (by first | decide | assumption | omega | simp_all)))
      exact hQ
  · have g1 : ¬ vi 96 (12 + nI k).toNatClampNeg = 1 := by rw [i12, eK]; exact h1
    rw [decide_eq_false h1, Bool.false_and, Bool.false_or] at hQ
    by_cases h4 : cK c k = 4
    · have g4 : ¬ ¬ vi 96 (12 + nI k).toNatClampNeg = 4 := fun q => q (by rw [i12, eK]; exact h4)
      rw [decide_eq_true h4, Bool.true_and] at hQ
      by_cases hal : cC c k = cEn c k
      · have g5 : ¬ ¬ vi 96 (20 + nI k).toNatClampNeg = vi 96 (28 + nI k).toNatClampNeg := fun q => q (by rw [i20, i28, eC, eE]; exact hal)
        have hab : b = a := by rw [← hA1, ← hA2, hal]
        rw [hab, br_kn1 _ (by omega) a l1] at hQ
        refine b_M_isBroken_27 (by first | assumption | decide | (refine vp_in_nI ?_ ?_ <;> omega) | omega | simp_all) (fun h27 => b_M_isBroken_63 (by first | assumption | decide | (refine vp_in_nI ?_ ?_ <;> omega) | omega | simp_all) (by first | assumption | decide | (refine vp_in_nI ?_ ?_ <;> omega) | omega | simp_all) (fun h63 => absurd h63 (by first | decide | assumption | omega | simp_all)) (fun h63 => b_M_isBroken_84 (b_M_isBroken_89 (by first | assumption | decide | (refine vp_in_nI ?_ ?_ <;> omega) | omega | simp_all) (fun h89 => absurd h89 (by first | decide | assumption | omega | simp_all)) (fun h89 => b_M_isBroken_104 (fun h104 => absurd h104 (by first | decide | assumption | omega | simp_all)) (fun h104 => b_M_isBroken_109 ?_))))) (fun h27 => absurd h27 (by first | decide | assumption | omega | simp_all))
        refine c_M_ones (by omega) ?_
        have hp := pop_le a
        by_cases hpp : 1 < pop a
        · have g6 : ¬ nI (pop a) ≤ 1 := nI_ge (a := 1) hpp (by omega)
          rw [decide_eq_true hpp] at hQ
          refine b_M_isBroken_113 (fun h113 => absurd h113 (by first | decide | assumption | omega | simp_all)) (fun h113 => b_M_isBroken_117 (b_M_isBroken_128 (b_M_isBroken_133 (by first | assumption | decide | (refine vp_in_nI ?_ ?_ <;> omega) | omega | simp_all) ?_)))
          exact hQ
        · have g6 : ¬ ¬ nI (pop a) ≤ 1 := fun q => q (nI_le (b := 1) (by omega) (by omega))
          rw [decide_eq_false hpp] at hQ
          refine b_M_isBroken_113 (fun h113 => b_M_isBroken_132 (b_M_isBroken_133 (by first | assumption | decide | (refine vp_in_nI ?_ ?_ <;> omega) | omega | simp_all) ?_)) (fun h113 => absurd h113 (by first | decide | assumption | omega | simp_all))
          exact hQ
      · have g5 : ¬ vi 96 (20 + nI k).toNatClampNeg = vi 96 (28 + nI k).toNatClampNeg := by rw [i20, i28, eC, eE]; exact hal
        have hand : a &&& b = 0 := by
          refine Nat.eq_of_testBit_eq (fun i => ?_)
          rw [Nat.testBit_and, Nat.zero_testBit]
          by_cases hi : i < cN c
          · rw [← hA1, ← hA2]
            unfold ysW
            rw [bb_tb _ i hi, bb_tb _ i hi]
            by_cases q : hap c i = cC c k
            · rw [decide_eq_false (show ¬ hap c i = cEn c k from fun r => hal (q.symm.trans r)), Bool.and_false]
            · rw [decide_eq_false q, Bool.false_and]
          · rw [Nat.testBit_lt_two_pow (Nat.lt_of_lt_of_le l1 (Nat.pow_le_pow_right (by decide) (by omega))), Bool.false_and]
        rw [br_kn2 _ (by omega) a l1 b l2 hand] at hQ
        have q1 : (nI a = 0) ↔ a = 0 := nI_eq (b := 0) (by omega) (by omega)
        have q2 : (nI b = 0) ↔ b = 0 := nI_eq (b := 0) (by omega) (by omega)
        by_cases z1 : a = 0
        · have y1 : ¬ ¬ nI a = 0 := fun q => q (q1.mpr z1)
          rw [decide_eq_true z1, Bool.not_true, Bool.false_and] at hQ
          refine b_M_isBroken_27 (by first | assumption | decide | (refine vp_in_nI ?_ ?_ <;> omega) | omega | simp_all) (fun h27 => b_M_isBroken_63 (by first | assumption | decide | (refine vp_in_nI ?_ ?_ <;> omega) | omega | simp_all) (by first | assumption | decide | (refine vp_in_nI ?_ ?_ <;> omega) | omega | simp_all) (fun h63 => b_M_isBroken_88 (b_M_isBroken_89 (by first | assumption | decide | (refine vp_in_nI ?_ ?_ <;> omega) | omega | simp_all) (fun h89 => absurd h89 (by first | decide | assumption | omega | simp_all)) (fun h89 => b_M_isBroken_104 (fun h104 => b_M_isBroken_120 (fun h120 => b_M_isBroken_132 (b_M_isBroken_133 (by first | assumption | decide | (refine vp_in_nI ?_ ?_ <;> omega) | omega | simp_all) ?_)) (fun h120 => absurd h120 (by first | decide | assumption | omega | simp_all))) (fun h104 => absurd h104 (by first | decide | assumption | omega | simp_all))))) (fun h63 => absurd h63 (by first | decide | assumption | omega | simp_all))) (fun h27 => absurd h27 (by first | decide | assumption | omega | simp_all))
          exact hQ
        · have y1 : ¬ nI a = 0 := fun q => z1 (q1.mp q)
          rw [decide_eq_false z1, Bool.not_false, Bool.true_and] at hQ
          by_cases z2 : b = 0
          · have y2 : ¬ ¬ nI b = 0 := fun q => q (q2.mpr z2)
            rw [decide_eq_true z2] at hQ
            refine b_M_isBroken_27 (by first | assumption | decide | (refine vp_in_nI ?_ ?_ <;> omega) | omega | simp_all) (fun h27 => b_M_isBroken_63 (by first | assumption | decide | (refine vp_in_nI ?_ ?_ <;> omega) | omega | simp_all) (by first | assumption | decide | (refine vp_in_nI ?_ ?_ <;> omega) | omega | simp_all) (fun h63 => b_M_isBroken_88 (b_M_isBroken_89 (by first | assumption | decide | (refine vp_in_nI ?_ ?_ <;> omega) | omega | simp_all) (fun h89 => absurd h89 (by first | decide | assumption | omega | simp_all)) (fun h89 => b_M_isBroken_104 (fun h104 => b_M_isBroken_120 (fun h120 => absurd h120 (by first | decide | assumption | omega | simp_all)) (fun h120 => b_M_isBroken_124 (fun h124 => b_M_isBroken_132 (b_M_isBroken_133 (by first | assumption | decide | (refine vp_in_nI ?_ ?_ <;> omega) | omega | simp_all) ?_)) (fun h124 => absurd h124 (by first | decide | assumption | omega | simp_all)))) (fun h104 => absurd h104 (by first | decide | assumption | omega | simp_all))))) (fun h63 => absurd h63 (by first | decide | assumption | omega | simp_all))) (fun h27 => absurd h27 (by first | decide | assumption | omega | simp_all))
            exact hQ
          · have y2 : ¬ nI b = 0 := fun q => z2 (q2.mp q)
            rw [decide_eq_false z2] at hQ
            refine b_M_isBroken_27 (by first | assumption | decide | (refine vp_in_nI ?_ ?_ <;> omega) | omega | simp_all) (fun h27 => b_M_isBroken_63 (by first | assumption | decide | (refine vp_in_nI ?_ ?_ <;> omega) | omega | simp_all) (by first | assumption | decide | (refine vp_in_nI ?_ ?_ <;> omega) | omega | simp_all) (fun h63 => b_M_isBroken_88 (b_M_isBroken_89 (by first | assumption | decide | (refine vp_in_nI ?_ ?_ <;> omega) | omega | simp_all) (fun h89 => absurd h89 (by first | decide | assumption | omega | simp_all)) (fun h89 => b_M_isBroken_104 (fun h104 => b_M_isBroken_120 (fun h120 => absurd h120 (by first | decide | assumption | omega | simp_all)) (fun h120 => b_M_isBroken_124 (fun h124 => absurd h124 (by first | decide | assumption | omega | simp_all)) (fun h124 => b_M_isBroken_128 (b_M_isBroken_133 (by first | assumption | decide | (refine vp_in_nI ?_ ?_ <;> omega) | omega | simp_all) ?_)))) (fun h104 => absurd h104 (by first | decide | assumption | omega | simp_all))))) (fun h63 => absurd h63 (by first | decide | assumption | omega | simp_all))) (fun h27 => absurd h27 (by first | decide | assumption | omega | simp_all))
            exact hQ
    · have g4 : ¬ vi 96 (12 + nI k).toNatClampNeg = 4 := by rw [i12, eK]; exact h4
      rw [decide_eq_false h4, Bool.false_and] at hQ
      by_cases hal : vi 96 (20 + nI k).toNatClampNeg = vi 96 (28 + nI k).toNatClampNeg
      · refine b_M_isBroken_27 (by first | assumption | decide | (refine vp_in_nI ?_ ?_ <;> omega) | omega | simp_all) (fun h27 => b_M_isBroken_63 (by first | assumption | decide | (refine vp_in_nI ?_ ?_ <;> omega) | omega | simp_all) (by first | assumption | decide | (refine vp_in_nI ?_ ?_ <;> omega) | omega | simp_all) (fun h63 => absurd h63 (by first | decide | assumption | omega | simp_all)) (fun h63 => b_M_isBroken_84 (b_M_isBroken_89 (by first | assumption | decide | (refine vp_in_nI ?_ ?_ <;> omega) | omega | simp_all) (fun h89 => b_M_isBroken_132 (b_M_isBroken_133 (by first | assumption | decide | (refine vp_in_nI ?_ ?_ <;> omega) | omega | simp_all) ?_)) (fun h89 => absurd h89 (by first | decide | assumption | omega | simp_all))))) (fun h27 => absurd h27 (by first | decide | assumption | omega | simp_all))
        exact hQ
      · refine b_M_isBroken_27 (by first | assumption | decide | (refine vp_in_nI ?_ ?_ <;> omega) | omega | simp_all) (fun h27 => b_M_isBroken_63 (by first | assumption | decide | (refine vp_in_nI ?_ ?_ <;> omega) | omega | simp_all) (by first | assumption | decide | (refine vp_in_nI ?_ ?_ <;> omega) | omega | simp_all) (fun h63 => b_M_isBroken_88 (b_M_isBroken_89 (by first | assumption | decide | (refine vp_in_nI ?_ ?_ <;> omega) | omega | simp_all) (fun h89 => b_M_isBroken_132 (b_M_isBroken_133 (by first | assumption | decide | (refine vp_in_nI ?_ ?_ <;> omega) | omega | simp_all) ?_)) (fun h89 => absurd h89 (by first | decide | assumption | omega | simp_all)))) (fun h63 => absurd h63 (by first | decide | assumption | omega | simp_all))) (fun h27 => absurd h27 (by first | decide | assumption | omega | simp_all))
        exact hQ
theorem c_M_brokenNow (hw : wfP c) (hV : MV c 0 (vi 96)) (h16 : vi 95 16 = -9) (hQ : ∀ w, (∀ j, j ≠ 104 → j ≠ 105 → w j = vi j) → Pld c w → post (some (.int (nI (brb c)))) (mk w vl)) : CallOk X (d + 4) 0 0 k_M_brokenNow [.ref 95] (mk vi vl) post := by
  refine CallOk.intro (by decide +kernel) rfl (Nat.le_of_ble_eq_true rfl) ?_
  have h8 := hw.1.2.1
  refine b_M_brokenNow_0 ?_
  refine c_M_plays hw hV (fun w ho hp => ?_)
  have hP : Pld c w := by
    refine ⟨by rw [ho 96 (by decide) (by decide)]; exact hV, fun y hy => ?_⟩
    rw [h16] at hp
    rw [(hp y hy).1, (hp y hy).2, (woC_9 h8 y).1, (woC_9 h8 y).2]; exact ⟨rfl, rfl⟩
  refine b_M_brokenNow_4 ?_
  have e1 : w 96 1 = nI (cL c) := hP.1.2.1
  have key := loop_up (P := fun j => wp X (d + 4) k_M_brokenNow 0 0 8 [some (.ref 95), some (.int (nI (bb (bro c) j))), some (.int (nI j))] [] (mk w vl) post) (cL c) 0 (Nat.zero_le _) ?_ ?_
  · exact key
  · have g : ¬ ¬ w 96 1 ≤ nI (cL c) := fun q => q (by rw [e1]; exact Int32.le_refl _)
    refine b_M_brokenNow_8 (fun h8 => b_M_brokenNow_42 ?_) (fun h8 => absurd h8 (by first | decide | assumption | omega | simp_all))
    exact hQ w ho hP
  · intro j _ hj ih
    have g : ¬ w 96 1 ≤ nI j := by rw [e1]; exact nI_ge hj (by omega)
    rw [← bb_st (by omega), ← nI_1] at ih
    refine b_M_brokenNow_8 (fun h8 => absurd h8 (by first | decide | assumption | omega | simp_all)) (fun h8 => b_M_brokenNow_18 ?_)
    refine c_M_isBroken hw.1 hP hj ?_
    cases h : bro c j
    · rw [h, if_neg (fun q => by cases q)] at ih
      refine b_M_brokenNow_24 (fun h24 => b_M_brokenNow_33 (b_M_brokenNow_34 ?_)) (fun h24 => absurd h24 (by first | decide | assumption | omega | simp_all))
      exact ih
    · rw [h, if_pos rfl] at ih
      refine b_M_brokenNow_24 (fun h24 => absurd h24 (by first | decide | assumption | omega | simp_all)) (fun h24 => b_M_brokenNow_27 (b_M_brokenNow_34 ?_))
      exact ih
end S57
