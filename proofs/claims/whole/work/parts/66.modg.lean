/-! the reference: counts, the digest -/
section S66
variable {X : aX} {d : Nat} {vi : Nat → Nat → Int32} {vl : Nat → Nat → Int64} {post : aO} {A : aA} {c : Cl} {f g : Nat → Int32}
theorem m_findings {f : Int32} (hA : AbM A vi vl) (hQ : PM vi vl post (oFindings A f)) : CallOk X (d + 2) 0 0 k_M_findings [.ref 95, .int f] (mk vi vl) post := by
  refine CallOk.intro (by decide +kernel) rfl (Nat.le_of_ble_eq_true rfl) ?_
  unfold oFindings at hQ
  refine b_M_findings_0 ?_
  refine c_M_in ?_
  rw [Int32.toInt_toInt64, show (1 : Int64).toInt = 1 from rfl, show (5 : Int64).toInt = 5 from rfl]
  by_cases hb : 1 ≤ f.toInt ∧ f.toInt ≤ 5
  · rw [if_pos hb] at hQ
    rw [decide_eq_true hb]
    have g3 : vp_in f 6 := by rw [vp_in_iff]; omega
    refine b_M_findings_9 (fun h9 => absurd h9 (by first | decide | assumption | omega | simp_all)) (fun h9 => b_M_findings_12 (by first | assumption | decide | (refine vp_in_nI ?_ ?_ <;> omega) | omega | simp_all) (b_M_findings_22 ?_))
    rw [hA.2.2.2.2.1.2 _ (vin_lt g3)]
    exact hQ _ _ hA smC_rf
  · rw [if_neg hb] at hQ
    rw [decide_eq_false hb]
    refine b_M_findings_9 (fun h9 => b_M_findings_21 (b_M_findings_22 ?_)) (fun h9 => absurd h9 (by first | decide | assumption | omega | simp_all))
    exact hQ _ _ hA smC_rf
theorem c_M_barsMany (hw : wfV c) (hV : MV c 0 (vi 96)) (hQ : post (some (.int (nI (cn (fun k => isK (cK c) k 1) (cL c))))) (mk vi vl)) : CallOk X (d + 1) 0 0 k_M_barsMany [.ref 95] (mk vi vl) post := by
  refine CallOk.intro (by decide +kernel) rfl (Nat.le_of_ble_eq_true rfl) ?_
  have h8 := hw.2.1
  have e1 : vi 96 1 = nI (cL c) := hV.2.1
  refine b_M_barsMany_0 ?_
  have key := loop_up (P := fun j => wp X (d + 1) k_M_barsMany 0 0 4 [some (.ref 95), some (.int (nI (cn (fun k => isK (cK c) k 1) j))), some (.int (nI j))] [] (mk vi vl) post) (cL c) 0 (Nat.zero_le _) ?_ ?_
  · exact key
  · have g : ¬ ¬ vi 96 1 ≤ nI (cL c) := fun q => q (by rw [e1]; exact Int32.le_refl _)
    refine b_M_barsMany_4 (fun h4 => b_M_barsMany_54 ?_) (fun h4 => absurd h4 (by first | decide | assumption | omega | simp_all))
    exact hQ
  · intro j _ hj ih
    have g : ¬ vi 96 1 ≤ nI j := by rw [e1]; exact nI_ge hj (by omega)
    have i12 : (12 + nI j).toNatClampNeg = 12 + j := by rw [ix12]; exact nI_clamp (by omega)
    have v12 : vp_in (12 + nI j) 5976 := by rw [ix12]; exact vp_in_nI (by omega) (by omega)
    have e12 : vi 96 (12 + nI j).toNatClampNeg = cK c j := by rw [i12]; exact (hV.l hj).1
    have ek := isK_1 (hw.2.2 j hj)
    by_cases h1 : cK c j = 1
    · have g1 : ¬ ¬ vi 96 (12 + nI j).toNatClampNeg = 1 := fun q => q (by rw [e12]; exact h1)
      rw [cn_t (show isK (cK c) j 1 = true by rw [ek, decide_eq_true h1]; rfl)] at ih
      refine b_M_barsMany_4 (fun h4 => absurd h4 (by first | decide | assumption | omega | simp_all)) (fun h4 => b_M_barsMany_14 (by first | assumption | decide | (refine vp_in_nI ?_ ?_ <;> omega) | omega | simp_all) (fun h14 => b_M_barsMany_41 (b_M_barsMany_46 ?_)) (fun h14 => absurd h14 (by first | decide | assumption | omega | simp_all)))
      rw [nI_1, nI_1]; exact ih
    · have g1 : ¬ vi 96 (12 + nI j).toNatClampNeg = 1 := by rw [e12]; exact h1
      by_cases h4 : cK c j = 4
      · have g2 : ¬ ¬ vi 96 (12 + nI j).toNatClampNeg = 4 := fun q => q (by rw [e12]; exact h4)
        rw [cn_t (show isK (cK c) j 1 = true by rw [ek, decide_eq_true h4, Bool.or_true])] at ih
        refine b_M_barsMany_4 (fun h4 => absurd h4 (by first | decide | assumption | omega | simp_all)) (fun h4 => b_M_barsMany_14 (by first | assumption | decide | (refine vp_in_nI ?_ ?_ <;> omega) | omega | simp_all) (fun h14 => absurd h14 (by first | decide | assumption | omega | simp_all)) (fun h14 => b_M_barsMany_28 (by first | assumption | decide | (refine vp_in_nI ?_ ?_ <;> omega) | omega | simp_all) (fun h28 => absurd h28 (by first | decide | assumption | omega | simp_all)) (fun h28 => b_M_barsMany_41 (b_M_barsMany_46 ?_))))
        rw [nI_1, nI_1]; exact ih
      · have g2 : ¬ vi 96 (12 + nI j).toNatClampNeg = 4 := by rw [e12]; exact h4
        rw [cn_f (show isK (cK c) j 1 = false by rw [ek, decide_eq_false h1, decide_eq_false h4]; rfl)] at ih
        refine b_M_barsMany_4 (fun h4 => absurd h4 (by first | decide | assumption | omega | simp_all)) (fun h4 => b_M_barsMany_14 (by first | assumption | decide | (refine vp_in_nI ?_ ?_ <;> omega) | omega | simp_all) (fun h14 => absurd h14 (by first | decide | assumption | omega | simp_all)) (fun h14 => b_M_barsMany_28 (by first | assumption | decide | (refine vp_in_nI ?_ ?_ <;> omega) | omega | simp_all) (fun h28 => b_M_barsMany_45 (b_M_barsMany_46 ?_)) (fun h28 => absurd h28 (by first | decide | assumption | omega | simp_all))))
        rw [nI_1, Int32.add_zero]; exact ih
theorem c_M_thereOf {a n : Nat} {p : Nat → Bool} (ha : a < 107) (hs : sh0 a = (0, n)) (hn : n < 100) (hp : ∀ k, k < n → ((0 ≤ vi a k) ↔ p k = true)) (hQ : post (some (.int (nI (cn p n)))) (mk vi vl)) : CallOk X (d + 1) 0 0 k_M_thereOf [.ref a, .int (nI n)] (mk vi vl) post := by
  refine CallOk.intro (by decide +kernel) rfl (Nat.le_of_ble_eq_true rfl) ?_
  refine b_M_thereOf_0 ?_
  have key := loop_up (P := fun j => wp X (d + 1) k_M_thereOf 0 0 4 [some (.ref a), some (.int (nI n)), some (.int (nI (cn p j))), some (.int (nI j))] [] (mk vi vl) post) n 0 (Nat.zero_le _) ?_ ?_
  · exact key
  · have g : ¬ ¬ nI n ≤ nI n := fun q => q (Int32.le_refl _)
    refine b_M_thereOf_4 (fun h4 => b_M_thereOf_29 ?_) (fun h4 => absurd h4 (by first | decide | assumption | omega | simp_all))
    exact hQ
  · intro j _ hj ih
    have g : ¬ nI n ≤ nI j := nI_ge hj (by omega)
    have cj : (nI j).toNatClampNeg = j := nI_clamp (by omega)
    have vj : vp_in (nI j) n := vp_in_nI hj (by omega)
    cases h : p j
    · have g2 : ¬ 0 ≤ vi a (nI j).toNatClampNeg := by rw [cj, hp j hj, h]; decide
      rw [cn_f h] at ih
      refine b_M_thereOf_4 (fun h4 => absurd h4 (by first | decide | assumption | omega | simp_all)) (fun h4 => b_M_thereOf_9 (by first | assumption | decide | (refine vp_in_nI ?_ ?_ <;> omega) | omega | simp_all) (by first | assumption | decide | (refine vp_in_nI ?_ ?_ <;> omega) | omega | simp_all) (by first | assumption | decide | (refine vp_in_nI ?_ ?_ <;> omega) | omega | simp_all) (fun h9 => absurd h9 (by first | decide | assumption | omega | simp_all)) (fun h9 => b_M_thereOf_16 (b_M_thereOf_21 ?_)))
      rw [nI_1, Int32.add_zero]; exact ih
    · have g2 : ¬ ¬ 0 ≤ vi a (nI j).toNatClampNeg := fun q => q (by rw [cj, hp j hj]; exact h)
      rw [cn_t h] at ih
      refine b_M_thereOf_4 (fun h4 => absurd h4 (by first | decide | assumption | omega | simp_all)) (fun h4 => b_M_thereOf_9 (by first | assumption | decide | (refine vp_in_nI ?_ ?_ <;> omega) | omega | simp_all) (by first | assumption | decide | (refine vp_in_nI ?_ ?_ <;> omega) | omega | simp_all) (by first | assumption | decide | (refine vp_in_nI ?_ ?_ <;> omega) | omega | simp_all) (fun h9 => b_M_thereOf_20 (b_M_thereOf_21 ?_)) (fun h9 => absurd h9 (by first | decide | assumption | omega | simp_all)))
      rw [nI_1, nI_1]; exact ih
theorem c_M_count {what : Int32} (hW : wfA A) (hA : AbM A vi vl) (hQ : ∀ w, (∀ j, j ≠ 104 → j ≠ 105 → w j = vi j) → post (some (.int (cntT A what))) (mk w vl)) : CallOk X (d + 4) 0 0 k_M_count [.ref 95, .int what] (mk vi vl) post := by
  refine CallOk.intro (by decide +kernel) rfl (Nat.le_of_ble_eq_true rfl) ?_
  have h5' := hW.N5
  have hv := hW.2.2.1.v
  have hQ0 := hQ vi (fun _ _ _ => rfl)
  unfold cntT at hQ hQ0
  refine b_M_count_0 ?_
  refine ⟨fun h => ?_, fun h0 => ⟨fun h => ?_, fun h1 => ⟨fun h => ?_, fun h2 => ⟨fun h => ?_, fun h3 => ⟨fun h => ?_, fun h4 => ⟨fun h => ?_, fun h5 => ⟨fun h => ?_, fun h6 => ⟨fun h => ?_, fun h7 => ⟨fun h => ?_, fun h8 => ?_⟩⟩⟩⟩⟩⟩⟩⟩⟩
  · refine b_M_count_52 ?_
    rw [if_pos h] at hQ0
    rw [show vi 96 0 = nI (cN (aCu A)) from hA.V.1]; exact hQ0
  · refine b_M_count_59 ?_
    rw [if_neg h0, if_pos h] at hQ0
    rw [show vi 96 1 = nI (cL (aCu A)) from hA.V.2.1]; exact hQ0
  · refine b_M_count_66 ?_
    rw [if_neg h0, if_neg h1, if_pos h] at hQ0
    rw [hA.2.2.1.2]; exact hQ0
  · refine b_M_count_71 ?_
    rw [if_neg h0, if_neg h1, if_neg h2, if_pos h] at hQ0
    refine c_M_yearsThat hv hA.V ?_
    have := ysT_32 (c := aCu A) (s := 2) h5'
    refine b_M_count_76 ?_
    refine c_M_ones (by omega) ?_
    refine b_M_count_79 ?_
    exact hQ0
  · refine b_M_count_80 ?_
    simp only [if_neg h0, if_neg h1, if_neg h2, if_neg h3, if_pos h] at hQ
    refine a_plays hW.2.2.1.p hA.V hA.w (fun w ho hP => ?_)
    refine b_M_count_84 ?_
    refine c_M_happening hv hP ?_
    have := ysS_32 (c := aCu A) h5'
    refine b_M_count_88 ?_
    refine c_M_ones (by omega) ?_
    refine b_M_count_91 ?_
    exact hQ w ho
  · refine b_M_count_92 ?_
    rw [if_neg h0, if_neg h1, if_neg h2, if_neg h3, if_neg h4, if_pos h] at hQ0
    refine c_M_barsMany hv hA.V ?_
    refine b_M_count_96 ?_
    exact hQ0
  · refine b_M_count_97 ?_
    rw [if_neg h0, if_neg h1, if_neg h2, if_neg h3, if_neg h4, if_neg h5, if_pos h] at hQ0
    refine c_M_thereOf (a := 99) (n := 6) (p := fun r => !decide (aRs A r = -1)) (by decide) rfl (by decide) (fun r hr => ?_) ?_
    · rw [(hA.1 r hr).1]
      rcases sz_or (hW.1 r hr) (by omega) with ⟨p1, p2, p3⟩ | ⟨m, hm, p1, p2, p3, p4⟩
      · simp [p1]
      · simp [p2, p4]
    · refine b_M_count_106 ?_
      exact hQ0
  · refine b_M_count_107 ?_
    rw [if_neg h0, if_neg h1, if_neg h2, if_neg h3, if_neg h4, if_neg h5, if_neg h6, if_pos h] at hQ0
    refine c_M_thereOf (a := 101) (n := 4) (p := fun r => !decide (aTs A r = -1)) (by decide) rfl (by decide) (fun r hr => ?_) ?_
    · rw [(hA.2.1 r hr).1]
      rcases sz_or (hW.2.1 r hr) (by omega) with ⟨p1, p2, p3⟩ | ⟨m, hm, p1, p2, p3, p4⟩
      · simp [p1]
      · simp [p2, p4]
    · refine b_M_count_115 ?_
      exact hQ0
  · refine b_M_count_116 ?_
    rw [if_neg h0, if_neg h1, if_neg h2, if_neg h3, if_neg h4, if_neg h5, if_neg h6, if_neg h7, if_pos h] at hQ0
    refine c_M_thereOf (a := 97) (n := 3) (p := fun k => (aKp A k).isSome) (by decide) rfl (by decide) (fun r hr => ?_) ?_
    · have hk := hA.2.2.2.1 r hr
      cases he : aKp A r with
      | none => rw [he] at hk; have hk : vi 97 r = -1 := hk; rw [hk]; decide
      | some c =>
        rw [he] at hk
        have ht := (hW.2.2.2.1 r c hr he).1.2.2.1
        rw [hk.1]
        exact ⟨fun _ => rfl, fun _ => nI_pos' (by omega)⟩
    · refine b_M_count_124 ?_
      exact hQ0
  · show wp X (d + 4) k_M_count 0 0 125 _ _ _ _
    refine b_M_count_125 ?_
    rw [if_neg h0, if_neg h1, if_neg h2, if_neg h3, if_neg h4, if_neg h5, if_neg h6, if_neg h7, if_neg h8] at hQ0
    exact hQ0
theorem m_count {what : Int32} (hW : wfA A) (hA : AbM A vi vl) (hQ : PM vi vl post (cntT A what, A)) : CallOk X (d + 4) 0 0 k_M_count [.ref 95, .int what] (mk vi vl) post := c_M_count hW hA (fun w ho => hQ _ _ (AbM_sc hW hA (sc_45 ho) rfl rfl) (smC_sc (sc_45 ho)))
theorem c_M_mix {v : Int64} (hQ : post none (mk vi (up2 vl 95 19 (31 * vl 95 19 + v)))) : CallOk X (d + 1) 0 0 k_M_mix [.ref 95, .long v] (mk vi vl) post := by
  refine CallOk.intro (by decide +kernel) rfl (Nat.le_of_ble_eq_true rfl) ?_
  refine b_M_mix_0 (fun w0 hw0 => b_M_mix_14 ?_)
  rw [hw0]; exact hQ
end S66
