/-! the reference: year, law, mark, happens, by, broken -/
section S58
variable {X : aX} {d : Nat} {vi : Nat → Nat → Int32} {vl : Nat → Nat → Int64} {post : aO} {A : aA} {c : Cl}
theorem sc_45 {w : Nat → Nat → Int32} (h : ∀ j, j ≠ 104 → j ≠ 105 → w j = vi j) : scM vi w := ⟨fun j hj => h j (by omega) (by omega), fun k _ _ => by rw [h 95 (by decide) (by decide)], fun k _ => by rw [h 96 (by decide) (by decide)]⟩
theorem a_plays (hw : wfP c) (hV : MV c 0 (vi 96)) (h16 : vi 95 16 = -9) (hQ : ∀ w, (∀ j, j ≠ 104 → j ≠ 105 → w j = vi j) → Pld c w → post none (mk w vl)) : CallOk X (d + 3) 0 0 k_M_plays [.ref 95] (mk vi vl) post := by
  have h8 := hw.1.2.1
  refine c_M_plays hw hV (fun w ho hp => hQ w ho ⟨by rw [ho 96 (by decide) (by decide)]; exact hV, fun y hy => ?_⟩)
  rw [h16] at hp
  rw [(hp y hy).1, (hp y hy).2, (woC_9 h8 y).1, (woC_9 h8 y).2]; exact ⟨rfl, rfl⟩
theorem AbM.V (h : AbM A vi vl) : MV (aCu A) 0 (vi 96) := h.2.2.1.1.1
theorem AbM.w (h : AbM A vi vl) : vi 95 16 = -9 := h.2.2.2.2.2.2
theorem c_M_yearTells {y : Nat} {what : Int32} (hw : wfV c) (hP : Pld c vi) (hy : y < cN c) (hQ : post (some (.int (yrT c y what))) (mk vi vl)) : CallOk X (d + 1) 0 0 k_M_yearTells [.ref 95, .int (nI y), .int what] (mk vi vl) post := by
  refine CallOk.intro (by decide +kernel) rfl (Nat.le_of_ble_eq_true rfl) ?_
  have hn5 := hw.1
  obtain ⟨e1, e2⟩ := hP.1.y hy
  have cy : (nI y).toNatClampNeg = y := nI_clamp (by omega)
  have vy : vp_in (nI y) 5 := vp_in_nI (by omega) (by omega)
  have i2 : (2 + nI y).toNatClampNeg = 2 + y := by rw [ix2]; exact nI_clamp (by omega)
  have i7 : (7 + nI y).toNatClampNeg = 7 + y := by rw [ix7]; exact nI_clamp (by omega)
  have v2 : vp_in (2 + nI y) 5976 := by rw [ix2]; exact vp_in_nI (by omega) (by omega)
  have v7 : vp_in (7 + nI y) 5976 := by rw [ix7]; exact vp_in_nI (by omega) (by omega)
  unfold yrT at hQ
  by_cases h0 : what = 0
  · rw [if_pos h0] at hQ
    refine b_M_yearTells_0 (fun h0 => absurd h0 (by first | decide | assumption | omega | simp_all)) (fun h0 => b_M_yearTells_4 (by first | assumption | decide | (refine vp_in_nI ?_ ?_ <;> omega) | omega | simp_all) (b_M_yearTells_38 ?_))
    rw [i2, e1]; exact hQ
  · rw [if_neg h0] at hQ
    by_cases h1 : what = 1
    · rw [if_pos h1] at hQ
      refine b_M_yearTells_0 (fun h0 => b_M_yearTells_15 (fun h15 => absurd h15 (by first | decide | assumption | omega | simp_all)) (fun h15 => b_M_yearTells_20 (by first | assumption | decide | (refine vp_in_nI ?_ ?_ <;> omega) | omega | simp_all) (b_M_yearTells_38 ?_))) (fun h0 => absurd h0 (by first | decide | assumption | omega | simp_all))
      rw [i7, e2]; exact hQ
    · rw [if_neg h1] at hQ
      refine b_M_yearTells_0 (fun h0 => b_M_yearTells_15 (fun h15 => b_M_yearTells_32 (by first | assumption | decide | (refine vp_in_nI ?_ ?_ <;> omega) | omega | simp_all) (b_M_yearTells_38 ?_)) (fun h15 => absurd h15 (by first | decide | assumption | omega | simp_all))) (fun h0 => absurd h0 (by first | decide | assumption | omega | simp_all))
      rw [cy, (hP.2 y hy).1]; exact hQ
theorem c_M_lawTells {k : Nat} {what : Nat} (hw : wfV c) (hP : Pld c vi) (hk : k < cL c) (h4 : what < 4) (hQ : post (some (.int (lwT c k (nI what)))) (mk vi vl)) : CallOk X (d + 3) 0 0 k_M_lawTells [.ref 95, .int (nI k), .int (nI what)] (mk vi vl) post := by
  refine CallOk.intro (by decide +kernel) rfl (Nat.le_of_ble_eq_true rfl) ?_
  have h8 := hw.2.1
  obtain ⟨e1, e2, e3⟩ := hP.1.l hk
  have ei : (12 : Int32) + 8 * nI what + nI k = nI (12 + 8 * what + k) := by rw [show (12 : Int32) = nI 12 from rfl, show (8 : Int32) = nI 8 from rfl, nI_mul, nI_add, nI_add]
  by_cases h3 : 3 ≤ what
  · have hw3 : what = 3 := by omega
    subst hw3
    have g : ¬ ¬ (3 : Int32) ≤ nI 3 := by decide
    have e : lwT c k (nI 3) = bI (bro c k) := rfl
    rw [e] at hQ
    refine b_M_lawTells_0 (fun h0 => b_M_lawTells_22 ?_) (fun h0 => absurd h0 (by first | decide | assumption | omega | simp_all))
    refine c_M_isBroken hw hP hk ?_
    cases hb : bro c k
    · rw [hb] at hQ
      refine b_M_lawTells_27 (fun h27 => b_M_lawTells_34 (b_M_lawTells_35 ?_)) (fun h27 => absurd h27 (by first | decide | assumption | omega | simp_all))
      exact hQ
    · rw [hb] at hQ
      refine b_M_lawTells_27 (fun h27 => absurd h27 (by first | decide | assumption | omega | simp_all)) (fun h27 => b_M_lawTells_30 (b_M_lawTells_35 ?_))
      exact hQ
  · have g : ¬ (3 : Int32) ≤ nI what := nI_ge (a := what) (b := 3) (by omega) (by omega)
    have v1 : vp_in (12 + 8 * nI what + nI k) 5976 := by rw [ei]; exact vp_in_nI (by omega) (by omega)
    refine b_M_lawTells_0 (fun h0 => absurd h0 (by first | decide | assumption | omega | simp_all)) (fun h0 => b_M_lawTells_5 (by first | assumption | decide | (refine vp_in_nI ?_ ?_ <;> omega) | omega | simp_all) (b_M_lawTells_35 ?_))
    rw [ei, nI_clamp (by omega)]
    rcases (show what = 0 ∨ what = 1 ∨ what = 2 by omega) with rfl | rfl | rfl
    · rw [show 12 + 8 * 0 + k = 12 + k by omega, e1]; exact hQ
    · rw [show 12 + 8 * 1 + k = 20 + k by omega, e2]; exact hQ
    · rw [show 12 + 8 * 2 + k = 28 + k by omega, e3]; exact hQ
theorem m_year {y what : Int32} (hW : wfA A) (hA : AbM A vi vl) (hQ : PM vi vl post (oYear A y what)) : CallOk X (d + 4) 0 0 k_M_year [.ref 95, .int y, .int what] (mk vi vl) post := by
  refine CallOk.intro (by decide +kernel) rfl (Nat.le_of_ble_eq_true rfl) ?_
  unfold oYear at hQ
  have h5 := hW.N5
  refine b_M_year_0 ?_
  refine c_M_isYear hA.V h5 ?_
  by_cases hy : vp_in y (cN (aCu A))
  · rw [inB_t hy] at hQ ⊢
    obtain ⟨j, hj, rfl⟩ := vp_in_of hy (by omega)
    have cj : (nI j).toNatClampNeg = j := nI_clamp (by omega)
    refine b_M_year_5 (fun h5 => absurd h5 (by first | decide | assumption | omega | simp_all)) (fun h5 => b_M_year_8 ?_)
    refine c_M_in ?_
    rw [show (2 : Int64) = lN 2 from rfl, inK (by omega)]
    by_cases hb : inB what 3 = true
    · rw [hb, if_pos ⟨rfl, rfl⟩, cj] at hQ
      rw [hb]
      refine b_M_year_17 (fun h17 => b_M_year_22 ?_) (fun h17 => absurd h17 (by first | decide | assumption | omega | simp_all))
      refine a_plays hW.2.2.1.p hA.V hA.w (fun w ho hP => ?_)
      refine b_M_year_26 ?_
      refine c_M_yearTells hW.2.2.1.v hP hj ?_
      refine b_M_year_33 ?_
      refine c_M_tells ?_
      refine b_M_year_37 ?_
      have hs := sc_45 ho
      exact hQ _ _ (AbM_ak hW (AbM_sc hW hA hs rfl rfl) _) (smC_tr (smC_sc hs) (smC_of fun q hq => up2_n (by omega)))
    · have hb := Bool.eq_false_iff.mpr hb
      rw [hb, if_neg (fun q => by cases q.2)] at hQ
      rw [hb]
      refine b_M_year_17 (fun h17 => absurd h17 (by first | decide | assumption | omega | simp_all)) (fun h17 => b_M_year_20 ?_)
      exact hQ _ _ hA smC_rf
  · rw [inB_f hy] at hQ ⊢
    rw [if_neg (fun q => by cases q.1)] at hQ
    refine b_M_year_5 (fun h5 => b_M_year_20 ?_) (fun h5 => absurd h5 (by first | decide | assumption | omega | simp_all))
    exact hQ _ _ hA smC_rf
theorem m_law {y what : Int32} (hW : wfA A) (hA : AbM A vi vl) (hQ : PM vi vl post (oLaw A y what)) : CallOk X (d + 4) 0 0 k_M_law [.ref 95, .int y, .int what] (mk vi vl) post := by
  refine CallOk.intro (by decide +kernel) rfl (Nat.le_of_ble_eq_true rfl) ?_
  unfold oLaw at hQ
  have h5 := hW.L8
  refine b_M_law_0 ?_
  refine c_M_isLaw hA.V h5 ?_
  by_cases hy : vp_in y (cL (aCu A))
  · rw [inB_t hy] at hQ ⊢
    obtain ⟨j, hj, rfl⟩ := vp_in_of hy (by omega)
    have cj : (nI j).toNatClampNeg = j := nI_clamp (by omega)
    refine b_M_law_5 (fun h5 => absurd h5 (by first | decide | assumption | omega | simp_all)) (fun h5 => b_M_law_8 ?_)
    refine c_M_in ?_
    rw [show (3 : Int64) = lN 3 from rfl, inK (by omega)]
    by_cases hb : vp_in what 4
    · rw [inB_t hb, if_pos ⟨rfl, rfl⟩, cj] at hQ
      rw [inB_t hb]
      obtain ⟨q, hq4, rfl⟩ := vp_in_of hb (by omega)
      refine b_M_law_17 (fun h17 => b_M_law_22 ?_) (fun h17 => absurd h17 (by first | decide | assumption | omega | simp_all))
      refine a_plays hW.2.2.1.p hA.V hA.w (fun w ho hP => ?_)
      refine b_M_law_26 ?_
      refine c_M_lawTells hW.2.2.1.v hP hj hq4 ?_
      refine b_M_law_33 ?_
      refine c_M_tells ?_
      refine b_M_law_37 ?_
      have hs := sc_45 ho
      exact hQ _ _ (AbM_ak hW (AbM_sc hW hA hs rfl rfl) _) (smC_tr (smC_sc hs) (smC_of fun q hq => up2_n (by omega)))
    · rw [inB_f hb, if_neg (fun q => by cases q.2)] at hQ
      rw [inB_f hb]
      refine b_M_law_17 (fun h17 => absurd h17 (by first | decide | assumption | omega | simp_all)) (fun h17 => b_M_law_20 ?_)
      exact hQ _ _ hA smC_rf
  · rw [inB_f hy] at hQ ⊢
    rw [if_neg (fun q => by cases q.1)] at hQ
    refine b_M_law_5 (fun h5 => b_M_law_20 ?_) (fun h5 => absurd h5 (by first | decide | assumption | omega | simp_all))
    exact hQ _ _ hA smC_rf
theorem m_by {y : Int32} (hW : wfA A) (hA : AbM A vi vl) (hQ : PM vi vl post (oBy A y)) : CallOk X (d + 4) 0 0 k_M_by [.ref 95, .int y] (mk vi vl) post := by
  refine CallOk.intro (by decide +kernel) rfl (Nat.le_of_ble_eq_true rfl) ?_
  unfold oBy at hQ
  have h5 := hW.N5
  refine b_M_by_0 ?_
  refine c_M_isYear hA.V h5 ?_
  by_cases hy : vp_in y (cN (aCu A))
  · rw [inB_t hy] at hQ ⊢
    rw [if_pos rfl] at hQ
    obtain ⟨j, hj, rfl⟩ := vp_in_of hy (by omega)
    have cj : (nI j).toNatClampNeg = j := nI_clamp (by omega)
    have vj : vp_in (nI j) 5 := vp_in_nI (by omega) (by omega)
    refine b_M_by_5 (fun h5 => b_M_by_10 ?_) (fun h5 => absurd h5 (by first | decide | assumption | omega | simp_all))
    refine a_plays hW.2.2.1.p hA.V hA.w (fun w ho hP => ?_)
    refine b_M_by_14 (by first | assumption | decide | (refine vp_in_nI ?_ ?_ <;> omega) | omega | simp_all) ?_
    rw [cj] at hQ ⊢
    rw [(hP.2 j hj).2]
    have hs := sc_45 ho
    exact hQ _ _ (AbM_sc hW hA hs rfl rfl) (smC_sc hs)
  · rw [inB_f hy] at hQ ⊢
    rw [if_neg (fun q => by cases q)] at hQ
    refine b_M_by_5 (fun h5 => absurd h5 (by first | decide | assumption | omega | simp_all)) (fun h5 => b_M_by_8 ?_)
    exact hQ _ _ hA smC_rf
theorem m_happens {s : Int32} (hW : wfA A) (hA : AbM A vi vl) (hQ : PM vi vl post (oHappens A s)) : CallOk X (d + 4) 0 0 k_M_happens [.ref 95, .int s] (mk vi vl) post := by
  refine CallOk.intro (by decide +kernel) rfl (Nat.le_of_ble_eq_true rfl) ?_
  unfold oHappens at hQ
  refine b_M_happens_0 ?_
  refine c_M_isTold ?_
  by_cases hy : vp_in s 5
  · rw [inB_t hy] at hQ ⊢
    rw [if_pos rfl] at hQ
    refine b_M_happens_4 (fun h4 => b_M_happens_9 ?_) (fun h4 => absurd h4 (by first | decide | assumption | omega | simp_all))
    refine a_plays hW.2.2.1.p hA.V hA.w (fun w ho hP => ?_)
    refine b_M_happens_13 ?_
    refine c_M_yearsOf hW.2.2.1.v hP ?_
    refine b_M_happens_19 ?_
    refine c_M_yearsOf hW.2.2.1.v hP ?_
    have := ysW_32 (c := aCu A) (s := s) hW.N5
    refine b_M_happens_24 ?_
    refine c_M_ones (by omega) ?_
    refine b_M_happens_27 ?_
    refine c_M_tells ?_
    refine b_M_happens_30 ?_
    have hs := sc_45 ho
    exact hQ _ _ (AbM_ak hW (AbM_sc hW hA hs rfl rfl) _) (smC_tr (smC_sc hs) (smC_of fun q hq => up2_n (by omega)))
  · rw [inB_f hy] at hQ ⊢
    rw [if_neg (fun q => by cases q)] at hQ
    refine b_M_happens_4 (fun h4 => absurd h4 (by first | decide | assumption | omega | simp_all)) (fun h4 => b_M_happens_7 ?_)
    exact hQ _ _ hA smC_rf
theorem m_mark {k kind : Int32} (hW : wfA A) (hA : AbM A vi vl) (hQ : PM vi vl post (oMark A k kind)) : CallOk X (d + 4) 0 0 k_M_mark [.ref 95, .int k, .int kind] (mk vi vl) post := by
  refine CallOk.intro (by decide +kernel) rfl (Nat.le_of_ble_eq_true rfl) ?_
  unfold oMark at hQ
  have h8 := hW.L8
  have h5' := hW.N5
  have hv := hW.2.2.1.v
  have t0 : (0 : Int32).toInt = 0 := rfl
  have t6 : (6 : Int32).toInt = 6 := rfl
  refine b_M_mark_0 ?_
  refine c_M_isLaw hA.V h8 ?_
  by_cases hy : vp_in k (cL (aCu A))
  · rw [inB_t hy] at hQ ⊢
    obtain ⟨j, hj, rfl⟩ := vp_in_of hy (by omega)
    have cj : (nI j).toNatClampNeg = j := nI_clamp (by omega)
    rw [cj] at hQ
    refine b_M_mark_5 (fun h5 => absurd h5 (by first | decide | assumption | omega | simp_all)) (fun h5 => b_M_mark_8 ?_)
    refine c_M_in ?_
    rw [Int32.toInt_toInt64, show (1 : Int64).toInt = 1 from rfl, show (5 : Int64).toInt = 5 from rfl]
    by_cases hb : 1 ≤ kind.toInt ∧ kind.toInt ≤ 5
    · rw [if_pos ⟨rfl, by rw [Int32.lt_iff_toInt_lt]; omega, by rw [Int32.lt_iff_toInt_lt]; omega⟩] at hQ
      rw [decide_eq_true hb]
      obtain ⟨q, hq, rfl⟩ := nI_of (x := kind) (fun r => by rw [Int32.lt_iff_toInt_lt] at r; omega)
      rw [nI_toInt hq] at hb
      obtain ⟨eK, eC, eE⟩ := hA.V.l hj
      have i12 : (12 + nI j).toNatClampNeg = 12 + j := by rw [ix12]; exact nI_clamp (by omega)
      have v12 : vp_in (12 + nI j) 5976 := by rw [ix12]; exact vp_in_nI (by omega) (by omega)
      have e12 : vi 96 (12 + nI j).toNatClampNeg = cK (aCu A) j := by rw [i12]; exact eK
      rw [isK_3 (hv.2.2 j hj) q (by omega) (by omega)] at hQ
      have qe : ∀ m, m < 6 → ((nI q = nI m) ↔ q = m) := fun m hm => nI_eq (by omega) (by omega)
      have body : ∀ x3, PM vi vl post (mkT (aCu A) j (nI q), A) → wp X (d + 4) k_M_mark 0 0 63 [some (.ref 95), some (.int (nI j)), some (.int (nI q)), some (.int x3), none, none] [] (mk vi vl) post := by
        intro x3 hQ
        have i20 : (20 + nI j).toNatClampNeg = 20 + j := by rw [ix20]; exact nI_clamp (by omega)
        have i28 : (28 + nI j).toNatClampNeg = 28 + j := by rw [ix28]; exact nI_clamp (by omega)
        have v20 : vp_in (20 + nI j) 5976 := by rw [ix20]; exact vp_in_nI (by omega) (by omega)
        have v28 : vp_in (28 + nI j) 5976 := by rw [ix28]; exact vp_in_nI (by omega) (by omega)
        refine b_M_mark_63 ?_
        refine a_plays hW.2.2.1.p hA.V hA.w (fun w ho hP => ?_)
        have hs := sc_45 ho
        have hA2 : AbM A w vl := AbM_sc hW hA hs rfl rfl
        have e96 : w 96 = vi 96 := ho 96 (by decide) (by decide)
        replace hQ := hQ _ _ hA2 (smC_sc hs)
        unfold mkT at hQ
        refine b_M_mark_67 (by first | assumption | decide | (refine vp_in_nI ?_ ?_ <;> omega) | omega | simp_all) ?_
        rw [i20, e96, eC]
        refine c_M_yearsOf hv hP ?_
        refine b_M_mark_80 (by first | assumption | decide | (refine vp_in_nI ?_ ?_ <;> omega) | omega | simp_all) ?_
        rw [i28, e96, eE]
        refine c_M_yearsOf hv hP ?_
        have h1 := ysW_32 (c := aCu A) (s := cC (aCu A) j) h5'
        have h2 := ysW_32 (c := aCu A) (s := cEn (aCu A) j) h5'
        refine b_M_mark_95 ?_
        refine ⟨fun h => ?_, fun g1 => ⟨fun h => ?_, fun g2 => ⟨fun h => ?_, fun g3 => ⟨fun h => ?_, fun g4 => ?_⟩⟩⟩⟩
        · refine b_M_mark_128 ?_
          rw [nI_or _ h1 _ h2]
          have := or_32 h1 h2
          refine c_M_ones (by omega) ?_
          refine b_M_mark_136 ?_
          rw [if_pos h] at hQ
          exact hQ
        · refine b_M_mark_137 ?_
          refine c_M_yearsThat hv hP.1 ?_
          have h3 := ysT_32 (c := aCu A) (s := 2) h5'
          refine b_M_mark_144 ?_
          rw [nI_and _ h2 _ h3]
          have := and_32 (b := ysT (aCu A) 2) h2
          refine c_M_ones (by omega) ?_
          refine b_M_mark_148 ?_
          rw [if_neg g1, if_pos h] at hQ
          exact hQ
        · refine b_M_mark_149 ?_
          refine c_M_ones (by omega) ?_
          refine b_M_mark_154 ?_
          rw [if_neg g1, if_neg g2, if_pos h] at hQ
          exact hQ
        · rw [if_neg g1, if_neg g2, if_neg g3, if_pos h] at hQ
          have q1 : (nI (ysW (aCu A) (cC (aCu A) j)) = 0) ↔ ysW (aCu A) (cC (aCu A) j) = 0 := nI_eq (b := 0) (by omega) (by omega)
          have q2 : (nI (ysW (aCu A) (cEn (aCu A) j)) = 0) ↔ ysW (aCu A) (cEn (aCu A) j) = 0 := nI_eq (b := 0) (by omega) (by omega)
          by_cases z1 : ysW (aCu A) (cC (aCu A) j) = 0
          · have y1 : ¬ ¬ nI (ysW (aCu A) (cC (aCu A) j)) = 0 := fun r => r (q1.mpr z1)
            by_cases z2 : ysW (aCu A) (cEn (aCu A) j) = 0
            · have y2 : ¬ ¬ nI (ysW (aCu A) (cEn (aCu A) j)) = 0 := fun r => r (q2.mpr z2)
              refine b_M_mark_155 (fun h155 => absurd h155 (by first | decide | assumption | omega | simp_all)) (fun h155 => b_M_mark_160 (b_M_mark_165 (fun h165 => absurd h165 (by first | decide | assumption | omega | simp_all)) (fun h165 => b_M_mark_170 (b_M_mark_175 (fun h175 => b_M_mark_182 (b_M_mark_183 ?_)) (fun h175 => absurd h175 (by first | decide | assumption | omega | simp_all))))))
              simp only [z1, z2] at hQ
              exact hQ
            · have y2 : ¬ nI (ysW (aCu A) (cEn (aCu A) j)) = 0 := fun r => z2 (q2.mp r)
              refine b_M_mark_155 (fun h155 => absurd h155 (by first | decide | assumption | omega | simp_all)) (fun h155 => b_M_mark_160 (b_M_mark_165 (fun h165 => b_M_mark_174 (b_M_mark_175 (fun h175 => absurd h175 (by first | decide | assumption | omega | simp_all)) (fun h175 => b_M_mark_178 (b_M_mark_183 ?_)))) (fun h165 => absurd h165 (by first | decide | assumption | omega | simp_all))))
              simp only [z1, z2] at hQ
              exact hQ
          · have y1 : ¬ nI (ysW (aCu A) (cC (aCu A) j)) = 0 := fun r => z1 (q1.mp r)
            by_cases z2 : ysW (aCu A) (cEn (aCu A) j) = 0
            · have y2 : ¬ ¬ nI (ysW (aCu A) (cEn (aCu A) j)) = 0 := fun r => r (q2.mpr z2)
              refine b_M_mark_155 (fun h155 => b_M_mark_164 (b_M_mark_165 (fun h165 => absurd h165 (by first | decide | assumption | omega | simp_all)) (fun h165 => b_M_mark_170 (b_M_mark_175 (fun h175 => absurd h175 (by first | decide | assumption | omega | simp_all)) (fun h175 => b_M_mark_178 (b_M_mark_183 ?_)))))) (fun h155 => absurd h155 (by first | decide | assumption | omega | simp_all))
              simp only [z1, z2] at hQ
              exact hQ
            · have y2 : ¬ nI (ysW (aCu A) (cEn (aCu A) j)) = 0 := fun r => z2 (q2.mp r)
              refine b_M_mark_155 (fun h155 => b_M_mark_164 (b_M_mark_165 (fun h165 => b_M_mark_174 (b_M_mark_175 (fun h175 => b_M_mark_182 (b_M_mark_183 ?_)) (fun h175 => absurd h175 (by first | decide | assumption | omega | simp_all)))) (fun h165 => absurd h165 (by first | decide | assumption | omega | simp_all)))) (fun h155 => absurd h155 (by first | decide | assumption | omega | simp_all))
              simp only [z1, z2] at hQ
              exact hQ
        · show wp X (d + 4) k_M_mark 0 0 184 _ _ _ _
          refine b_M_mark_184 ?_
          refine c_M_yearsThat hv hP.1 ?_
          have h3 := ysT_32 (c := aCu A) (s := 0) h5'
          refine b_M_mark_191 ?_
          rw [nI_and _ h2 _ h3]
          have := and_32 (b := ysT (aCu A) 0) h2
          refine c_M_ones (by omega) ?_
          refine b_M_mark_195 ?_
          rw [if_neg g1, if_neg g2, if_neg g3, if_neg g4] at hQ
          exact hQ
      have q1 := qe 1 (by omega)
      have q3 := qe 3 (by omega)
      by_cases hK : cK (aCu A) j = nI q
      · rw [decide_eq_true hK, Bool.true_or, Bool.true_or, if_pos rfl] at hQ
        have g1 : ¬ ¬ vi 96 (12 + nI j).toNatClampNeg = nI q := fun r => r (by rw [e12]; exact hK)
        refine b_M_mark_17 (fun h17 => b_M_mark_22 (by first | assumption | decide | (refine vp_in_nI ?_ ?_ <;> omega) | omega | simp_all) (fun h22 => ?_) (fun h22 => absurd h22 (by first | decide | assumption | omega | simp_all))) (fun h17 => absurd h17 (by first | decide | assumption | omega | simp_all))
        exact body _ hQ
      · rw [decide_eq_false hK, Bool.false_or] at hQ
        have g1 : ¬ vi 96 (12 + nI j).toNatClampNeg = nI q := by rw [e12]; exact hK
        by_cases hq1 : q = 1
        · have y1 : ¬ ¬ nI q = 1 := fun r => r (q1.mpr hq1)
          have hq3 : ¬ q = 3 := by omega
          have y3 : ¬ nI q = 3 := fun r => hq3 (q3.mp r)
          rw [decide_eq_true hq1, decide_eq_false hq3, Bool.true_and, Bool.false_and, Bool.or_false] at hQ
          by_cases h4 : cK (aCu A) j = 4
          · have g2 : ¬ ¬ vi 96 (12 + nI j).toNatClampNeg = 4 := fun r => r (by rw [e12]; exact h4)
            rw [decide_eq_true h4, if_pos rfl] at hQ
            refine b_M_mark_17 (fun h17 => b_M_mark_22 (by first | assumption | decide | (refine vp_in_nI ?_ ?_ <;> omega) | omega | simp_all) (fun h22 => absurd h22 (by first | decide | assumption | omega | simp_all)) (fun h22 => b_M_mark_37 (fun h37 => absurd h37 (by first | decide | assumption | omega | simp_all)) (fun h37 => b_M_mark_42 (fun h42 => ?_) (fun h42 => absurd h42 (by first | decide | assumption | omega | simp_all))))) (fun h17 => absurd h17 (by first | decide | assumption | omega | simp_all))
            exact body _ hQ
          · have g2 : ¬ vi 96 (12 + nI j).toNatClampNeg = 4 := by rw [e12]; exact h4
            rw [decide_eq_false h4, if_neg (fun r => by cases r)] at hQ
            refine b_M_mark_17 (fun h17 => b_M_mark_22 (by first | assumption | decide | (refine vp_in_nI ?_ ?_ <;> omega) | omega | simp_all) (fun h22 => absurd h22 (by first | decide | assumption | omega | simp_all)) (fun h22 => b_M_mark_37 (fun h37 => absurd h37 (by first | decide | assumption | omega | simp_all)) (fun h37 => b_M_mark_42 (fun h42 => absurd h42 (by first | decide | assumption | omega | simp_all)) (fun h42 => b_M_mark_47 (fun h47 => b_M_mark_57 ?_) (fun h47 => absurd h47 (by first | decide | assumption | omega | simp_all)))))) (fun h17 => absurd h17 (by first | decide | assumption | omega | simp_all))
            refine c_M_found (f := 3) (by decide) ?_
            refine b_M_mark_62 ?_
            exact hQ _ _ (AbM_fd hW hA (by decide)) (smC_of fun j hj => fd_o hj)
        · have y1 : ¬ nI q = 1 := fun r => hq1 (q1.mp r)
          rw [decide_eq_false hq1, Bool.false_and, Bool.false_or] at hQ
          by_cases hq3 : q = 3
          · have y3 : ¬ ¬ nI q = 3 := fun r => r (q3.mpr hq3)
            rw [decide_eq_true hq3, Bool.true_and] at hQ
            by_cases h4 : cK (aCu A) j = 5
            · have g2 : ¬ ¬ vi 96 (12 + nI j).toNatClampNeg = 5 := fun r => r (by rw [e12]; exact h4)
              rw [decide_eq_true h4, if_pos rfl] at hQ
              refine b_M_mark_17 (fun h17 => b_M_mark_22 (by first | assumption | decide | (refine vp_in_nI ?_ ?_ <;> omega) | omega | simp_all) (fun h22 => absurd h22 (by first | decide | assumption | omega | simp_all)) (fun h22 => b_M_mark_37 (fun h37 => b_M_mark_47 (fun h47 => absurd h47 (by first | decide | assumption | omega | simp_all)) (fun h47 => b_M_mark_52 (fun h52 => ?_) (fun h52 => absurd h52 (by first | decide | assumption | omega | simp_all)))) (fun h37 => absurd h37 (by first | decide | assumption | omega | simp_all)))) (fun h17 => absurd h17 (by first | decide | assumption | omega | simp_all))
              exact body _ hQ
            · have g2 : ¬ vi 96 (12 + nI j).toNatClampNeg = 5 := by rw [e12]; exact h4
              rw [decide_eq_false h4, if_neg (fun r => by cases r)] at hQ
              refine b_M_mark_17 (fun h17 => b_M_mark_22 (by first | assumption | decide | (refine vp_in_nI ?_ ?_ <;> omega) | omega | simp_all) (fun h22 => absurd h22 (by first | decide | assumption | omega | simp_all)) (fun h22 => b_M_mark_37 (fun h37 => b_M_mark_47 (fun h47 => absurd h47 (by first | decide | assumption | omega | simp_all)) (fun h47 => b_M_mark_52 (fun h52 => absurd h52 (by first | decide | assumption | omega | simp_all)) (fun h52 => b_M_mark_57 ?_))) (fun h37 => absurd h37 (by first | decide | assumption | omega | simp_all)))) (fun h17 => absurd h17 (by first | decide | assumption | omega | simp_all))
              refine c_M_found (f := 3) (by decide) ?_
              refine b_M_mark_62 ?_
              exact hQ _ _ (AbM_fd hW hA (by decide)) (smC_of fun j hj => fd_o hj)
          · have y3 : ¬ nI q = 3 := fun r => hq3 (q3.mp r)
            rw [decide_eq_false hq3, Bool.false_and, if_neg (fun r => by cases r)] at hQ
            refine b_M_mark_17 (fun h17 => b_M_mark_22 (by first | assumption | decide | (refine vp_in_nI ?_ ?_ <;> omega) | omega | simp_all) (fun h22 => absurd h22 (by first | decide | assumption | omega | simp_all)) (fun h22 => b_M_mark_37 (fun h37 => b_M_mark_47 (fun h47 => b_M_mark_57 ?_) (fun h47 => absurd h47 (by first | decide | assumption | omega | simp_all))) (fun h37 => absurd h37 (by first | decide | assumption | omega | simp_all)))) (fun h17 => absurd h17 (by first | decide | assumption | omega | simp_all))
            refine c_M_found (f := 3) (by decide) ?_
            refine b_M_mark_62 ?_
            exact hQ _ _ (AbM_fd hW hA (by decide)) (smC_of fun j hj => fd_o hj)
    · rw [if_neg (fun r => hb (by have r1 := r.2.1; have r2 := r.2.2; rw [Int32.lt_iff_toInt_lt] at r1 r2; omega))] at hQ
      rw [decide_eq_false hb]
      refine b_M_mark_17 (fun h17 => absurd h17 (by first | decide | assumption | omega | simp_all)) (fun h17 => b_M_mark_20 ?_)
      exact hQ _ _ hA smC_rf
  · rw [inB_f hy] at hQ ⊢
    rw [if_neg (fun q => by cases q.1)] at hQ
    refine b_M_mark_5 (fun h5 => b_M_mark_20 ?_) (fun h5 => absurd h5 (by first | decide | assumption | omega | simp_all))
    exact hQ _ _ hA smC_rf
end S58
