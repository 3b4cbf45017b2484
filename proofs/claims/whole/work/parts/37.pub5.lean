/-! what was there, and a plan judged -/
section S37
variable {X : aX} {d : Nat} {vi : Nat → Nat → Int32} {vl : Nat → Nat → Int64} {post : aO} {A : aA}
theorem or_0b {p : Nat → Bool} {s : Nat} (hs : s < 8) : nI (bb p s) ||| 0 = nI (bb p s) := or_0 _ (Nat.lt_of_lt_of_le (bb_lt _ _) (by have : 2 ^ s ≤ 2 ^ 8 := Nat.pow_le_pow_right (by decide) (by omega); simpa using this))
theorem s_was {y r : Int32} (hW : wfA A) (hA : AbC A vi vl) (hQ : PC vi vl post (oWas A y r)) : CallOk X (d + 5) 0 0 k_S_was [.ref 0, .int y, .int r] (mk vi vl) post := by
  refine CallOk.intro (by decide +kernel) rfl (Nat.le_of_ble_eq_true rfl) ?_
  unfold oWas at hQ
  have h5' := hW.N5
  refine b_S_was_0 ?_
  refine c_S_isYear hA.2.1.1.1 hW.N5 (fun hy => ?_) (fun hy => ?_)
  · rw [inB_t hy] at hQ
    obtain ⟨j, hj, rfl⟩ := vp_in_of hy (by omega)
    have cj : (nI j).toNatClampNeg = j := nI_clamp (by omega)
    have vj : vp_in (nI j) 5 := vp_in_nI (by omega) (by omega)
    refine b_S_was_5 (fun h5 => absurd h5 (by first | decide | assumption | omega | simp_all)) (fun h5 => b_S_was_8 ?_)
    refine c_S_isRow (fun hr => ?_) (fun hr => ?_)
    · rw [inB_t hr, if_pos ⟨rfl, rfl⟩, cj] at hQ
      obtain ⟨m, hm, rfl⟩ := vp_in_of hr (by decide)
      have cm : (nI m).toNatClampNeg = m := nI_clamp (by omega)
      rw [cm] at hQ
      have ew : vi 4 j = cW (aCu A) j := (hA.2.1.1.2.2.2.1 j hj).1
      by_cases h2 : cW (aCu A) j = 2
      · have g : vi 4 (nI j).toNatClampNeg = 2 := by rw [cj, ew]; exact h2
        rw [if_pos h2] at hQ
        refine b_S_was_12 (fun h12 => b_S_was_17 (by first | assumption | decide | (refine vp_in_nI ?_ ?_ <;> omega) | omega | simp_all) (fun h17 => b_S_was_33 ?_) (fun h17 => absurd h17 (by first | decide | assumption | omega | simp_all))) (fun h12 => absurd h12 (by first | decide | assumption | omega | simp_all))
        refine c_S_refuseHistory hW hA hm (fun hz => ?_) (fun f hf h1 h5 => ?_)
        · rw [if_pos hz] at hQ
          refine b_S_was_38 (fun h38 => b_S_was_45 ?_) (fun h38 => absurd h38 (by first | decide | assumption | omega | simp_all))
          refine c_C_take isCl_14 isCl_3 (by decide) (fun w1 ht => ?_)
          have hv := hW.2.2.1.v
          have hV1 := V_take hv hA.2.1.1.v ht
          refine b_S_was_56 ?_
          have key := loop_up (P := fun s => ∀ w, (∀ q, (q < 14 ∨ 24 < q) → w q = vi q) → (∃ a b, ClV (sty (aCu A) j a b) 14 w) → wp X (d + 5) k_S_was 0 0 62 [some (.ref 0), some (.int (nI j)), some (.int (nI m)), some (.int 0), some (.int (nI (bb (fun s => hpAs (sty (aCu A) j 2 (nI s)) (aRp A m)) s))), some (.int (nI s))] [] (mk w vl) post) 5 0 (by decide) ?_ ?_
          · exact key w1 (fun q hq => ht.1 q (by omega)) ⟨_, _, by rw [sty_id]; exact hV1⟩
          · intro w hw _
            have g1 : (5 : Int32) ≤ nI 5 := by decide
            refine b_S_was_62 (fun h62 => b_S_was_121 ?_) (fun h62 => absurd h62 (by first | decide | assumption | omega | simp_all))
            exact hQ _ _ (AbC_scr hW.L8 hA (fun q hq => hw q (by omega))) (smM_of fun q hq => hw q (by omega))
          · intro s _ hs ih w hw hV
            obtain ⟨a, b, hV⟩ := hV
            have g1 : ¬ (5 : Int32) ≤ nI s := nI_ge (a := s) (b := 5) hs (by omega)
            refine b_S_was_62 (fun h62 => absurd h62 (by first | decide | assumption | omega | simp_all)) (fun h62 => b_S_was_68 ?_)
            refine c_C_set isCl_14 (by omega) ?_
            have hV2 := V_set (y := j) (w := 2) (s := nI s) hV
            rw [sty_sty] at hV2
            refine b_S_was_79 ?_
            refine a_settleFrom isCl_14 (sty_v hv) hV2 (fun w2 h2 hv2 hs2 => ?_)
            have o2 : ∀ q, (q < 14 ∨ 24 < q) → w2 q = vi q := fun q hq => by rw [h2 q (by omega) (by omega), setM_o (by omega) (by omega)]; exact hw q hq
            refine b_S_was_87 (by first | assumption | decide | (refine vp_in_nI ?_ ?_ <;> omega) | omega | simp_all) ?_
            rw [cm]
            refine a_happensAs (f := aRp A m) isCl_14 (sty_v hv) hv2 hs2 (by omega) (sh_rw m hm) (by decide) (by decide) (fun x hx => ?_) ?_
            · have hx : x < cN (aCu A) := hx
              rw [o2 _ (by omega), show 42 + 2 * m + 1 = 43 + 2 * m by omega]; exact (hA.1.1 m hm).2 x (by omega)
            · have ih2 := ih w2 o2 ⟨_, _, hv2⟩
              rw [← bb_st (by omega), ← nI_1] at ih2
              cases h0 : hpAs (sty (aCu A) j 2 (nI s)) (aRp A m)
              · rw [h0, if_neg (fun q => by cases q), or_0b (by omega)] at ih2
                refine b_S_was_103 (fun h103 => b_S_was_115 ?_) (fun h103 => absurd h103 (by first | decide | assumption | omega | simp_all))
                exact ih2
              · rw [h0, if_pos rfl] at ih2
                refine b_S_was_103 (fun h103 => absurd h103 (by first | decide | assumption | omega | simp_all)) (fun h103 => b_S_was_106 (b_S_was_115 ?_))
                exact ih2
        · rw [if_neg (by omega), hf] at hQ
          refine b_S_was_38 (fun h38 => absurd h38 (by first | decide | assumption | omega | simp_all)) (fun h38 => b_S_was_43 ?_)
          exact hQ _ _ (AbC_fd hW.L8 hA h1 h5) smM_rfM
      · have g : ¬ vi 4 (nI j).toNatClampNeg = 2 := by rw [cj, ew]; exact h2
        rw [if_neg h2] at hQ
        refine b_S_was_12 (fun h12 => b_S_was_17 (by first | assumption | decide | (refine vp_in_nI ?_ ?_ <;> omega) | omega | simp_all) (fun h17 => absurd h17 (by first | decide | assumption | omega | simp_all)) (fun h17 => b_S_was_30 ?_)) (fun h12 => absurd h12 (by first | decide | assumption | omega | simp_all))
        exact hQ _ _ hA smM_rf
    · rw [inB_f hr, if_neg (fun q => by cases q.2)] at hQ
      refine b_S_was_12 (fun h12 => absurd h12 (by first | decide | assumption | omega | simp_all)) (fun h12 => b_S_was_15 ?_)
      exact hQ _ _ hA smM_rf
  · rw [inB_f hy, if_neg (fun q => by cases q.1)] at hQ
    refine b_S_was_5 (fun h5 => b_S_was_15 ?_) (fun h5 => absurd h5 (by first | decide | assumption | omega | simp_all))
    exact hQ _ _ hA smM_rf
theorem s_kinds {k r : Int32} (hW : wfA A) (hA : AbC A vi vl) (hQ : PC vi vl post (oKinds A k r)) : CallOk X (d + 5) 0 0 k_S_kinds [.ref 0, .int k, .int r] (mk vi vl) post := by
  refine CallOk.intro (by decide +kernel) rfl (Nat.le_of_ble_eq_true rfl) ?_
  unfold oKinds at hQ
  have h5' := hW.N5
  have h8' := hW.L8
  refine b_S_kinds_0 ?_
  refine c_S_isLaw hA.2.1.1.2.1 hW.L8 (fun hy => ?_) (fun hy => ?_)
  · rw [inB_t hy] at hQ
    obtain ⟨j, hj, rfl⟩ := vp_in_of hy (by omega)
    have cj : (nI j).toNatClampNeg = j := nI_clamp (by omega)
    have vj : vp_in (nI j) 8 := vp_in_nI (by omega) (by omega)
    refine b_S_kinds_5 (fun h5 => absurd h5 (by first | decide | assumption | omega | simp_all)) (fun h5 => b_S_kinds_8 ?_)
    refine c_S_isRow (fun hr => ?_) (fun hr => ?_)
    · rw [inB_t hr, if_pos ⟨rfl, rfl⟩, cj] at hQ
      obtain ⟨m, hm, rfl⟩ := vp_in_of hr (by decide)
      have cm : (nI m).toNatClampNeg = m := nI_clamp (by omega)
      rw [cm] at hQ
      refine b_S_kinds_12 (fun h12 => b_S_kinds_17 ?_) (fun h12 => absurd h12 (by first | decide | assumption | omega | simp_all))
      refine c_S_refuseHistory hW hA hm (fun hz => ?_) (fun f hf h1 h5 => ?_)
      · rw [if_pos hz] at hQ
        refine b_S_kinds_22 (fun h22 => b_S_kinds_29 ?_) (fun h22 => absurd h22 (by first | decide | assumption | omega | simp_all))
        refine c_C_take isCl_14 isCl_3 (by decide) (fun w1 ht => ?_)
        have hv := hW.2.2.1.v
        have hV1 := V_take hv hA.2.1.1.v ht
        refine b_S_kinds_40 ?_
        have key := loop_up (P := fun s => ∀ w, (∀ q, (q < 14 ∨ 24 < q) → w q = vi q) → (∃ a, ClV (knC (aCu A) j a) 14 w) → wp X (d + 5) k_S_kinds 0 0 46 [some (.ref 0), some (.int (nI j)), some (.int (nI m)), some (.int 0), some (.int (nI (bb (fun s => hpAs (knC (aCu A) j (nI s)) (aRp A m)) s))), some (.int (nI s))] [] (mk w vl) post) 6 0 (by decide) ?_ ?_
        · exact key w1 (fun q hq => ht.1 q (by omega)) ⟨_, by rw [knC_id]; exact hV1⟩
        · intro w hw _
          have g1 : (6 : Int32) ≤ nI 6 := by decide
          refine b_S_kinds_46 (fun h46 => b_S_kinds_106 ?_) (fun h46 => absurd h46 (by first | decide | assumption | omega | simp_all))
          exact hQ _ _ (AbC_scr hW.L8 hA (fun q hq => hw q (by omega))) (smM_of fun q hq => hw q (by omega))
        · intro s _ hs ih w hw hV
          obtain ⟨a, hV⟩ := hV
          have g1 : ¬ (6 : Int32) ≤ nI s := nI_ge (a := s) (b := 6) hs (by omega)
          have hv2' : wfV (knC (aCu A) j (nI s)) := knC_v hv (vp_in_nI (by omega) (by omega))
          refine b_S_kinds_46 (fun h46 => absurd h46 (by first | decide | assumption | omega | simp_all)) (fun h46 => ?_)
          refine b_S_kinds_53 (by first | assumption | decide | (refine vp_in_nI ?_ ?_ <;> omega) | omega | simp_all) (fun w53 hw53 => b_S_kinds_64 ?_)
          have hV2 := V_kn (k := j) (q := nI s) hV
          rw [knC_u] at hV2
          rw [cj] at hw53
          rw [hw53]
          refine a_settleFrom isCl_14 hv2' hV2 (fun w2 h2 hv2 hs2 => ?_)
          have o2 : ∀ q, (q < 14 ∨ 24 < q) → w2 q = vi q := fun q hq => by rw [h2 q (by omega) (by omega), up2_n (by omega)]; exact hw q hq
          refine b_S_kinds_72 (by first | assumption | decide | (refine vp_in_nI ?_ ?_ <;> omega) | omega | simp_all) ?_
          rw [cm]
          refine a_happensAs (f := aRp A m) isCl_14 hv2' hv2 hs2 (by omega) (sh_rw m hm) (by decide) (by decide) (fun x hx => ?_) ?_
          · have hx : x < cN (aCu A) := hx
            rw [o2 _ (by omega), show 42 + 2 * m + 1 = 43 + 2 * m by omega]; exact (hA.1.1 m hm).2 x (by omega)
          · have ih2 := ih w2 o2 ⟨_, hv2⟩
            rw [← bb_st (by omega), ← nI_1] at ih2
            cases h0 : hpAs (knC (aCu A) j (nI s)) (aRp A m)
            · rw [h0, if_neg (fun q => by cases q), or_0b (by omega)] at ih2
              refine b_S_kinds_88 (fun h88 => b_S_kinds_100 ?_) (fun h88 => absurd h88 (by first | decide | assumption | omega | simp_all))
              exact ih2
            · rw [h0, if_pos rfl] at ih2
              refine b_S_kinds_88 (fun h88 => absurd h88 (by first | decide | assumption | omega | simp_all)) (fun h88 => b_S_kinds_91 (b_S_kinds_100 ?_))
              exact ih2
      · rw [if_neg (by omega), hf] at hQ
        refine b_S_kinds_22 (fun h22 => absurd h22 (by first | decide | assumption | omega | simp_all)) (fun h22 => b_S_kinds_27 ?_)
        exact hQ _ _ (AbC_fd hW.L8 hA h1 h5) smM_rfM
    · rw [inB_f hr, if_neg (fun q => by cases q.2)] at hQ
      refine b_S_kinds_12 (fun h12 => absurd h12 (by first | decide | assumption | omega | simp_all)) (fun h12 => b_S_kinds_15 ?_)
      exact hQ _ _ hA smM_rf
  · rw [inB_f hy, if_neg (fun q => by cases q.1)] at hQ
    refine b_S_kinds_5 (fun h5 => b_S_kinds_15 ?_) (fun h5 => absurd h5 (by first | decide | assumption | omega | simp_all))
    exact hQ _ _ hA smM_rf
theorem s_needed (hW : wfA A) (hA : AbC A vi vl) (hQ : PC vi vl post (oNeeded A)) : CallOk X (d + 5) 0 0 k_S_needed [.ref 0] (mk vi vl) post := by
  refine CallOk.intro (by decide +kernel) rfl (Nat.le_of_ble_eq_true rfl) ?_
  unfold oNeeded at hQ
  have h5' := hW.N5
  have h8' := hW.L8
  have hv := hW.2.2.1.v
  refine b_S_needed_0 ?_
  refine c_C_take isCl_14 isCl_3 (by decide) (fun w1 ht => ?_)
  have hV1 := V_take hv hA.2.1.1.v ht
  refine b_S_needed_11 ?_
  have key := loop_up (P := fun s => ∀ w, (∀ q, (q < 14 ∨ 24 < q) → w q = vi q) → ClV (aCu A) 14 w → wp X (d + 5) k_S_needed 0 0 15 [some (.ref 0), some (.int (nI (bb (fun k => !hpAs (knC (aCu A) k 1) (hap (aCu A))) s))), some (.int (nI s))] [] (mk w vl) post) (cL (aCu A)) 0 (Nat.zero_le _) ?_ ?_
  · exact key w1 (fun q hq => ht.1 q (by omega)) hV1
  · intro w hw _
    have g1 : w 3 3 ≤ nI (cL (aCu A)) := by rw [hw 3 (by omega), hA.2.1.1.2.1]; exact Int32.le_refl _
    refine b_S_needed_15 (fun h15 => b_S_needed_91 ?_) (fun h15 => absurd h15 (by first | decide | assumption | omega | simp_all))
    exact hQ _ _ (AbC_scr hW.L8 hA (fun q hq => hw q (by omega))) (smM_of fun q hq => hw q (by omega))
  · intro s _ hs ih w hw hV
    have g1 : ¬ w 3 3 ≤ nI s := by rw [hw 3 (by omega), hA.2.1.1.2.1]; exact nI_ge hs (by omega)
    have cs : (nI s).toNatClampNeg = s := nI_clamp (by omega)
    have vs : vp_in (nI s) 8 := vp_in_nI (by omega) (by omega)
    have hv2' : wfV (knC (aCu A) s 1) := knC_v hv (vp_in_nI (n := 1) (by omega) (by omega))
    refine b_S_needed_15 (fun h15 => absurd h15 (by first | decide | assumption | omega | simp_all)) (fun h15 => ?_)
    refine b_S_needed_26 (by first | assumption | decide | (refine vp_in_nI ?_ ?_ <;> omega) | omega | simp_all) (fun w26 hw26 => b_S_needed_36 ?_)
    have hV2 := V_kn (k := s) (q := 1) hV
    rw [cs] at hw26
    rw [hw26]
    refine a_settleFrom isCl_14 hv2' hV2 (fun w2 h2 hv2 hs2 => ?_)
    have o2 : ∀ q, (q < 14 ∨ 24 < q) → w2 q = vi q := fun q hq => by rw [h2 q (by omega) (by omega), up2_n (by omega)]; exact hw q hq
    refine b_S_needed_44 ?_
    refine a_happensAs (f := hap (aCu A)) isCl_14 hv2' hv2 hs2 (by decide) sq_12 (by decide) (by decide) (fun x hx => ?_) ?_
    · rw [o2 12 (by omega)]; exact (V_hap hv hA.2.1.1.v hA.2.1.2 x hx).1
    · have fin : ∀ x : Int32, x = nI (bb (fun k => !hpAs (knC (aCu A) k 1) (hap (aCu A))) (s + 1)) → wp X (d + 5) k_S_needed 0 0 67 [some (.ref 0), some (.int x), some (.int (nI s))] [] (mk w2 vl) post := by
        intro x hx
        refine b_S_needed_67 (by first | assumption | decide | (refine vp_in_nI ?_ ?_ <;> omega) | omega | simp_all) (by first | assumption | decide | (refine vp_in_nI ?_ ?_ <;> omega) | omega | simp_all) (fun w67 hw67 => b_S_needed_85 ?_)
        rw [nI_1, hx]
        have hV3 := V_kn (k := s) (q := cK (aCu A) s) hv2
        rw [knC_u, knC_id] at hV3
        have e6 : w2 6 s = cK (aCu A) s := by rw [o2 6 (by omega)]; exact (hA.2.1.1.2.2.2.2.1 s hs).1
        rw [cs, e6] at hw67
        rw [hw67]
        exact ih _ (fun q hq => by rw [up2_n (by omega)]; exact o2 q hq) hV3
      have hbs := bb_st (p := fun k => !hpAs (knC (aCu A) k 1) (hap (aCu A))) (i := s) (by omega)
      cases h0 : hpAs (knC (aCu A) s 1) (hap (aCu A))
      · simp only [h0, Bool.not_false, if_true] at hbs
        refine b_S_needed_58 (fun h58 => absurd h58 (by first | decide | assumption | omega | simp_all)) (fun h58 => b_S_needed_61 ?_)
        exact fin _ hbs
      · simp only [h0, Bool.not_true, Bool.false_eq_true, if_false] at hbs
        rw [or_0b (by omega)] at hbs
        refine b_S_needed_58 (fun h58 => ?_) (fun h58 => absurd h58 (by first | decide | assumption | omega | simp_all))
        exact fin _ hbs
theorem s_judge {r : Int32} (hW : wfA A) (hA : AbC A vi vl) (hQ : PC vi vl post (oJudge A r)) : CallOk X (d + 5) 0 0 k_S_judge [.ref 0, .int r] (mk vi vl) post := by
  refine CallOk.intro (by decide +kernel) rfl (Nat.le_of_ble_eq_true rfl) ?_
  unfold oJudge at hQ
  have h5' := hW.N5
  have hn : vi 3 0 = nI (cN (aCu A)) := hA.2.1.1.1
  have hv := hW.2.2.1.v
  refine b_S_judge_0 ?_
  refine c_S_isRow (fun hr => ?_) (fun hr => ?_)
  · rw [inB_t hr, if_pos rfl] at hQ
    obtain ⟨m, hm, rfl⟩ := vp_in_of hr (by decide)
    have cm : (nI m).toNatClampNeg = m := nI_clamp (by omega)
    rw [cm] at hQ
    obtain ⟨e1, e2⟩ := hA.1.1 m hm
    have hR : isRw (42 + 2 * m) := rows_i hm
    have q0 : (nI (cN (aCu A)) = 0) ↔ cN (aCu A) = 0 := nI_eq (b := 0) (by omega) (by omega)
    by_cases h0 : cN (aCu A) = 0
    · have g : vi 3 0 = 0 := by rw [hn]; exact q0.mpr h0
      rw [if_pos h0] at hQ
      refine b_S_judge_4 (fun h4 => b_S_judge_9 (fun h9 => absurd h9 (by first | decide | assumption | omega | simp_all)) (fun h9 => b_S_judge_19 ?_)) (fun h4 => absurd h4 (by first | decide | assumption | omega | simp_all))
      exact hQ _ _ hA smM_rf
    · have g : ¬ vi 3 0 = 0 := by rw [hn]; exact fun q => h0 (q0.mp q)
      rw [if_neg h0] at hQ
      refine b_S_judge_4 (fun h4 => b_S_judge_9 (fun h9 => b_S_judge_22 (by first | assumption | decide | (refine vp_in_nI ?_ ?_ <;> omega) | omega | simp_all) ?_) (fun h9 => absurd h9 (by first | decide | assumption | omega | simp_all))) (fun h4 => absurd h4 (by first | decide | assumption | omega | simp_all))
      rw [cm]
      refine c_R_isMissing hR (fun hms => ?_) (fun hms => ?_)
      · rw [e1] at hms
        rw [if_pos hms] at hQ
        refine b_S_judge_33 (fun h33 => absurd h33 (by first | decide | assumption | omega | simp_all)) (fun h33 => b_S_judge_36 ?_)
        refine c_S_refuse 1 (by decide) (by decide) ?_
        refine b_S_judge_41 ?_
        exact hQ _ _ (AbC_fd hW.L8 hA (by decide) (by decide)) smM_rfM
      · rw [e1] at hms
        rw [if_neg hms] at hQ
        by_cases hs : aRs A m = nI (cN (aCu A))
        · rw [if_pos hs] at hQ
          have g1 : vi (42 + 2 * m) 1 = vi 3 0 := by rw [e1, hn]; exact hs
          refine b_S_judge_33 (fun h33 => b_S_judge_42 (by first | assumption | decide | (refine vp_in_nI ?_ ?_ <;> omega) | omega | simp_all) (fun h42 => b_S_judge_62 ?_) (fun h42 => absurd h42 (by first | decide | assumption | omega | simp_all))) (fun h33 => absurd h33 (by first | decide | assumption | omega | simp_all))
          have key := loop_up (P := fun y => alF (fun y => alI (cW (aCu A) y) (aRp A m y)) 0 (cN (aCu A)) = alF (fun y => alI (cW (aCu A) y) (aRp A m y)) y (cN (aCu A) - y) → wp X (d + 5) k_S_judge 0 0 64 [some (.ref 0), some (.int (nI m)), some (.ref (42 + 2 * m)), some (.int (nI y))] [] (mk vi vl) post) (cN (aCu A)) 0 (Nat.zero_le _) ?_ ?_
          · exact key rfl
          · intro he
            rw [Nat.sub_self] at he
            rw [he, if_pos (show alF (fun y => alI (cW (aCu A) y) (aRp A m y)) (cN (aCu A)) 0 = true from rfl)] at hQ
            have g2 : vi 3 0 ≤ nI (cN (aCu A)) := by rw [hn]; exact Int32.le_refl _
            refine b_S_judge_64 (fun h64 => b_S_judge_104 ?_) (fun h64 => absurd h64 (by first | decide | assumption | omega | simp_all))
            refine c_C_take isCl_14 isCl_3 (by decide) (fun w1 ht => ?_)
            have hV1 := V_take hv hA.2.1.1.v ht
            refine b_S_judge_115 ?_
            have key2 := loop_up (P := fun y => ∀ w, (∀ q, (q < 14 ∨ 24 < q) → w q = vi q) → ClV (chP (aCu A) (aRp A m) y) 14 w → wp X (d + 5) k_S_judge 0 0 117 [some (.ref 0), some (.int (nI m)), some (.ref (42 + 2 * m)), some (.int (nI y))] [] (mk w vl) post) (cN (aCu A)) 0 (Nat.zero_le _) ?_ ?_
            · exact key2 w1 (fun q hq => ht.1 q (by omega)) (by rw [chP_0]; exact hV1)
            · intro w hw hV
              have g3 : w 3 0 ≤ nI (cN (aCu A)) := by rw [hw 3 (by omega), hn]; exact Int32.le_refl _
              have hv2' : wfV (chP (aCu A) (aRp A m) (cN (aCu A))) := hv
              refine b_S_judge_117 (fun h117 => b_S_judge_148 ?_) (fun h117 => absurd h117 (by first | decide | assumption | omega | simp_all))
              refine a_settleFrom isCl_14 hv2' hV (fun w2 h2 hv2 hs2 => ?_)
              have o2 : ∀ q, (q < 14 ∨ 24 < q) → w2 q = vi q := fun q hq => by rw [h2 q (by omega) (by omega)]; exact hw q hq
              refine b_S_judge_156 ?_
              refine a_yearsWithSomething isCl_14 hv2' hv2 hs2 ?_
              refine b_S_judge_164 (fun w164 hw164 => b_S_judge_167 ?_)
              have o3 : ∀ q, q ≠ 0 → w164 q = w2 q := fun q hq => by rw [hw164, up2_n hq]
              refine a_brokenLaws isCl_14 hv2' (ClV_fr hv2 (fun q _ _ => o3 q (by omega))) (setl_fr hW.L8 hs2 (fun q _ _ => o3 q (by omega))) ?_
              have := brb_256 hv2'
              refine b_S_judge_174 ?_
              refine c_J_bitCount (by omega) ?_
              refine b_S_judge_177 ?_
              rw [hw164]
              refine hQ _ _ (AbC_ak hW.L8 (AbC_scr hW.L8 hA (fun q hq => o2 q (by omega))) _) (smM_of fun q hq => ?_)
              rw [up2_n (by omega)]; exact o2 q (by omega)
            · intro y _ hy ih w hw hV
              have g3 : ¬ w 3 0 ≤ nI y := by rw [hw 3 (by omega), hn]; exact nI_ge hy (by omega)
              have cy : (nI y).toNatClampNeg = y := nI_clamp (by omega)
              have vy : vp_in (nI y) (rl (42 + 2 * m)) := vp_in_nI (by have := rl_le (42 + 2 * m); omega) (by have := rl_le (42 + 2 * m); omega)
              have ep : w (42 + 2 * m + 1) y = aRp A m y := by rw [hw _ (by omega), show 42 + 2 * m + 1 = 43 + 2 * m by omega]; exact e2 y (by omega)
              refine b_S_judge_117 (fun h117 => absurd h117 (by first | decide | assumption | omega | simp_all)) (fun h117 => b_S_judge_128 (by first | assumption | decide | (refine vp_in_nI ?_ ?_ <;> omega) | omega | simp_all) (by first | assumption | decide | (refine vp_in_nI ?_ ?_ <;> omega) | omega | simp_all) ?_)
              rw [cy, ep]
              refine c_C_change isCl_14 (by omega) ?_
              refine b_S_judge_142 ?_
              rw [nI_1]
              have hV2 := V_ch (y := y) (q := aRp A m y) hV hy
              have ec : cW (chP (aCu A) (aRp A m) y) y = cW (aCu A) y := if_neg (Nat.lt_irrefl _)
              have es : cS (chP (aCu A) (aRp A m) y) y = cS (aCu A) y := if_neg (Nat.lt_irrefl _)
              rw [ec, es, chP_s] at hV2
              exact ih _ (fun q hq => by rw [chgM_o (by omega) (by omega)]; exact hw q hq) hV2
          · intro y _ hy ih he
            have g2 : ¬ vi 3 0 ≤ nI y := by rw [hn]; exact nI_ge hy (by omega)
            have cy : (nI y).toNatClampNeg = y := nI_clamp (by omega)
            have vy : vp_in (nI y) (rl (42 + 2 * m)) := vp_in_nI (by have := rl_le (42 + 2 * m); omega) (by have := rl_le (42 + 2 * m); omega)
            have ep : vi (42 + 2 * m + 1) y = aRp A m y := by rw [show 42 + 2 * m + 1 = 43 + 2 * m by omega]; exact e2 y (by omega)
            have ew : vi (3 + 1) y = cW (aCu A) y := (hA.2.1.1.2.2.2.1 y hy).1
            rw [show cN (aCu A) - y = (cN (aCu A) - (y + 1)) + 1 by omega] at he
            simp only [alF] at he
            refine b_S_judge_64 (fun h64 => absurd h64 (by first | decide | assumption | omega | simp_all)) (fun h64 => b_S_judge_75 (by first | assumption | decide | (refine vp_in_nI ?_ ?_ <;> omega) | omega | simp_all) (by first | assumption | decide | (refine vp_in_nI ?_ ?_ <;> omega) | omega | simp_all) ?_)
            rw [cy, ep]
            refine c_C_allows isCl_3 (by omega) ?_
            rw [ew]
            cases hal : alI (cW (aCu A) y) (aRp A m y)
            · rw [hal, Bool.false_and] at he
              rw [he, if_neg (fun q => by cases q)] at hQ
              unfold alI at hal
              rw [hal]
              refine b_S_judge_89 (fun h89 => absurd h89 (by first | decide | assumption | omega | simp_all)) (fun h89 => b_S_judge_92 ?_)
              refine c_S_refuse 3 (by decide) (by decide) ?_
              refine b_S_judge_97 ?_
              exact hQ _ _ (AbC_fd hW.L8 hA (by decide) (by decide)) smM_rfM
            · rw [hal, Bool.true_and] at he
              unfold alI at hal
              rw [hal]
              refine b_S_judge_89 (fun h89 => b_S_judge_98 ?_) (fun h89 => absurd h89 (by first | decide | assumption | omega | simp_all))
              rw [nI_1]
              exact ih he
        · rw [if_neg hs] at hQ
          have g1 : ¬ vi (42 + 2 * m) 1 = vi 3 0 := by rw [e1, hn]; exact hs
          refine b_S_judge_33 (fun h33 => b_S_judge_42 (by first | assumption | decide | (refine vp_in_nI ?_ ?_ <;> omega) | omega | simp_all) (fun h42 => absurd h42 (by first | decide | assumption | omega | simp_all)) (fun h42 => b_S_judge_56 ?_)) (fun h33 => absurd h33 (by first | decide | assumption | omega | simp_all))
          refine c_S_refuse 5 (by decide) (by decide) ?_
          refine b_S_judge_61 ?_
          exact hQ _ _ (AbC_fd hW.L8 hA (by decide) (by decide)) smM_rfM
  · rw [inB_f hr, if_neg (fun q => by cases q)] at hQ
    refine b_S_judge_4 (fun h4 => absurd h4 (by first | decide | assumption | omega | simp_all)) (fun h4 => b_S_judge_7 ?_)
    exact hQ _ _ hA smM_rf
end S37
