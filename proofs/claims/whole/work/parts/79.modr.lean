/-! the reference: least, avert -/
/-- a SCENE in no YEAR -/
theorem gd_A {c : Cl} {most code : Nat} {s : Int32} {wh : Bool} (hw : wfC c) (hs : vp_in s 5) : gd c (wanA s) wh false most code = true ↔ alF (fun y => alC (cW c y) (dgc (cN c) code y)) 0 (cN c) = true ∧ ctP (dgc (cN c) code) (cN c) ≤ most ∧ (wh = true → brb (plC c (dgc (cN c) code) (cN c)) = 0) ∧ ysW (plC c (dgc (cN c) code) (cN c)) s = 0 := by
  rw [gd_iff hw.2.1, alF_iff]
  unfold ysW
  rw [bb_0]
  constructor
  · rintro ⟨h1, h2, h3, h4⟩
    have hal : ∀ y, y < cN c → alC (cW c y) (dgc (cN c) code y) = true := fun y hy => by rw [← alP_f]; exact h1 y hy
    refine ⟨fun k _ hk => hal k (by omega), h2, h4, fun y hy => decide_eq_false ?_⟩
    have := h3 y hy
    unfold wanA at this
    rw [hb_A (pl_rng hw (fun _ => dgc_7) hal hy) hs] at this
    exact this
  · rintro ⟨h1, h2, h3, h4⟩
    have hal : ∀ y, y < cN c → alC (cW c y) (dgc (cN c) code y) = true := fun y hy => h1 y (Nat.zero_le _) (by omega)
    refine ⟨fun y hy => by rw [alP_f]; exact hal y hy, h2, fun z hz => ?_, h3⟩
    unfold wanA
    rw [hb_A (pl_rng hw (fun _ => dgc_7) hal hz) hs]
    exact of_decide_eq_false (h4 z hz)
theorem few_c {c : Cl} {wan : Nat → Int32} {s y : Int32} (h5 : cN c ≤ 5) (hF : ∀ m k, gd c wan true false m k = true ↔ (fwG c s y k = true ∧ fwC c k ≤ m)) : ((bsT (fwG c s y) (fwC c) (7 ^ cN c)).1 = 1000000 ∧ fewF (num c wan true false) (cN c + 1) 0 = none) ∨ ((bsT (fwG c s y) (fwC c) (7 ^ cN c)).1 ≤ cN c ∧ (bsT (fwG c s y) (fwC c) (7 ^ cN c)).2 < 7 ^ cN c ∧ fewF (num c wan true false) (cN c + 1) 0 = some (bsT (fwG c s y) (fwC c) (7 ^ cN c)).1 ∧ fst c wan true false (bsT (fwG c s y) (fwC c) (7 ^ cN c)).1 = (bsT (fwG c s y) (fwC c) (7 ^ cN c)).2) :=
  few_eq hF (fun k => cn_le _ _) (by omega)
theorem fw_S {c : Cl} {j : Nat} {s : Int32} (hw : wfC c) (hj : j < cN c) (hs : vp_in s 5) (m k : Nat) : gd c (wanS j s) true false m k = true ↔ (fwG c s (nI j) k = true ∧ fwC c k ≤ m) := by
  have h5 := hw.1
  rw [gd_S hw hj hs]
  unfold fwG cnd fwC
  rw [if_neg (nI_n9 (by omega)), nI_clamp (show j < 2 ^ 31 by omega), Bool.and_eq_true, Bool.and_eq_true, decide_eq_true_eq, decide_eq_true_eq]
  exact ⟨fun ⟨a, b, c, d⟩ => ⟨⟨a, c rfl, d⟩, b⟩, fun ⟨⟨a, c, d⟩, b⟩ => ⟨a, b, fun _ => c, d⟩⟩
theorem fw_A {c : Cl} {s : Int32} (hw : wfC c) (hs : vp_in s 5) (m k : Nat) : gd c (wanA s) true false m k = true ↔ (fwG c s (-9) k = true ∧ fwC c k ≤ m) := by
  rw [gd_A hw hs]
  unfold fwG cnd fwC
  rw [if_pos rfl, Bool.and_eq_true, Bool.and_eq_true, decide_eq_true_eq, decide_eq_true_eq]
  exact ⟨fun ⟨a, b, c, d⟩ => ⟨⟨a, c rfl, d⟩, b⟩, fun ⟨⟨a, c, d⟩, b⟩ => ⟨a, b, fun _ => c, d⟩⟩
section S79
variable {X : aX} {d : Nat} {vi : Nat → Nat → Int32} {vl : Nat → Nat → Int64} {post : aO} {A : aA} {c : Cl} {f g : Nat → Int32}
theorem oFew_n {wan : Nat → Int32} {r : Nat} (h : fewF (num (aCu A) wan true false) (cN (aCu A) + 1) 0 = none) : oFew A wan r = (-9, A) := by unfold oFew; rw [h]
theorem oFew_s {wan : Nat → Int32} {r m : Nat} (h : fewF (num (aCu A) wan true false) (cN (aCu A) + 1) 0 = some m) : oFew A wan r = (nI m, tRw A r (nI (cN (aCu A))) (plnR (aCu A) wan true false m)) := by unfold oFew; rw [h]
theorem m_least {s y r : Int32} (hW : wfA A) (hA : AbM A vi vl) (hQ : PM vi vl post (oLeast A s y r)) : CallOk X (d + 6) 0 0 k_M_least [.ref 95, .int s, .int y, .int r] (mk vi vl) post := by
  refine CallOk.intro (by decide +kernel) rfl (Nat.le_of_ble_eq_true rfl) ?_
  unfold oLeast at hQ
  have h5' := hW.N5
  have hp := hW.2.2.1.p
  have hwc := hW.2.2.1
  refine b_M_least_0 ?_
  refine c_M_isTold ?_
  by_cases hs : vp_in s 5
  · rw [inB_t hs] at hQ ⊢
    refine b_M_least_4 (fun h4 => absurd h4 (by first | decide | assumption | omega | simp_all)) (fun h4 => b_M_least_7 ?_)
    refine c_M_isYear hA.V h5' ?_
    by_cases hy : vp_in y (cN (aCu A))
    · rw [inB_t hy] at hQ ⊢
      refine b_M_least_12 (fun h12 => absurd h12 (by first | decide | assumption | omega | simp_all)) (fun h12 => b_M_least_15 ?_)
      refine c_M_isRow ?_
      by_cases hr : vp_in r 6
      · rw [inB_t hr] at hQ ⊢
        rw [if_pos ⟨rfl, rfl, rfl⟩] at hQ
        obtain ⟨j, hj, rfl⟩ := vp_in_of hy (by omega)
        obtain ⟨m, hm, rfl⟩ := vp_in_of hr (by decide)
        rw [nI_clamp (show j < 2 ^ 31 by omega), nI_clamp (show m < 2 ^ 31 by omega)] at hQ
        refine b_M_least_19 (fun h19 => b_M_least_24 ?_) (fun h19 => absurd h19 (by first | decide | assumption | omega | simp_all))
        refine c_M_fewest (c := aCu A) hp hA.V hA.w (Or.inr ⟨j, hj, rfl⟩) (fun w ha h0 hb => ?_)
        have hsc := asd_sc ha h0
        have hA2 := AbM_sc (wl := vl) hW hA hsc rfl rfl
        have hfew := few_c h5' (fw_S hwc hj hs)
        generalize bsT (fwG (aCu A) s (nI j)) (fwC (aCu A)) (7 ^ cN (aCu A)) = B at hb hfew
        rcases hfew with ⟨e1, e2⟩ | ⟨e1, e2, e3, e4⟩
        · rw [oFew_n e2] at hQ
          rw [e1]
          have g : ¬ ¬ nI 1000000 = 1000000 := fun q => q rfl
          refine b_M_least_30 (fun h30 => absurd h30 (by first | decide | assumption | omega | simp_all)) (fun h30 => b_M_least_39 ?_)
          exact hQ _ _ hA2 (smC_of fun q hq => hsc.1 q (by omega))
        · rw [oFew_s e3] at hQ
          have g : ¬ nI B.1 = 1000000 := fun q => by have := (nI_eq (b := 1000000) (by omega) (by omega)).mp q; omega
          refine b_M_least_30 (fun h30 => b_M_least_42 ?_) (fun h30 => absurd h30 (by first | decide | assumption | omega | simp_all))
          rw [hb (by omega)]
          refine c_M_tellsPlan hp.1 hA2.V e2 hm (fun v ho h99 h98 hoth => ?_)
          refine b_M_least_51 ?_
          refine hQ _ _ (AbM_row hW hA2 h99 (fun k hk => ?_) hoth (fun j a b _ => ho j a b)) (smC_of fun q hq => by rw [ho q (by omega) (by omega)]; exact hsc.1 q (by omega))
          rw [h98 k hk]; unfold plnR; rw [e4]
      · rw [inB_f hr] at hQ ⊢
        rw [if_neg (fun q => by cases q.2.2)] at hQ
        refine b_M_least_19 (fun h19 => absurd h19 (by first | decide | assumption | omega | simp_all)) (fun h19 => b_M_least_22 ?_)
        exact hQ _ _ hA smC_rf
    · rw [inB_f hy] at hQ ⊢
      rw [if_neg (fun q => by cases q.2.1)] at hQ
      refine b_M_least_12 (fun h12 => b_M_least_22 ?_) (fun h12 => absurd h12 (by first | decide | assumption | omega | simp_all))
      exact hQ _ _ hA smC_rf
  · rw [inB_f hs] at hQ ⊢
    rw [if_neg (fun q => by cases q.1)] at hQ
    refine b_M_least_4 (fun h4 => b_M_least_22 ?_) (fun h4 => absurd h4 (by first | decide | assumption | omega | simp_all))
    exact hQ _ _ hA smC_rf
theorem m_avert {s r : Int32} (hW : wfA A) (hA : AbM A vi vl) (hQ : PM vi vl post (oAvert A s r)) : CallOk X (d + 6) 0 0 k_M_avert [.ref 95, .int s, .int r] (mk vi vl) post := by
  refine CallOk.intro (by decide +kernel) rfl (Nat.le_of_ble_eq_true rfl) ?_
  unfold oAvert at hQ
  have h5' := hW.N5
  have hp := hW.2.2.1.p
  have hwc := hW.2.2.1
  have hn : vi 96 0 = nI (cN (aCu A)) := hA.V.1
  refine b_M_avert_0 ?_
  refine c_M_isTold ?_
  by_cases hs : vp_in s 5
  · rw [inB_t hs] at hQ ⊢
    refine b_M_avert_4 (fun h4 => absurd h4 (by first | decide | assumption | omega | simp_all)) (fun h4 => b_M_avert_7 ?_)
    refine c_M_isRow ?_
    by_cases hr : vp_in r 6
    · rw [inB_t hr] at hQ ⊢
      rw [if_pos ⟨rfl, rfl⟩] at hQ
      obtain ⟨m, hm, rfl⟩ := vp_in_of hr (by decide)
      rw [nI_clamp (show m < 2 ^ 31 by omega)] at hQ
      have q0 : (nI (cN (aCu A)) = 0) ↔ cN (aCu A) = 0 := nI_eq (b := 0) (by omega) (by omega)
      by_cases hz : cN (aCu A) = 0
      · have g : ¬ ¬ vi 96 0 = 0 := fun q => q (by rw [hn]; exact q0.mpr hz)
        rw [if_pos hz] at hQ
        refine b_M_avert_11 (fun h11 => b_M_avert_16 (fun h16 => absurd h16 (by first | decide | assumption | omega | simp_all)) (fun h16 => b_M_avert_25 ?_)) (fun h11 => absurd h11 (by first | decide | assumption | omega | simp_all))
        exact hQ _ _ hA smC_rf
      · have g : ¬ vi 96 0 = 0 := by rw [hn]; exact fun q => hz (q0.mp q)
        rw [if_neg hz] at hQ
        refine b_M_avert_11 (fun h11 => b_M_avert_16 (fun h16 => b_M_avert_28 ?_) (fun h16 => absurd h16 (by first | decide | assumption | omega | simp_all))) (fun h11 => absurd h11 (by first | decide | assumption | omega | simp_all))
        refine c_M_fewest (c := aCu A) hp hA.V hA.w (Or.inl rfl) (fun w ha hw0 hb => ?_)
        have hsc := asd_sc ha hw0
        have hA2 := AbM_sc (wl := vl) hW hA hsc rfl rfl
        have hfew := few_c h5' (fw_A hwc hs)
        generalize bsT (fwG (aCu A) s (-9)) (fwC (aCu A)) (7 ^ cN (aCu A)) = B at hb hfew
        rcases hfew with ⟨e1, e2⟩ | ⟨e1, e2, e3, e4⟩
        · rw [oFew_n e2] at hQ
          rw [e1]
          have g2 : ¬ ¬ nI 1000000 = 1000000 := fun q => q rfl
          refine b_M_avert_35 (fun h35 => absurd h35 (by first | decide | assumption | omega | simp_all)) (fun h35 => b_M_avert_42 ?_)
          exact hQ _ _ hA2 (smC_of fun q hq => hsc.1 q (by omega))
        · rw [oFew_s e3] at hQ
          have g2 : ¬ nI B.1 = 1000000 := fun q => by have := (nI_eq (b := 1000000) (by omega) (by omega)).mp q; omega
          refine b_M_avert_35 (fun h35 => b_M_avert_45 ?_) (fun h35 => absurd h35 (by first | decide | assumption | omega | simp_all))
          rw [hb (by omega)]
          refine c_M_tellsPlan hp.1 hA2.V e2 hm (fun v ho h99 h98 hoth => ?_)
          refine b_M_avert_54 ?_
          refine hQ _ _ (AbM_row hW hA2 h99 (fun k hk => ?_) hoth (fun j a b _ => ho j a b)) (smC_of fun q hq => by rw [ho q (by omega) (by omega)]; exact hsc.1 q (by omega))
          rw [h98 k hk]; unfold plnR; rw [e4]
    · rw [inB_f hr] at hQ ⊢
      rw [if_neg (fun q => by cases q.2)] at hQ
      refine b_M_avert_11 (fun h11 => absurd h11 (by first | decide | assumption | omega | simp_all)) (fun h11 => b_M_avert_14 ?_)
      exact hQ _ _ hA smC_rf
  · rw [inB_f hs] at hQ ⊢
    rw [if_neg (fun q => by cases q.1)] at hQ
    refine b_M_avert_4 (fun h4 => b_M_avert_14 ?_) (fun h4 => absurd h4 (by first | decide | assumption | omega | simp_all))
    exact hQ _ _ hA smC_rf
end S79
