/-! the reference: a CLOTH from a TEXT; what happens -/
section S55
variable {X : aX} {d : Nat} {vi : Nat → Nat → Int32} {vl : Nat → Nat → Int64} {post : aO} {A : aA} {c : Cl}
theorem inM {x : Int32} {n : Nat} (hn : n < 2 ^ 31) : decide ((0 : Int64).toInt ≤ x.toInt64.toInt ∧ x.toInt64.toInt ≤ (nI n - 1).toInt64.toInt) = inB x n := by
  unfold inB
  rw [Int32.toInt_toInt64, Int32.toInt_toInt64, nI_m1 hn]
  exact decide_eq_decide.mpr (by have : (0 : Int64).toInt = 0 := rfl; omega)
theorem c_M_isYear {x : Int32} (hV : MV c 0 (vi 96)) (hn : cN c ≤ 5) (hQ : post (some (.int (bI (inB x (cN c))))) (mk vi vl)) : CallOk X (d + 2) 0 0 k_M_isYear [.ref 95, .int x] (mk vi vl) post := by
  refine CallOk.intro (by decide +kernel) rfl (Nat.le_of_ble_eq_true rfl) ?_
  refine b_M_isYear_0 ?_
  refine c_M_in ?_
  rw [show vi 96 0 = nI (cN c) from hV.1, inM (by omega)]
  have hb := bI_01 (inB x (cN c))
  refine b_M_isYear_15 (by first | assumption | decide | (refine vp_in_nI ?_ ?_ <;> omega) | omega | simp_all) ?_
  exact hQ
theorem c_M_isLaw {x : Int32} (hV : MV c 0 (vi 96)) (hn : cL c ≤ 8) (hQ : post (some (.int (bI (inB x (cL c))))) (mk vi vl)) : CallOk X (d + 2) 0 0 k_M_isLaw [.ref 95, .int x] (mk vi vl) post := by
  refine CallOk.intro (by decide +kernel) rfl (Nat.le_of_ble_eq_true rfl) ?_
  refine b_M_isLaw_0 ?_
  refine c_M_in ?_
  rw [show vi 96 1 = nI (cL c) from hV.2.1, inM (by omega)]
  have hb := bI_01 (inB x (cL c))
  refine b_M_isLaw_15 (by first | assumption | decide | (refine vp_in_nI ?_ ?_ <;> omega) | omega | simp_all) ?_
  exact hQ
theorem inK {x : Int32} {k : Nat} (hk : k < 1000) : decide ((0 : Int64).toInt ≤ x.toInt64.toInt ∧ x.toInt64.toInt ≤ (lN k).toInt) = inB x (k + 1) := by
  unfold inB
  rw [Int32.toInt_toInt64, lN_toInt (by omega)]
  exact decide_eq_decide.mpr (by have : (0 : Int64).toInt = 0 := rfl; omega)
theorem c_M_isTold {x : Int32} (hQ : post (some (.int (bI (inB x 5)))) (mk vi vl)) : CallOk X (d + 2) 0 0 k_M_isTold [.int x] (mk vi vl) post := by
  refine CallOk.intro (by decide +kernel) rfl (Nat.le_of_ble_eq_true rfl) ?_
  refine b_M_isTold_0 ?_
  refine c_M_in ?_
  rw [show (4 : Int64) = lN 4 from rfl, inK (by omega)]
  have hb := bI_01 (inB x 5)
  refine b_M_isTold_9 (by first | assumption | decide | (refine vp_in_nI ?_ ?_ <;> omega) | omega | simp_all) ?_
  exact hQ
theorem m_fault {r : Int32} (hW : wfA A) (hA : AbM A vi vl) (hQ : PM vi vl post (oFault A r)) : CallOk X (d + 6) 0 0 k_M_fault [.ref 95, .int r] (mk vi vl) post := by
  refine CallOk.intro (by decide +kernel) rfl (Nat.le_of_ble_eq_true rfl) ?_
  unfold oFault at hQ
  refine b_M_fault_0 ?_
  refine c_M_isText ?_
  by_cases hr : vp_in r 4
  · rw [inB_t hr] at hQ ⊢
    rw [if_pos rfl] at hQ
    obtain ⟨m, hm, rfl⟩ := vp_in_of hr (by decide)
    have cm : (nI m).toNatClampNeg = m := nI_clamp (by omega)
    rw [cm] at hQ
    obtain ⟨e1, e2⟩ := hA.2.1 m hm
    rcases sz_or (hW.2.1 m hm) (by omega) with ⟨h1, h2, -⟩ | ⟨n, hn, h1, h2, -, h3⟩
    · rw [if_pos h1] at hQ
      have g : ¬ 0 ≤ vi 101 (nI m).toNatClampNeg := by rw [cm, e1]; exact h2
      refine b_M_fault_4 (fun h4 => b_M_fault_9 (by first | assumption | decide | (refine vp_in_nI ?_ ?_ <;> omega) | omega | simp_all) (fun h9 => absurd h9 (by first | decide | assumption | omega | simp_all)) (fun h9 => b_M_fault_18 ?_)) (fun h4 => absurd h4 (by first | decide | assumption | omega | simp_all))
      refine c_M_found (f := 1) (by decide) ?_
      refine b_M_fault_23 (b_M_fault_31 ?_)
      exact hQ _ _ (AbM_fd hW hA (by decide)) (smC_of fun j hj => fd_o hj)
    · rw [if_neg h3, h1, nI_clamp (by omega)] at hQ
      have g : 0 ≤ vi 101 (nI m).toNatClampNeg := by rw [cm, e1]; exact h2
      refine b_M_fault_4 (fun h4 => b_M_fault_9 (by first | assumption | decide | (refine vp_in_nI ?_ ?_ <;> omega) | omega | simp_all) (fun h9 => b_M_fault_26 ?_) (fun h9 => absurd h9 (by first | decide | assumption | omega | simp_all))) (fun h4 => absurd h4 (by first | decide | assumption | omega | simp_all))
      refine c_M_faultOf (f := aTp A m) (n := n) ⟨hm, hn, by rw [e1]; exact h1, e2⟩ (fun u hu _ => ?_)
      refine b_M_fault_31 ?_
      exact hQ _ _ (AbM_sc hW hA (rdM_sc hu) rfl rfl) (smC_sc (rdM_sc hu))
  · rw [inB_f hr] at hQ ⊢
    rw [if_neg (fun q => by cases q)] at hQ
    refine b_M_fault_4 (fun h4 => absurd h4 (by first | decide | assumption | omega | simp_all)) (fun h4 => b_M_fault_7 ?_)
    exact hQ _ _ hA smC_rf
theorem AbM_cu {w : Nat → Nat → Int32} (hW : wfA A) (h : AbM A vi vl) (hc : MF c 0 (w 96)) (ht : w 95 1 = nI (cT c)) (ho : ∀ j, (97 ≤ j ∧ j ≤ 101) ∨ j = 103 → w j = vi j) (h5 : ∀ k, k ≠ 1 → k ≠ 13 → k ≠ 18 → w 95 k = vi 95 k) (h96 : ∀ k, 1476 ≤ k → k < 5904 → w 96 k = vi 96 k) : AbM (tCu A c) w vl := by
  obtain ⟨a1, a2, a3, a4, a5, a6, a7⟩ := h
  refine ⟨fun r hr => ?_, fun t ht => ?_, ⟨hc, ht⟩, KpM_fr hW a4 rfl (ho 97 (by omega)) h96, ⟨?_, fun g hg => ?_⟩, ⟨?_, a6.2⟩, ?_⟩
  · rw [ho 99 (by omega), ho 98 (by omega)]; exact a1 r hr
  · rw [ho 101 (by omega), ho 100 (by omega)]; exact a2 t ht
  · rw [h5 8 (by decide) (by decide) (by decide)]; exact a5.1
  · rw [ho 103 (by omega)]; exact a5.2 g hg
  · rw [h5 10 (by decide) (by decide) (by decide)]; exact a6.1
  · rw [h5 16 (by decide) (by decide) (by decide)]; exact a7
theorem m_cloth {r : Int32} (hW : wfA A) (hA : AbM A vi vl) (hQ : PM vi vl post (oCloth A r)) : CallOk X (d + 6) 0 0 k_M_cloth [.ref 95, .int r] (mk vi vl) post := by
  refine CallOk.intro (by decide +kernel) rfl (Nat.le_of_ble_eq_true rfl) ?_
  unfold oCloth at hQ
  refine b_M_cloth_0 ?_
  refine c_M_isText ?_
  by_cases hr : vp_in r 4
  · rw [inB_t hr] at hQ ⊢
    rw [if_pos rfl] at hQ
    obtain ⟨m, hm, rfl⟩ := vp_in_of hr (by decide)
    have cm : (nI m).toNatClampNeg = m := nI_clamp (by omega)
    rw [cm] at hQ
    obtain ⟨e1, e2⟩ := hA.2.1 m hm
    rcases sz_or (hW.2.1 m hm) (by omega) with ⟨h1, h2, -⟩ | ⟨n, hn, h1, h2, -, h3⟩
    · rw [if_pos h1] at hQ
      have g : ¬ 0 ≤ vi 101 (nI m).toNatClampNeg := by rw [cm, e1]; exact h2
      refine b_M_cloth_4 (fun h4 => b_M_cloth_9 (by first | assumption | decide | (refine vp_in_nI ?_ ?_ <;> omega) | omega | simp_all) (fun h9 => absurd h9 (by first | decide | assumption | omega | simp_all)) (fun h9 => b_M_cloth_18 ?_)) (fun h4 => absurd h4 (by first | decide | assumption | omega | simp_all))
      refine c_M_found (f := 1) (by decide) ?_
      refine b_M_cloth_23 ?_
      exact hQ _ _ (AbM_fd hW hA (by decide)) (smC_of fun j hj => fd_o hj)
    · rw [if_neg h3, h1, nI_clamp (by omega)] at hQ
      have g : 0 ≤ vi 101 (nI m).toNatClampNeg := by rw [cm, e1]; exact h2
      refine b_M_cloth_4 (fun h4 => b_M_cloth_9 (by first | assumption | decide | (refine vp_in_nI ?_ ?_ <;> omega) | omega | simp_all) (fun h9 => b_M_cloth_24 ?_) (fun h9 => absurd h9 (by first | decide | assumption | omega | simp_all))) (fun h4 => absurd h4 (by first | decide | assumption | omega | simp_all))
      refine c_M_faultOf (f := aTp A m) (n := n) ⟨hm, hn, by rw [e1]; exact h1, e2⟩ (fun u hu hcl => ?_)
      by_cases h9 : prF (aTp A m) n = -9
      · rw [if_pos h9] at hQ
        have hcl := hcl h9
        rw [h9]
        refine b_M_cloth_29 (fun h29 => b_M_cloth_37 ?_) (fun h29 => absurd h29 (by first | decide | assumption | omega | simp_all))
        refine c_M_copyAll (a := 5904) (b := 0) (n := 36) (by omega) (by omega) (Or.inr (by omega)) ?_
        have hwf : wfC (clT (aTp A m) n) := clT_wf
        have e96 : ∀ k, k < 36 → va_cpy (u 96) (u 96) 5904 0 36 k = u 96 (5904 + k) := fun k hk => by unfold va_cpy; rw [if_pos (by omega)]; congr 1
        have o96 : ∀ k, 36 ≤ k → va_cpy (u 96) (u 96) 5904 0 36 k = u 96 k := fun k hk => by unfold va_cpy; rw [if_neg (by omega)]
        have hMV : MV (clT (aTp A m) n) 0 (va_cpy (u 96) (u 96) 5904 0 36) := MV_cp hwf.v hcl (fun k hk => by rw [Nat.zero_add]; exact e96 k hk)
        refine b_M_cloth_47 (fun w47 hw47 => b_M_cloth_52 ?_)
        have key := loop_up (P := fun k => ∀ w, (∀ q, q ≠ 97 → w q = w47 q) → (∀ i, i < k → w 97 i = -1) → wp X (d + 6) k_M_cloth 0 0 54 [some (.ref 95), some (.int (nI m)), some (.int (nI k))] [] (mk w vl) post) 3 0 (Nat.zero_le _) ?_ ?_
        · exact key w47 (fun _ _ => rfl) (fun i hi => absurd hi (Nat.not_lt_zero _))
        · intro w hw hk
          have g1 : ¬ ¬ (3 : Int32) ≤ nI 3 := by decide
          refine b_M_cloth_54 (fun h54 => b_M_cloth_72 ?_) (fun h54 => absurd h54 (by first | decide | assumption | omega | simp_all))
          have w96 : w 96 = va_cpy (u 96) (u 96) 5904 0 36 := by rw [hw 96 (by decide), hw47, up2_n (by decide), up1_s]
          have wo : ∀ q, q ≠ 95 → q ≠ 96 → q ≠ 97 → w q = vi q := fun q a b c => by rw [hw q c, hw47, up2_n a, up1_n b]; exact hu.1 q a b
          have w5 : ∀ k, k ≠ 1 → w 95 k = u 95 k := fun k hk => by rw [hw 95 (by decide), hw47, up2_s, vau_n hk, up1_n (by decide)]
          have w51 : w 95 1 = 0 := by rw [hw 95 (by decide), hw47, up2_s, vau_s]
          rw [show w 96 0 = nI (ytF (aTp A m) n) by rw [w96]; exact hMV.1]
          obtain ⟨a1, a2, a3, a4, a5, a6, a7⟩ := hA
          refine hQ _ _ ⟨fun r hr => ?_, fun t ht => ?_, ⟨⟨by rw [w96]; exact hMV, fun i hi => absurd hi (Nat.not_lt_zero _)⟩, w51⟩, fun k hk3 => hk k hk3, ⟨?_, fun g hg => ?_⟩, ⟨?_, a6.2⟩, ?_⟩ (smC_of fun q hq => wo q (by omega) (by omega) (by omega))
          · rw [wo 99 (by decide) (by decide) (by decide), wo 98 (by decide) (by decide) (by decide)]; exact a1 r hr
          · rw [wo 101 (by decide) (by decide) (by decide), wo 100 (by decide) (by decide) (by decide)]; exact a2 t ht
          · rw [w5 8 (by decide), hu.2.1 8 (by decide)]; exact a5.1
          · rw [wo 103 (by decide) (by decide) (by decide)]; exact a5.2 g hg
          · rw [w5 10 (by decide), hu.2.1 10 (by decide)]; exact a6.1
          · rw [w5 16 (by decide), hu.2.1 16 (by decide)]; exact a7
        · intro k _ hk ih w hw hk2
          have g1 : ¬ (3 : Int32) ≤ nI k := nI_ge (a := k) (b := 3) hk (by omega)
          have ck : (nI k).toNatClampNeg = k := nI_clamp (by omega)
          have vk : vp_in (nI k) 3 := vp_in_nI hk (by omega)
          refine b_M_cloth_54 (fun h54 => absurd h54 (by first | decide | assumption | omega | simp_all)) (fun h54 => b_M_cloth_59 (by first | assumption | decide | (refine vp_in_nI ?_ ?_ <;> omega) | omega | simp_all) (fun w59 hw59 => b_M_cloth_66 ?_))
          rw [nI_1]
          rw [ck] at hw59
          rw [hw59]
          refine ih _ (fun q hq => by rw [up2_n hq]; exact hw q hq) (fun i hi => ?_)
          rw [up2_s]
          by_cases hik : i = k
          · subst hik; rw [vau_s]
          · rw [vau_n hik]; exact hk2 i (by omega)
      · rw [if_neg h9] at hQ
        refine b_M_cloth_29 (fun h29 => absurd h29 (by first | decide | assumption | omega | simp_all)) (fun h29 => b_M_cloth_34 ?_)
        exact hQ _ _ (AbM_sc hW hA (rdM_sc hu) rfl rfl) (smC_sc (rdM_sc hu))
  · rw [inB_f hr] at hQ ⊢
    rw [if_neg (fun q => by cases q)] at hQ
    refine b_M_cloth_4 (fun h4 => absurd h4 (by first | decide | assumption | omega | simp_all)) (fun h4 => b_M_cloth_7 ?_)
    exact hQ _ _ hA smC_rf
theorem c_M_happenedAhead {y a : Nat} {s : Int32} (hy : y < 5) (ha : a < 3) (hQ : post (some (.int (bI (decide (a ≤ y) && decide (vi 104 (y - a) = s))))) (mk vi vl)) : CallOk X (d + 1) 0 0 k_M_happenedAhead [.ref 95, .int (nI y), .int (nI a), .int s] (mk vi vl) post := by
  refine CallOk.intro (by decide +kernel) rfl (Nat.le_of_ble_eq_true rfl) ?_
  by_cases h : a ≤ y
  · have g : ¬ nI y < nI a := nI_nlt h (by omega)
    have e : nI y - nI a = nI (y - a) := nI_sub h
    have v1 : vp_in (nI y - nI a) 5 := by rw [e]; exact vp_in_nI (by omega) (by omega)
    rw [decide_eq_true h, Bool.true_and] at hQ
    by_cases h2 : vi 104 (y - a) = s
    · have g2 : ¬ ¬ vi 104 (nI y - nI a).toNatClampNeg = s := fun q => q (by rw [e, nI_clamp (by omega)]; exact h2)
      rw [decide_eq_true h2] at hQ
      refine b_M_happenedAhead_0 (fun h0 => absurd h0 (by first | decide | assumption | omega | simp_all)) (fun h0 => b_M_happenedAhead_5 (by first | assumption | decide | (refine vp_in_nI ?_ ?_ <;> omega) | omega | simp_all) (fun h5 => absurd h5 (by first | decide | assumption | omega | simp_all)) (fun h5 => b_M_happenedAhead_17 (b_M_happenedAhead_22 (by first | assumption | decide | (refine vp_in_nI ?_ ?_ <;> omega) | omega | simp_all) ?_)))
      exact hQ
    · have g2 : ¬ vi 104 (nI y - nI a).toNatClampNeg = s := by rw [e, nI_clamp (by omega)]; exact h2
      rw [decide_eq_false h2] at hQ
      refine b_M_happenedAhead_0 (fun h0 => absurd h0 (by first | decide | assumption | omega | simp_all)) (fun h0 => b_M_happenedAhead_5 (by first | assumption | decide | (refine vp_in_nI ?_ ?_ <;> omega) | omega | simp_all) (fun h5 => b_M_happenedAhead_21 (b_M_happenedAhead_22 (by first | assumption | decide | (refine vp_in_nI ?_ ?_ <;> omega) | omega | simp_all) ?_)) (fun h5 => absurd h5 (by first | decide | assumption | omega | simp_all)))
      exact hQ
  · have g : ¬ ¬ nI y < nI a := fun q => q (nI_lt (by omega) (by omega))
    rw [decide_eq_false h, Bool.false_and] at hQ
    refine b_M_happenedAhead_0 (fun h0 => b_M_happenedAhead_21 (b_M_happenedAhead_22 (by first | assumption | decide | (refine vp_in_nI ?_ ?_ <;> omega) | omega | simp_all) ?_)) (fun h0 => absurd h0 (by first | decide | assumption | omega | simp_all))
    exact hQ
theorem ix2 (y : Nat) : (2 : Int32) + nI y = nI (2 + y) := by rw [show (2 : Int32) = nI 2 from rfl, nI_add]
theorem ix7 (y : Nat) : (7 : Int32) + nI y = nI (7 + y) := by rw [show (7 : Int32) = nI 7 from rfl, nI_add]
theorem ix12 (y : Nat) : (12 : Int32) + nI y = nI (12 + y) := by rw [show (12 : Int32) = nI 12 from rfl, nI_add]
theorem ix20 (y : Nat) : (20 : Int32) + nI y = nI (20 + y) := by rw [show (20 : Int32) = nI 20 from rfl, nI_add]
theorem ix28 (y : Nat) : (28 : Int32) + nI y = nI (28 + y) := by rw [show (28 : Int32) = nI 28 from rfl, nI_add]
theorem MV.y (h : MV c 0 (vi 96)) {y : Nat} (hy : y < cN c) : vi 96 (2 + y) = cW c y ∧ vi 96 (7 + y) = cS c y := by
  have := h.2.2.1 y hy; rw [Nat.zero_add, Nat.zero_add] at this; exact this
theorem MV.l (h : MV c 0 (vi 96)) {k : Nat} (hk : k < cL c) : vi 96 (12 + k) = cK c k ∧ vi 96 (20 + k) = cC c k ∧ vi 96 (28 + k) = cEn c k := by
  have := h.2.2.2 k hk; rw [Nat.zero_add, Nat.zero_add, Nat.zero_add] at this; exact this
theorem c_M_holds {k y : Nat} (hV : MV c 0 (vi 96)) (hw : wfV c) (hk : k < cL c) (hy : y < 5) (hQ : post (some (.int (bI (hldB (cK c) (cC c) (vi 104) k y)))) (mk vi vl)) : CallOk X (d + 2) 0 0 k_M_holds [.ref 95, .int (nI k), .int (nI y)] (mk vi vl) post := by
  refine CallOk.intro (by decide +kernel) rfl (Nat.le_of_ble_eq_true rfl) ?_
  have h8 := hw.2.1
  obtain ⟨e1, e2, e3⟩ := hV.l hk
  have v1 : vp_in (20 + nI k) 5976 := by rw [ix20]; exact vp_in_nI (by omega) (by omega)
  have v2 : vp_in (12 + nI k) 5976 := by rw [ix12]; exact vp_in_nI (by omega) (by omega)
  unfold hldB at hQ
  refine b_M_holds_0 (by first | assumption | decide | (refine vp_in_nI ?_ ?_ <;> omega) | omega | simp_all) (by first | assumption | decide | (refine vp_in_nI ?_ ?_ <;> omega) | omega | simp_all) ?_
  rw [ix20, ix12, nI_clamp (by omega), nI_clamp (by omega), e1, e2]
  refine ⟨fun h => ?_, fun h0 => ⟨fun h => ?_, fun h3 => ⟨fun h => ?_, fun h5 => ?_⟩⟩⟩
  · rw [if_pos h] at hQ
    refine b_M_holds_52 ?_
    refine c_M_happenedAhead (a := 1) hy (by omega) ?_
    have hb := bI_01 (decide (1 ≤ y) && decide (vi 104 (y - 1) = cC c k))
    refine b_M_holds_59 (by first | assumption | decide | (refine vp_in_nI ?_ ?_ <;> omega) | omega | simp_all) ?_
    exact hQ
  · rw [if_neg h0, if_pos h] at hQ
    refine b_M_holds_60 ?_
    refine c_M_happenedAhead (a := 2) hy (by omega) ?_
    have hb := bI_01 (decide (2 ≤ y) && decide (vi 104 (y - 2) = cC c k))
    refine b_M_holds_67 (by first | assumption | decide | (refine vp_in_nI ?_ ?_ <;> omega) | omega | simp_all) ?_
    exact hQ
  · rw [if_neg h0, if_neg h3, if_pos h] at hQ
    refine b_M_holds_68 ?_
    refine c_M_happenedAhead (a := 1) hy (by omega) ?_
    cases ha : decide (1 ≤ y) && decide (vi 104 (y - 1) = cC c k)
    · refine b_M_holds_75 (fun h75 => absurd h75 (by first | decide | assumption | omega | simp_all)) (fun h75 => b_M_holds_78 ?_)
      refine c_M_happenedAhead (a := 2) hy (by omega) ?_
      rw [ha, Bool.false_or] at hQ
      cases hb : decide (2 ≤ y) && decide (vi 104 (y - 2) = cC c k)
      · rw [hb] at hQ
        refine b_M_holds_85 (fun h85 => b_M_holds_92 (b_M_holds_93 (by first | assumption | decide | (refine vp_in_nI ?_ ?_ <;> omega) | omega | simp_all) ?_)) (fun h85 => absurd h85 (by first | decide | assumption | omega | simp_all))
        exact hQ
      · rw [hb] at hQ
        refine b_M_holds_85 (fun h85 => absurd h85 (by first | decide | assumption | omega | simp_all)) (fun h85 => b_M_holds_88 (b_M_holds_93 (by first | assumption | decide | (refine vp_in_nI ?_ ?_ <;> omega) | omega | simp_all) ?_))
        exact hQ
    · rw [ha, Bool.true_or] at hQ
      refine b_M_holds_75 (fun h75 => b_M_holds_88 (b_M_holds_93 (by first | assumption | decide | (refine vp_in_nI ?_ ?_ <;> omega) | omega | simp_all) ?_)) (fun h75 => absurd h75 (by first | decide | assumption | omega | simp_all))
      exact hQ
  · show wp X (d + 2) k_M_holds 0 0 94 _ _ _ _
    rw [if_neg h0, if_neg h3, if_neg h5] at hQ
    refine b_M_holds_94 ?_
    exact hQ
end S55
