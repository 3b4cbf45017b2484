/-! the reference: safe, was, kinds, needed -/
section S63
variable {X : aX} {d : Nat} {vi : Nat → Nat → Int32} {vl : Nat → Nat → Int64} {post : aO} {A : aA} {c : Cl} {f g : Nat → Int32}
theorem alF_s {p : Nat → Bool} {i m : Nat} : alF p i (m + 1) = (p i && alF p (i + 1) m) := rfl
theorem m_safe {y : Int32} (hW : wfA A) (hA : AbM A vi vl) (hQ : PM vi vl post (oSafe A y)) : CallOk X (d + 5) 0 0 k_M_safe [.ref 95, .int y] (mk vi vl) post := by
  refine CallOk.intro (by decide +kernel) rfl (Nat.le_of_ble_eq_true rfl) ?_
  unfold oSafe at hQ
  have h5' := hW.N5
  have hp := hW.2.2.1.p
  have hn : vi 96 0 = nI (cN (aCu A)) := hA.V.1
  refine b_M_safe_0 ?_
  refine c_M_isYear hA.V h5' ?_
  by_cases hy : vp_in y (cN (aCu A))
  · rw [inB_t hy]
    obtain ⟨j, hj, rfl⟩ := vp_in_of hy (by omega)
    have cj : (nI j).toNatClampNeg = j := nI_clamp (by omega)
    have e1 : vi 96 0 - 1 = nI (cN (aCu A) - 1) := by rw [hn, show (1 : Int32) = nI 1 from rfl, nI_sub (by omega)]
    have q1 : (nI j = nI (cN (aCu A) - 1)) ↔ j = cN (aCu A) - 1 := nI_eq (by omega) (by omega)
    by_cases hl : j = cN (aCu A) - 1
    · have g : ¬ ¬ nI j = vi 96 0 - 1 := fun q => q (by rw [e1]; exact q1.mpr hl)
      rw [inB_f (fun q => by have := (vin_nI (by omega)).mp q; omega), if_neg (fun q => by cases q)] at hQ
      refine b_M_safe_5 (fun h5 => absurd h5 (by first | decide | assumption | omega | simp_all)) (fun h5 => b_M_safe_8 (fun h8 => absurd h8 (by first | decide | assumption | omega | simp_all)) (fun h8 => b_M_safe_20 ?_))
      exact hQ _ _ hA smC_rf
    · have g : ¬ nI j = vi 96 0 - 1 := by rw [e1]; exact fun q => hl (q1.mp q)
      rw [inB_nI (by omega) (by omega), if_pos rfl, cj] at hQ
      refine b_M_safe_5 (fun h5 => absurd h5 (by first | decide | assumption | omega | simp_all)) (fun h5 => b_M_safe_8 (fun h8 => b_M_safe_22 ?_) (fun h8 => absurd h8 (by first | decide | assumption | omega | simp_all)))
      refine c_M_lays (fun u0 ha0 h00 => ?_)
      refine b_M_safe_28 ?_
      have key := loop_up (P := fun s => ∀ w l4 l5, asd vi w → (∀ k, k < 36 → w 96 k = vi 96 k) → wp X (d + 5) k_M_safe 0 0 30 [some (.ref 95), some (.int (nI j)), some (.int (nI (bb (fun s => whoT (sty (aCu A) j 1 (nI s)) (j + 1)) s))), some (.int (nI s)), l4, l5] [] (mk w vl) post) 5 0 (by decide) ?_ ?_
      · exact key u0 _ _ ha0 h00
      · intro w l4 l5 ha h0
        have g1 : ¬ ¬ (5 : Int32) ≤ nI 5 := by decide
        refine b_M_safe_30 (fun h30 => b_M_safe_112 ?_) (fun h30 => absurd h30 (by first | decide | assumption | omega | simp_all))
        exact hQ _ _ (AbM_sc hW hA (asd_sc ha h0) rfl rfl) (smC_sc (asd_sc ha h0))
      · intro s _ hs ih w l4 l5 ha h0
        have g1 : ¬ (5 : Int32) ≤ nI s := nI_ge (a := s) (b := 5) hs (by omega)
        have hbs := bb_st (p := fun s => whoT (sty (aCu A) j 1 (nI s)) (j + 1)) (i := s) (by omega)
        refine b_M_safe_30 (fun h30 => absurd h30 (by first | decide | assumption | omega | simp_all)) (fun h30 => b_M_safe_35 ?_)
        have key2 := loop_up (P := fun t => ∀ w (b : Bool), asd vi w → (∀ k, k < 36 → w 96 k = vi 96 k) → whoT (sty (aCu A) j 1 (nI s)) (j + 1) = (b && alF (fun t => decide (brb (sty (sty (aCu A) j 1 (nI s)) (j + 1) 1 (nI t)) = 0)) t (5 - t)) → wp X (d + 5) k_M_safe 0 0 41 [some (.ref 95), some (.int (nI j)), some (.int (nI (bb (fun s => whoT (sty (aCu A) j 1 (nI s)) (j + 1)) s))), some (.int (nI s)), some (.int (bI b)), some (.int (nI t))] [] (mk w vl) post) 5 0 (by decide) ?_ ?_
        · exact key2 w true ha h0 (by rw [Bool.true_and]; rfl)
        · intro w b ha h0 hb
          have hb : whoT (sty (aCu A) j 1 (nI s)) (j + 1) = (b && true) := hb
          rw [Bool.and_true] at hb
          rw [hb] at hbs
          have g2 : ¬ ¬ (5 : Int32) ≤ nI 5 := by decide
          cases b
          · rw [if_neg (fun q => by cases q)] at hbs
            refine b_M_safe_41 (fun h41 => b_M_safe_91 (fun h91 => b_M_safe_103 (b_M_safe_104 ?_)) (fun h91 => absurd h91 (by first | decide | assumption | omega | simp_all))) (fun h41 => absurd h41 (by first | decide | assumption | omega | simp_all))
            rw [hbs, nI_1]
            exact ih w _ _ ha h0
          · rw [if_pos rfl] at hbs
            refine b_M_safe_41 (fun h41 => b_M_safe_91 (fun h91 => absurd h91 (by first | decide | assumption | omega | simp_all)) (fun h91 => b_M_safe_97 (b_M_safe_104 ?_))) (fun h41 => absurd h41 (by first | decide | assumption | omega | simp_all))
            rw [hbs, nI_1]
            exact ih w _ _ ha h0
        · intro t _ ht ih2 w b ha h0 hb
          have g2 : ¬ (5 : Int32) ≤ nI t := nI_ge (a := t) (b := 5) ht (by omega)
          rw [show 5 - t = (5 - (t + 1)) + 1 by omega, alF_s] at hb
          have hV : MV (aCu A) 0 (w 96) := MV_fr hp.1 hA.V (fun k _ hk => h0 k (by omega))
          refine b_M_safe_41 (fun h41 => absurd h41 (by first | decide | assumption | omega | simp_all)) (fun h41 => b_M_safe_47 ?_)
          refine c_M_sews (by omega) ?_
          have hV2 : MV (sty (aCu A) j 1 (nI s)) 0 (up2 (up2 w 96 (2 + j) 1) 96 (7 + j) (nI s) 96) := by rw [up2_s, up2_s]; exact MV_sty hp.1 hV hj
          have ha2 : asd vi (up2 (up2 w 96 (2 + j) 1) 96 (7 + j) (nI s)) := asd_up (asd_up ha (by omega)) (by omega)
          generalize up2 (up2 w 96 (2 + j) 1) 96 (7 + j) (nI s) = w2 at hV2 ha2
          refine b_M_safe_53 ?_
          rw [nI_1]
          refine c_M_sews (by omega) ?_
          have hV3 : MV (sty (sty (aCu A) j 1 (nI s)) (j + 1) 1 (nI t)) 0 (up2 (up2 w2 96 (2 + (j + 1)) 1) 96 (7 + (j + 1)) (nI t) 96) := by rw [up2_s, up2_s]; exact MV_sty (sty_v hp.1) hV2 (show j + 1 < cN (aCu A) by omega)
          have ha3 : asd vi (up2 (up2 w2 96 (2 + (j + 1)) 1) 96 (7 + (j + 1)) (nI t)) := asd_up (asd_up ha2 (by omega)) (by omega)
          generalize up2 (up2 w2 96 (2 + (j + 1)) 1) 96 (7 + (j + 1)) (nI t) = w3 at hV3 ha3
          cases b
          · rw [Bool.false_and] at hb
            refine b_M_safe_62 (fun h62 => b_M_safe_78 (b_M_safe_79 ?_)) (fun h62 => absurd h62 (by first | decide | assumption | omega | simp_all))
            refine c_M_putsBack ha3 (fun u hu hu0 _ => ?_)
            refine b_M_safe_85 ?_
            rw [nI_1]
            exact ih2 u false hu hu0 (by rw [Bool.false_and]; exact hb)
          · rw [Bool.true_and] at hb
            refine b_M_safe_62 (fun h62 => absurd h62 (by first | decide | assumption | omega | simp_all)) (fun h62 => b_M_safe_67 ?_)
            refine c_M_brokenNow (c := sty (sty (aCu A) j 1 (nI s)) (j + 1) 1 (nI t)) (sty_p (sty_p hp (Or.inr (Or.inl rfl))) (Or.inr (Or.inl rfl))) hV3 (by rw [ha3.2.1 16 (by decide)]; exact hA.w) (fun w4 ho _ => ?_)
            have ha4 := asd_45 ha3 ho
            have hb256 := brb_256 (sty_v (y := j + 1) (w := 1) (s := nI t) (sty_v (y := j) (w := 1) (s := nI s) hp.1))
            by_cases hz : brb (sty (sty (aCu A) j 1 (nI s)) (j + 1) 1 (nI t)) = 0
            · rw [decide_eq_true hz] at hb
              rw [hz]
              refine b_M_safe_71 (fun h71 => absurd h71 (by first | decide | assumption | omega | simp_all)) (fun h71 => b_M_safe_74 (b_M_safe_79 ?_))
              refine c_M_putsBack ha4 (fun u hu hu0 _ => ?_)
              refine b_M_safe_85 ?_
              rw [nI_1]
              exact ih2 u true hu hu0 hb
            · rw [decide_eq_false hz, Bool.false_and] at hb
              have g3 : ¬ nI (brb (sty (sty (aCu A) j 1 (nI s)) (j + 1) 1 (nI t))) = 0 := nI_ne0 (by omega) (by omega)
              refine b_M_safe_71 (fun h71 => b_M_safe_78 (b_M_safe_79 ?_)) (fun h71 => absurd h71 (by first | decide | assumption | omega | simp_all))
              refine c_M_putsBack ha4 (fun u hu hu0 _ => ?_)
              refine b_M_safe_85 ?_
              rw [nI_1]
              exact ih2 u false hu hu0 (by rw [Bool.false_and]; exact hb)
  · rw [inB_f hy]
    rw [inB_f (fun q => hy (by obtain ⟨j, hj, rfl⟩ := vp_in_of q (by omega); exact vp_in_nI (by omega) (by omega))), if_neg (fun q => by cases q)] at hQ
    refine b_M_safe_5 (fun h5 => b_M_safe_20 ?_) (fun h5 => absurd h5 (by first | decide | assumption | omega | simp_all))
    exact hQ _ _ hA smC_rf
theorem c_M_against {r : Nat} (hW : wfA A) (hA : AbM A vi vl) (hr : r < 6) (k0 : hsF A r = 0 → post (some (.int 0)) (mk vi vl)) (k1 : ∀ f, hsF A r = f → 1 ≤ f → f ≤ 5 → post (some (.int (-3))) (mk (fdM vi f) vl)) : CallOk X (d + 3) 0 0 k_M_against [.ref 95, .int (nI r)] (mk vi vl) post := by
  refine CallOk.intro (by decide +kernel) rfl (Nat.le_of_ble_eq_true rfl) ?_
  have h5' := hW.N5
  have hn : vi 96 0 = nI (cN (aCu A)) := hA.V.1
  have cr : (nI r).toNatClampNeg = r := nI_clamp (by omega)
  have vr : vp_in (nI r) 6 := vp_in_nI hr (by omega)
  obtain ⟨e1, e2⟩ := hA.1 r hr
  unfold hsF at k0 k1
  rcases sz_or (hW.1 r hr) (by omega) with ⟨p1, p2, p3⟩ | ⟨m, hm, p1, p2, p3, p4⟩
  · have g : ¬ 0 ≤ vi 99 (nI r).toNatClampNeg := by rw [cr, e1]; exact p2
    refine b_M_against_0 (by first | assumption | decide | (refine vp_in_nI ?_ ?_ <;> omega) | omega | simp_all) (fun h0 => absurd h0 (by first | decide | assumption | omega | simp_all)) (fun h0 => b_M_against_9 ?_)
    refine c_M_found (f := 1) (by decide) ?_
    refine b_M_against_14 ?_
    exact k1 1 (by rw [if_pos p1]) (by decide) (by decide)
  · have g : ¬ ¬ 0 ≤ vi 99 (nI r).toNatClampNeg := fun q => q (by rw [cr, e1]; exact p2)
    rw [if_neg p4] at k0 k1
    by_cases hs : aRs A r = nI (cN (aCu A))
    · rw [if_pos hs] at k0 k1
      have g2 : ¬ ¬ vi 99 (nI r).toNatClampNeg = vi 96 0 := fun q => q (by rw [cr, e1, hn]; exact hs)
      refine b_M_against_0 (by first | assumption | decide | (refine vp_in_nI ?_ ?_ <;> omega) | omega | simp_all) (fun h0 => b_M_against_15 (by first | assumption | decide | (refine vp_in_nI ?_ ?_ <;> omega) | omega | simp_all) (fun h15 => b_M_against_36 ?_) (fun h15 => absurd h15 (by first | decide | assumption | omega | simp_all))) (fun h0 => absurd h0 (by first | decide | assumption | omega | simp_all))
      have key := loop_up (P := fun y => ∀ l3, alF (fun y => hvB (aRp A r y)) 0 (cN (aCu A)) = alF (fun y => hvB (aRp A r y)) y (cN (aCu A) - y) → wp X (d + 3) k_M_against 0 0 38 [some (.ref 95), some (.int (nI r)), some (.int (nI y)), l3] [] (mk vi vl) post) (cN (aCu A)) 0 (Nat.zero_le _) ?_ ?_
      · exact key _ rfl
      · intro l3 he
        rw [Nat.sub_self] at he
        have g1 : ¬ ¬ vi 96 0 ≤ nI (cN (aCu A)) := fun q => q (by rw [hn]; exact Int32.le_refl _)
        refine b_M_against_38 (fun h38 => b_M_against_85 ?_) (fun h38 => absurd h38 (by first | decide | assumption | omega | simp_all))
        exact k0 (by rw [he]; rfl)
      · intro y _ hy ih l3 he
        have g1 : ¬ vi 96 0 ≤ nI y := by rw [hn]; exact nI_ge hy (by omega)
        have v1 : vp_in (40 * nI r + nI y) 240 := by rw [ix40]; exact vp_in_nI (by omega) (by omega)
        have ep : vi 98 (40 * nI r + nI y).toNatClampNeg = aRp A r y := by rw [ix40, nI_clamp (by omega)]; exact e2 y (by omega)
        rw [show cN (aCu A) - y = (cN (aCu A) - (y + 1)) + 1 by omega, alF_s (p := fun y => hvB (aRp A r y))] at he
        by_cases h9 : aRp A r y = -9
        · have g2 : ¬ ¬ vi 98 (40 * nI r + nI y).toNatClampNeg = -9 := fun q => q (by rw [ep]; exact h9)
          refine b_M_against_38 (fun h38 => absurd h38 (by first | decide | assumption | omega | simp_all)) (fun h38 => b_M_against_48 (by first | assumption | decide | (refine vp_in_nI ?_ ?_ <;> omega) | omega | simp_all) (fun h48 => b_M_against_79 ?_) (fun h48 => absurd h48 (by first | decide | assumption | omega | simp_all)))
          rw [nI_1]
          refine ih _ ?_
          rw [he]; show (hvB (aRp A r y) && _) = _; unfold hvB; rw [decide_eq_true h9, Bool.true_or, Bool.true_and]
        · have g2 : ¬ vi 98 (40 * nI r + nI y).toNatClampNeg = -9 := by rw [ep]; exact h9
          refine b_M_against_38 (fun h38 => absurd h38 (by first | decide | assumption | omega | simp_all)) (fun h38 => b_M_against_48 (by first | assumption | decide | (refine vp_in_nI ?_ ?_ <;> omega) | omega | simp_all) (fun h48 => absurd h48 (by first | decide | assumption | omega | simp_all)) (fun h48 => b_M_against_66 ?_))
          rw [ep]
          refine c_M_isTold ?_
          by_cases hsc : vp_in (aRp A r y) 5
          · rw [inB_t hsc]
            refine b_M_against_70 (fun h70 => b_M_against_79 ?_) (fun h70 => absurd h70 (by first | decide | assumption | omega | simp_all))
            rw [nI_1]
            refine ih _ ?_
            rw [he]; show (hvB (aRp A r y) && _) = _; unfold hvB; rw [inB_t hsc, Bool.or_true, Bool.true_and]
          · rw [inB_f hsc]
            refine b_M_against_70 (fun h70 => absurd h70 (by first | decide | assumption | omega | simp_all)) (fun h70 => b_M_against_73 ?_)
            refine c_M_found (f := 3) (by decide) ?_
            refine b_M_against_78 ?_
            have hf : alF (fun y => hvB (aRp A r y)) 0 (cN (aCu A)) = false := by rw [he]; show (hvB (aRp A r y) && _) = _; unfold hvB; rw [inB_f hsc, decide_eq_false h9]; rfl
            exact k1 3 (by rw [hf]; rfl) (by decide) (by decide)
    · rw [if_neg hs] at k1
      have g2 : ¬ vi 99 (nI r).toNatClampNeg = vi 96 0 := by rw [cr, e1, hn]; exact hs
      refine b_M_against_0 (by first | assumption | decide | (refine vp_in_nI ?_ ?_ <;> omega) | omega | simp_all) (fun h0 => b_M_against_15 (by first | assumption | decide | (refine vp_in_nI ?_ ?_ <;> omega) | omega | simp_all) (fun h15 => absurd h15 (by first | decide | assumption | omega | simp_all)) (fun h15 => b_M_against_30 ?_)) (fun h0 => absurd h0 (by first | decide | assumption | omega | simp_all))
      refine c_M_found (f := 5) (by decide) ?_
      refine b_M_against_35 ?_
      exact k1 5 rfl (by decide) (by decide)
theorem c_M_isSo {r : Nat} {f : Nat → Int32} (hw : wfP c) (hV : MV c 0 (vi 96)) (h16 : vi 95 16 = -9) (hr : r < 6) (hf : ∀ k, k < 40 → vi 98 (40 * r + k) = f k) (hQ : ∀ w, (∀ j, j ≠ 104 → j ≠ 105 → w j = vi j) → post (some (.int (bI (hpAs c f)))) (mk w vl)) : CallOk X (d + 4) 0 0 k_M_isSo [.ref 95, .int (nI r)] (mk vi vl) post := by
  refine CallOk.intro (by decide +kernel) rfl (Nat.le_of_ble_eq_true rfl) ?_
  have hn5 := hw.1.1
  refine b_M_isSo_0 ?_
  refine a_plays hw hV h16 (fun w ho hP => ?_)
  have e0 : w 96 0 = nI (cN c) := hP.1.1
  have hf2 : ∀ k, k < 40 → w 98 (40 * r + k) = f k := fun k hk => by rw [ho 98 (by decide) (by decide)]; exact hf k hk
  refine b_M_isSo_4 ?_
  have key := loop_up (P := fun y => ∀ b : Bool, hpAs c f = (b && alF (fun x => decide (hap c x = f x)) y (cN c - y)) → wp X (d + 4) k_M_isSo 0 0 8 [some (.ref 95), some (.int (nI r)), some (.int (bI b)), some (.int (nI y))] [] (mk w vl) post) (cN c) 0 (Nat.zero_le _) ?_ ?_
  · exact key true (by rw [Bool.true_and]; rfl)
  · intro b hb
    rw [Nat.sub_self] at hb
    have hb : hpAs c f = (b && true) := hb
    rw [Bool.and_true] at hb
    have g : ¬ ¬ w 96 0 ≤ nI (cN c) := fun q => q (by rw [e0]; exact Int32.le_refl _)
    have h01 := bI_01 b
    refine b_M_isSo_8 (fun h8 => b_M_isSo_54 (by first | assumption | decide | (refine vp_in_nI ?_ ?_ <;> omega) | omega | simp_all) ?_) (fun h8 => absurd h8 (by first | decide | assumption | omega | simp_all))
    rw [← hb]
    exact hQ w ho
  · intro y _ hy ih b hb
    have g : ¬ w 96 0 ≤ nI y := by rw [e0]; exact nI_ge hy (by omega)
    rw [show cN c - y = (cN c - (y + 1)) + 1 by omega, alF_s] at hb
    cases b
    · rw [Bool.false_and] at hb
      refine b_M_isSo_8 (fun h8 => absurd h8 (by first | decide | assumption | omega | simp_all)) (fun h8 => b_M_isSo_18 (fun h18 => b_M_isSo_46 (b_M_isSo_47 ?_)) (fun h18 => absurd h18 (by first | decide | assumption | omega | simp_all)))
      rw [nI_1]
      exact ih false (by rw [Bool.false_and]; exact hb)
    · rw [Bool.true_and] at hb
      have cy : (nI y).toNatClampNeg = y := nI_clamp (by omega)
      have vy : vp_in (nI y) 5 := vp_in_nI (by omega) (by omega)
      have v1 : vp_in (40 * nI r + nI y) 240 := by rw [ix40]; exact vp_in_nI (by omega) (by omega)
      have ep : w 98 (40 * nI r + nI y).toNatClampNeg = f y := by rw [ix40, nI_clamp (by omega)]; exact hf2 y (by omega)
      have eh : w 104 (nI y).toNatClampNeg = hap c y := by rw [cy]; exact (hP.2 y hy).1
      by_cases h : hap c y = f y
      · have g2 : ¬ ¬ w 104 (nI y).toNatClampNeg = w 98 (40 * nI r + nI y).toNatClampNeg := fun q => q (by rw [ep, eh]; exact h)
        rw [decide_eq_true h] at hb
        refine b_M_isSo_8 (fun h8 => absurd h8 (by first | decide | assumption | omega | simp_all)) (fun h8 => b_M_isSo_18 (fun h18 => absurd h18 (by first | decide | assumption | omega | simp_all)) (fun h18 => b_M_isSo_22 (by first | assumption | decide | (refine vp_in_nI ?_ ?_ <;> omega) | omega | simp_all) (by first | assumption | decide | (refine vp_in_nI ?_ ?_ <;> omega) | omega | simp_all) (fun h22 => absurd h22 (by first | decide | assumption | omega | simp_all)) (fun h22 => b_M_isSo_42 (b_M_isSo_47 ?_))))
        rw [nI_1]
        exact ih true hb
      · have g2 : ¬ w 104 (nI y).toNatClampNeg = w 98 (40 * nI r + nI y).toNatClampNeg := by rw [ep, eh]; exact h
        rw [decide_eq_false h, Bool.false_and] at hb
        refine b_M_isSo_8 (fun h8 => absurd h8 (by first | decide | assumption | omega | simp_all)) (fun h8 => b_M_isSo_18 (fun h18 => absurd h18 (by first | decide | assumption | omega | simp_all)) (fun h18 => b_M_isSo_22 (by first | assumption | decide | (refine vp_in_nI ?_ ?_ <;> omega) | omega | simp_all) (by first | assumption | decide | (refine vp_in_nI ?_ ?_ <;> omega) | omega | simp_all) (fun h22 => b_M_isSo_46 (b_M_isSo_47 ?_)) (fun h22 => absurd h22 (by first | decide | assumption | omega | simp_all))))
        rw [nI_1]
        exact ih false (by rw [Bool.false_and]; exact hb)
end S63
