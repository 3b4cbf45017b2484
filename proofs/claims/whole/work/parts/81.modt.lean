/-! the reference: odds -/
section S81
variable {X : aX} {d : Nat} {vi : Nat → Nat → Int32} {vl : Nat → Nat → Int64} {post : aO} {A : aA} {c : Cl} {f g : Nat → Int32}
theorem rdg_7 {pl : Nat → Bool} {q y : Nat} : rdg pl q y < 7 := by
  unfold rdg dm
  have : q / 6 ^ cn pl y % 6 < 6 := Nat.mod_lt _ (by decide)
  split
  · split <;> omega
  · omega
theorem nI_m6 {a : Nat} (ha : a < 2 ^ 31) : nI a - nI a / 6 * 6 = nI (a % 6) := nI_mod (b := 6) ha (by omega)
theorem nI_d6 {a : Nat} (ha : a < 2 ^ 31) : nI a / 6 = nI (a / 6) := nI_div (b := 6) ha (by omega)
theorem m_odds {s y : Int32} (hW : wfA A) (hA : AbM A vi vl) (hQ : PM vi vl post (oOdds A s y)) : CallOk X (d + 5) 0 0 k_M_odds [.ref 95, .int s, .int y] (mk vi vl) post := by
  refine CallOk.intro (by decide +kernel) rfl (Nat.le_of_ble_eq_true rfl) ?_
  unfold oOdds at hQ
  have h5' := hW.N5
  have hp := hW.2.2.1.p
  have hwc := hW.2.2.1
  refine b_M_odds_0 ?_
  refine c_M_isTold ?_
  by_cases hs : vp_in s 5
  · rw [inB_t hs] at hQ ⊢
    refine b_M_odds_4 (fun h4 => absurd h4 (by first | decide | assumption | omega | simp_all)) (fun h4 => b_M_odds_7 ?_)
    refine c_M_isYear hA.V h5' ?_
    by_cases hy : vp_in y (cN (aCu A))
    · rw [inB_t hy] at hQ ⊢
      rw [if_pos ⟨rfl, rfl⟩] at hQ
      obtain ⟨j, hj, rfl⟩ := vp_in_of hy (by omega)
      have cj : (nI j).toNatClampNeg = j := nI_clamp (by omega)
      have vj : vp_in (nI j) 5 := vp_in_nI (by omega) (by omega)
      have hpop : pop (ysT (aCu A) 0) = cn (plY (aCu A)) (cN (aCu A)) := pop_bb (by omega)
      have hm256 : ysT (aCu A) 0 < 256 := by have : ysT (aCu A) 0 < 32 := bb_32 h5'; omega
      rw [cj, num_O hwc hj hs, hpop] at hQ
      have hcn5 : cn (plY (aCu A)) (cN (aCu A)) ≤ 5 := Nat.le_trans (cn_le _ _) h5'
      have htb : ∀ z, z < cN (aCu A) → (ysT (aCu A) 0).testBit z = plY (aCu A) z := fun z hz => bb_tb _ _ hz
      have h6le : ∀ i, i ≤ 5 → 6 ^ i ≤ 7776 := fun i hi => by have : 6 ^ i ≤ 6 ^ 5 := Nat.pow_le_pow_right (by decide) hi; simpa using this
      refine b_M_odds_12 (fun h12 => b_M_odds_17 ?_) (fun h12 => absurd h12 (by first | decide | assumption | omega | simp_all))
      refine c_M_yearsThat (c := aCu A) hp.1 hA.V ?_
      generalize ysT (aCu A) 0 = mm at hm256 hpop htb ⊢
      refine b_M_odds_24 ?_
      generalize hP : cn (plY (aCu A)) (cN (aCu A)) = P at hQ hpop hcn5
      have h6P := h6le P hcn5
      have cnt := loop_up (P := fun i => wp X (d + 5) k_M_odds 0 0 29 [some (.ref 95), some (.int s), some (.int (nI j)), some (.int (nI (6 ^ i))), some (.int (nI mm)), some (.int (nI i)), none, none, none] [] (mk vi vl) post) P 0 (Nat.zero_le _) ?_ ?_
      · exact cnt
      · refine b_M_odds_29 ?_
        refine c_M_ones hm256 ?_
        rw [hpop]
        have g1 : ¬ ¬ nI P ≤ nI P := fun q => q (Int32.le_refl _)
        refine b_M_odds_36 (fun h36 => b_M_odds_50 ?_) (fun h36 => absurd h36 (by first | decide | assumption | omega | simp_all))
        refine c_M_lays (fun u0 ha0 h00 => ?_)
        refine b_M_odds_57 ?_
        have key := loop_up (P := fun q => ∀ w l7 l8, asd vi w → (∀ k, k < 36 → w 96 k = vi 96 k) → wp X (d + 5) k_M_odds 0 0 60 [some (.ref 95), some (.int s), some (.int (nI j)), some (.int (nI (6 ^ P))), some (.int (nI mm)), some (.int (nI (cn (odF (aCu A) j s) q))), some (.int (nI q)), l7, l8] [] (mk w vl) post) (6 ^ P) 0 (Nat.zero_le _) ?_ ?_
        · exact key u0 _ _ ha0 h00
        · intro w l7 l8 ha hw0
          have g2 : ¬ ¬ nI (6 ^ P) ≤ nI (6 ^ P) := fun q => q (Int32.le_refl _)
          refine b_M_odds_60 (fun h60 => b_M_odds_161 ?_) (fun h60 => absurd h60 (by first | decide | assumption | omega | simp_all))
          have hsc := asd_sc ha hw0
          have hle := cn_le (odF (aCu A) j s) (6 ^ P)
          refine c_M_chance (by omega) (by omega) (Nat.pow_pos (by decide)) (fun wl e1 e2 eo => ?_)
          refine b_M_odds_168 ?_
          exact hQ _ _ (AbM_ul hW hA hsc e1 e2) ⟨fun q hq => hsc.1 q (by omega), fun q hq => eo q (by omega)⟩
        · intro q _ hq ih w l7 l8 ha hw0
          have g2 : ¬ nI (6 ^ P) ≤ nI q := nI_ge hq (by omega)
          have hV : MV (aCu A) 0 (w 96) := MV_fr hp.1 hA.V (fun k _ hk => hw0 k (by omega))
          refine b_M_odds_60 (fun h60 => absurd h60 (by first | decide | assumption | omega | simp_all)) (fun h60 => b_M_odds_66 ?_)
          have inner := loop_up (P := fun z => ∀ u, asd vi u → MV (plC (aCu A) (rdg (plY (aCu A)) q) z) 0 (u 96) → wp X (d + 5) k_M_odds 0 0 73 [some (.ref 95), some (.int s), some (.int (nI j)), some (.int (nI (6 ^ P))), some (.int (nI mm)), some (.int (nI (cn (odF (aCu A) j s) q))), some (.int (nI q)), some (.int (nI (q / 6 ^ cn (plY (aCu A)) z))), some (.int (nI z))] [] (mk u vl) post) (cN (aCu A)) 0 (Nat.zero_le _) ?_ ?_
          · have := inner w ha (by unfold plC; rw [chP_0]; exact hV)
            rw [show q / 6 ^ cn (plY (aCu A)) 0 = q from by show q / 6 ^ 0 = q; rw [Nat.pow_zero, Nat.div_one]] at this
            exact this
          · intro u hau hVu
            have g3 : ¬ ¬ u 96 0 ≤ nI (cN (aCu A)) := fun r => r (by rw [show u 96 0 = nI (cN (aCu A)) from hVu.1]; exact Int32.le_refl _)
            refine b_M_odds_73 (fun h73 => b_M_odds_127 ?_) (fun h73 => absurd h73 (by first | decide | assumption | omega | simp_all))
            refine c_M_plays (c := plC (aCu A) (rdg (plY (aCu A)) q) (cN (aCu A))) (pl_wfP hp (fun _ => rdg_7)) hVu (fun w3 ho3 hP3 => ?_)
            rw [hau.2.1 16 (by decide), hA.w] at hP3
            have eh : w3 104 (nI j).toNatClampNeg = hap (plC (aCu A) (rdg (plY (aCu A)) q) (cN (aCu A))) j := by
              rw [cj, (hP3 j hj).1]; exact (woC_9 (c := plC (aCu A) (rdg (plY (aCu A)) q) (cN (aCu A))) hp.1.2.1 j).1
            have ha3 := asd_45 hau ho3
            by_cases hh : odF (aCu A) j s q = true
            · have g4 : ¬ ¬ w3 104 (nI j).toNatClampNeg = s := fun r => r (by rw [eh]; exact of_decide_eq_true hh)
              refine b_M_odds_131 (by first | assumption | decide | (refine vp_in_nI ?_ ?_ <;> omega) | omega | simp_all) (fun h131 => absurd h131 (by first | decide | assumption | omega | simp_all)) (fun h131 => b_M_odds_143 (b_M_odds_148 ?_))
              refine c_M_putsBack ha3 (fun u2 hu2 hu0 _ => ?_)
              refine b_M_odds_155 ?_
              have ih := ih u2 (some (.int (nI (q / 6 ^ cn (plY (aCu A)) (cN (aCu A)))))) (some (.int (nI (cN (aCu A))))) hu2 hu0
              rw [cn_t hh, ← nI_1, ← nI_1] at ih
              exact ih
            · have g4 : ¬ w3 104 (nI j).toNatClampNeg = s := by rw [eh]; exact fun r => hh (decide_eq_true r)
              refine b_M_odds_131 (by first | assumption | decide | (refine vp_in_nI ?_ ?_ <;> omega) | omega | simp_all) (fun h131 => b_M_odds_147 (b_M_odds_148 ?_)) (fun h131 => absurd h131 (by first | decide | assumption | omega | simp_all))
              refine c_M_putsBack ha3 (fun u2 hu2 hu0 _ => ?_)
              refine b_M_odds_155 ?_
              have ih := ih u2 (some (.int (nI (q / 6 ^ cn (plY (aCu A)) (cN (aCu A)))))) (some (.int (nI (cN (aCu A))))) hu2 hu0
              rw [cn_f (Bool.eq_false_iff.mpr hh), ← nI_1] at ih
              rw [Int32.add_zero]
              exact ih
          · intro z _ hz ih2 u hau hVu
            have g3 : ¬ u 96 0 ≤ nI z := by rw [show u 96 0 = nI (cN (aCu A)) from hVu.1]; exact nI_ge hz (by omega)
            have hp7 : rdg (plY (aCu A)) q z < 7 := rdg_7
            have ecW : cW (plC (aCu A) (rdg (plY (aCu A)) q) z) z = cW (aCu A) z := if_neg (Nat.lt_irrefl _)
            have ecS : cS (plC (aCu A) (rdg (plY (aCu A)) q) z) z = cS (aCu A) z := if_neg (Nat.lt_irrefl _)
            obtain ⟨eW, eS⟩ := hVu.y (show z < cN (plC (aCu A) (rdg (plY (aCu A)) q) z) from hz)
            rw [ecW] at eW
            rw [ecS] at eS
            have erd : rdg (plY (aCu A)) q z = if plY (aCu A) z then dm (q / 6 ^ cn (plY (aCu A)) z % 6) else 6 := rfl
            generalize hpz : rdg (plY (aCu A)) q z = e at hp7 erd
            have nxt : ∀ v2, v2 = up2 (up2 u 96 (2 + z) (chW (cW (aCu A) z) e)) 96 (7 + z) (chS (cS (aCu A) z) e) → wp X (d + 5) k_M_odds 0 0 73 [some (.ref 95), some (.int s), some (.int (nI j)), some (.int (nI (6 ^ P))), some (.int (nI mm)), some (.int (nI (cn (odF (aCu A) j s) q))), some (.int (nI q)), some (.int (nI (q / 6 ^ cn (plY (aCu A)) (z + 1)))), some (.int (nI (z + 1)))] [] (mk v2 vl) post := by
              intro v2 hv2
              refine ih2 v2 (by rw [hv2]; exact asd_up (asd_up hau (by omega)) (by omega)) ?_
              have b := MV_sty (c := plC (aCu A) (rdg (plY (aCu A)) q) z) (y := z) (w := chWi (cW (aCu A) z) (nI (rdg (plY (aCu A)) q z))) (s := chSi (cS (aCu A) z) (nI (rdg (plY (aCu A)) q z))) hp.1 hVu hz
              have es : sty (plC (aCu A) (rdg (plY (aCu A)) q) z) z (chWi (cW (aCu A) z) (nI (rdg (plY (aCu A)) q z))) (chSi (cS (aCu A) z) (nI (rdg (plY (aCu A)) q z))) = plC (aCu A) (rdg (plY (aCu A)) q) (z + 1) := chP_s (p := fun y => nI (rdg (plY (aCu A)) q y))
              rw [es, hpz, chWi_n hp7, chSi_n hp7] at b
              rw [hv2, up2_s, up2_s]; exact b
            have left : e = 6 → u = up2 (up2 u 96 (2 + z) (chW (cW (aCu A) z) e)) 96 (7 + z) (chS (cS (aCu A) z) e) := fun h6 => by
              rw [show chW (cW (aCu A) z) e = u 96 (2 + z) by rw [h6, eW]; rfl, up2_up1 (i := 96) (k := 2 + z), vau_id, up1_id, show chS (cS (aCu A) z) e = u 96 (7 + z) by rw [h6, eS]; rfl, up2_up1, vau_id, up1_id]
            have hq' : q / 6 ^ cn (plY (aCu A)) z < 2 ^ 31 := Nat.lt_of_le_of_lt (Nat.div_le_self _ _) (by omega)
            refine b_M_odds_73 (fun h73 => absurd h73 (by first | decide | assumption | omega | simp_all)) (fun h73 => b_M_odds_84 ?_)
            refine c_M_has hm256 (by omega) ?_
            rw [htb z hz]
            by_cases hpl : plY (aCu A) z = true
            · rw [if_pos hpl] at erd
              rw [hpl]
              have ed : q / 6 ^ cn (plY (aCu A)) z / 6 = q / 6 ^ cn (plY (aCu A)) (z + 1) := by rw [cn_t hpl, Nat.div_div_eq_div_mul, ← Nat.pow_succ]
              have hmd : q / 6 ^ cn (plY (aCu A)) z % 6 < 6 := Nat.mod_lt _ (by decide)
              by_cases hd5 : q / 6 ^ cn (plY (aCu A)) z % 6 = 5
              · have g5 : ¬ ¬ 5 ≤ nI (q / 6 ^ cn (plY (aCu A)) z) - nI (q / 6 ^ cn (plY (aCu A)) z) / 6 * 6 := fun r => r (by rw [nI_m6 hq', hd5]; decide)
                refine b_M_odds_91 (fun h91 => absurd h91 (by first | decide | assumption | omega | simp_all)) (fun h91 => b_M_odds_94 (fun h94 => b_M_odds_114 (b_M_odds_121 ?_)) (fun h94 => absurd h94 (by first | decide | assumption | omega | simp_all)))
                rw [nI_d6 hq', ed, nI_1]
                exact nxt u (left (by rw [erd, hd5]; rfl))
              · have g5 : ¬ 5 ≤ nI (q / 6 ^ cn (plY (aCu A)) z) - nI (q / 6 ^ cn (plY (aCu A)) z) / 6 * 6 := by rw [nI_m6 hq']; exact nI_ge (b := 5) (by omega) (by omega)
                have ee : e = q / 6 ^ cn (plY (aCu A)) z % 6 := by rw [erd]; unfold dm; rw [if_neg hd5]
                refine b_M_odds_91 (fun h91 => absurd h91 (by first | decide | assumption | omega | simp_all)) (fun h91 => b_M_odds_94 (fun h94 => absurd h94 (by first | decide | assumption | omega | simp_all)) (fun h94 => b_M_odds_103 ?_))
                rw [nI_m6 hq']
                refine c_M_sews (by omega) ?_
                refine b_M_odds_114 (b_M_odds_121 ?_)
                rw [nI_d6 hq', ed, nI_1]
                refine nxt _ ?_
                rw [← ee, chW_l (by omega), chS_l (by omega)]
            · rw [if_neg hpl] at erd
              have hpl := Bool.eq_false_iff.mpr hpl
              rw [hpl]
              refine b_M_odds_91 (fun h91 => b_M_odds_121 ?_) (fun h91 => absurd h91 (by first | decide | assumption | omega | simp_all))
              rw [nI_1, ← cn_f (p := plY (aCu A)) hpl]
              exact nxt u (left erd)
      · intro i _ hi ih
        refine b_M_odds_29 ?_
        refine c_M_ones hm256 ?_
        rw [hpop]
        have g1 : ¬ nI P ≤ nI i := nI_ge hi (by omega)
        refine b_M_odds_36 (fun h36 => absurd h36 (by first | decide | assumption | omega | simp_all)) (fun h36 => b_M_odds_39 ?_)
        rw [nI_1, show (6 : Int32) = nI 6 from rfl, nI_mul, ← Nat.pow_succ]
        exact ih
    · rw [inB_f hy] at hQ ⊢
      rw [if_neg (fun q => by cases q.2)] at hQ
      refine b_M_odds_12 (fun h12 => absurd h12 (by first | decide | assumption | omega | simp_all)) (fun h12 => b_M_odds_15 ?_)
      exact hQ _ _ hA smC_rf
  · rw [inB_f hs] at hQ ⊢
    rw [if_neg (fun q => by cases q.1)] at hQ
    refine b_M_odds_4 (fun h4 => b_M_odds_15 ?_) (fun h4 => absurd h4 (by first | decide | assumption | omega | simp_all))
    exact hQ _ _ hA smC_rf
end S81
