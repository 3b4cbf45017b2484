/-! the reference: judge -/
theorem chP_cg {c : Cl} {p q : Nat → Int32} {m : Nat} (h : ∀ y, y < m → p y = q y) : chP c p m = chP c q m := by
  have e1 : (fun y => if y < m then chWi (cW c y) (p y) else cW c y) = (fun y => if y < m then chWi (cW c y) (q y) else cW c y) := by
    funext y; by_cases hy : y < m
    · rw [if_pos hy, if_pos hy, h y hy]
    · rw [if_neg hy, if_neg hy]
  have e2 : (fun y => if y < m then chSi (cS c y) (p y) else cS c y) = (fun y => if y < m then chSi (cS c y) (q y) else cS c y) := by
    funext y; by_cases hy : y < m
    · rw [if_pos hy, if_pos hy, h y hy]
    · rw [if_neg hy, if_neg hy]
  unfold chP; rw [e1, e2]
theorem alI_b {w x : Int32} : alI w x = (inB x 7 && (decide (x = 6) || decide ((x = 5) ↔ (w = 1)))) := by
  unfold alI
  by_cases hx : vp_in x 7
  · rw [inB_t hx, Bool.true_and]
    obtain ⟨k, hk, rfl⟩ := vp_in_of hx (by decide)
    rw [alC_b hk, alC_al hk]
  · rw [inB_f hx, Bool.false_and]
    have h6 : ¬ x = 6 := fun q => hx (by rw [q]; exact vp_in_nI (n := 6) (by omega) (by omega))
    have h5 : ¬ x = 5 := fun q => hx (by rw [q]; exact vp_in_nI (n := 5) (by omega) (by omega))
    rw [decide_eq_false h6, Bool.false_or]
    by_cases h1 : w = 1
    · rw [if_pos h1]; exact decide_eq_false h5
    · rw [if_neg h1]; refine decide_eq_false (fun q => hx ?_); rw [vp_in_iff]; omega
section S74
variable {X : aX} {d : Nat} {vi : Nat → Nat → Int32} {vl : Nat → Nat → Int64} {post : aO} {A : aA} {c : Cl} {f g : Nat → Int32}
theorem m_judge {r : Int32} (hW : wfA A) (hA : AbM A vi vl) (hQ : PM vi vl post (oJudge A r)) : CallOk X (d + 5) 0 0 k_M_judge [.ref 95, .int r] (mk vi vl) post := by
  refine CallOk.intro (by decide +kernel) rfl (Nat.le_of_ble_eq_true rfl) ?_
  unfold oJudge at hQ
  have h5' := hW.N5
  have hp := hW.2.2.1.p
  have hn : vi 96 0 = nI (cN (aCu A)) := hA.V.1
  refine b_M_judge_0 ?_
  refine c_M_isRow ?_
  by_cases hr : vp_in r 6
  · rw [inB_t hr] at hQ ⊢
    rw [if_pos rfl] at hQ
    obtain ⟨m, hm, rfl⟩ := vp_in_of hr (by decide)
    have cm : (nI m).toNatClampNeg = m := nI_clamp (by omega)
    rw [cm] at hQ
    obtain ⟨e1, e2⟩ := hA.1 m hm
    have q0 : (nI (cN (aCu A)) = 0) ↔ cN (aCu A) = 0 := nI_eq (b := 0) (by omega) (by omega)
    by_cases h0 : cN (aCu A) = 0
    · have g : ¬ ¬ vi 96 0 = 0 := fun q => q (by rw [hn]; exact q0.mpr h0)
      rw [if_pos h0] at hQ
      refine b_M_judge_4 (fun h4 => b_M_judge_9 (fun h9 => absurd h9 (by first | decide | assumption | omega | simp_all)) (fun h9 => b_M_judge_18 ?_)) (fun h4 => absurd h4 (by first | decide | assumption | omega | simp_all))
      exact hQ _ _ hA smC_rf
    · have g : ¬ vi 96 0 = 0 := by rw [hn]; exact fun q => h0 (q0.mp q)
      rw [if_neg h0] at hQ
      rcases sz_or (hW.1 m hm) (by omega) with ⟨p1, p2, p3⟩ | ⟨n, hnn, p1, p2, p3, p4⟩
      · rw [if_pos p1] at hQ
        have g2 : ¬ 0 ≤ vi 99 (nI m).toNatClampNeg := by rw [cm, e1]; exact p2
        refine b_M_judge_4 (fun h4 => b_M_judge_9 (fun h9 => b_M_judge_21 (by first | assumption | decide | (refine vp_in_nI ?_ ?_ <;> omega) | omega | simp_all) (fun h21 => absurd h21 (by first | decide | assumption | omega | simp_all)) (fun h21 => b_M_judge_30 ?_)) (fun h9 => absurd h9 (by first | decide | assumption | omega | simp_all))) (fun h4 => absurd h4 (by first | decide | assumption | omega | simp_all))
        refine c_M_found (f := 1) (by decide) ?_
        refine b_M_judge_35 ?_
        exact hQ _ _ (AbM_fd hW hA (by decide)) (smC_of fun j hj => fd_o hj)
      · rw [if_neg p4] at hQ
        have g2 : ¬ ¬ 0 ≤ vi 99 (nI m).toNatClampNeg := fun q => q (by rw [cm, e1]; exact p2)
        by_cases hs : aRs A m = nI (cN (aCu A))
        · rw [if_pos hs] at hQ
          have g3 : ¬ ¬ vi 99 (nI m).toNatClampNeg = vi 96 0 := fun q => q (by rw [cm, e1, hn]; exact hs)
          refine b_M_judge_4 (fun h4 => b_M_judge_9 (fun h9 => b_M_judge_21 (by first | assumption | decide | (refine vp_in_nI ?_ ?_ <;> omega) | omega | simp_all) (fun h21 => b_M_judge_36 (by first | assumption | decide | (refine vp_in_nI ?_ ?_ <;> omega) | omega | simp_all) (fun h36 => b_M_judge_57 ?_) (fun h36 => absurd h36 (by first | decide | assumption | omega | simp_all))) (fun h21 => absurd h21 (by first | decide | assumption | omega | simp_all))) (fun h9 => absurd h9 (by first | decide | assumption | omega | simp_all))) (fun h4 => absurd h4 (by first | decide | assumption | omega | simp_all))
          have key := loop_up (P := fun y => ∀ l4, (∀ z, z < y → alI (cW (aCu A) z) (aRp A m z) = true) → alF (fun y => alI (cW (aCu A) y) (aRp A m y)) 0 (cN (aCu A)) = alF (fun y => alI (cW (aCu A) y) (aRp A m y)) y (cN (aCu A) - y) → wp X (d + 5) k_M_judge 0 0 61 [some (.ref 95), some (.int (nI m)), some (.int (nI (valP (fun z => (aRp A m z).toNatClampNeg) y))), some (.int (nI y)), l4, none] [] (mk vi vl) post) (cN (aCu A)) 0 (Nat.zero_le _) ?_ ?_
          · exact key _ (fun z hz => absurd hz (Nat.not_lt_zero _)) rfl
          · intro l4 hal he
            rw [Nat.sub_self] at he
            rw [he, if_pos (show alF (fun y => alI (cW (aCu A) y) (aRp A m y)) (cN (aCu A)) 0 = true from rfl)] at hQ
            have hpz : ∀ z, z < cN (aCu A) → ∃ k, k < 7 ∧ aRp A m z = nI k ∧ (aRp A m z).toNatClampNeg = k ∧ alC (cW (aCu A) z) k = true := fun z hz => by
              have := hal z hz
              rw [alI_b, Bool.and_eq_true] at this
              by_cases hx : vp_in (aRp A m z) 7
              · obtain ⟨k, hk, ek⟩ := vp_in_of hx (by decide)
                rw [ek, alC_b hk] at this
                exact ⟨k, hk, ek, by rw [ek]; exact nI_clamp (by omega), this.2⟩
              · rw [inB_f hx] at this; cases this.1
            have h7 : ∀ z, z < cN (aCu A) → (aRp A m z).toNatClampNeg < 7 := fun z hz => by obtain ⟨k, hk, -, e, -⟩ := hpz z hz; rw [e]; exact hk
            have hcode := valP_lt (cN (aCu A)) h7
            generalize hcd : valP (fun z => (aRp A m z).toNatClampNeg) (cN (aCu A)) = code at hcode
            have hdg : ∀ z, z < cN (aCu A) → dgc (cN (aCu A)) code z = (aRp A m z).toNatClampNeg := fun z hz => by rw [← hcd]; unfold dgc; exact valP_dg (p := fun z => (aRp A m z).toNatClampNeg) (cN (aCu A)) z h7 hz
            have hpl : plC (aCu A) (dgc (cN (aCu A)) code) (cN (aCu A)) = chP (aCu A) (aRp A m) (cN (aCu A)) := chP_cg (fun z hz => by rw [hdg z hz]; obtain ⟨k, hk, e, e', -⟩ := hpz z hz; rw [e', e])
            have hall : alF (fun y => alC (cW (aCu A) y) (dgc (cN (aCu A)) code y)) 0 (cN (aCu A)) = true := by
              rw [alF_iff]; intro z _ hz
              obtain ⟨k, hk, -, e, ha⟩ := hpz z (by omega)
              rw [hdg z (by omega), e]; exact ha
            have hcm := pow7_le h5'
            have g4 : ¬ ¬ vi 96 0 ≤ nI (cN (aCu A)) := fun q => q (by rw [hn]; exact Int32.le_refl _)
            refine b_M_judge_61 (fun h61 => b_M_judge_127 ?_) (fun h61 => absurd h61 (by first | decide | assumption | omega | simp_all))
            refine c_M_lays (fun u0 ha0 h00 => ?_)
            have hV0 : MV (aCu A) 0 (u0 96) := MV_fr hp.1 hA.V (fun k _ hk => h00 k (by omega))
            refine b_M_judge_131 ?_
            refine c_M_does (c := aCu A) hp.1 hcode ha0 hV0 (fun u hf => by rw [hall] at hf; cases hf) (fun u _ hau _ hVu _ => ?_)
            rw [hpl] at hVu
            have hp2 : wfP (chP (aCu A) (aRp A m) (cN (aCu A))) := by rw [← hpl]; exact pl_wfP hp (fun _ => dgc_7)
            have hct : ctP (dgc (cN (aCu A)) code) (cN (aCu A)) ≤ cN (aCu A) := cn_le _ _
            refine b_M_judge_136 ?_
            refine c_M_brokenNow hp2 hVu (by rw [hau.2.1 16 (by decide)]; exact hA.w) (fun w3 ho3 hP3 => ?_)
            have ha3 := asd_45 hau ho3
            refine b_M_judge_141 ?_
            refine c_M_happening hp2.1 hP3 ?_
            refine b_M_judge_147 ?_
            refine c_M_putsBack ha3 (fun u4 hu4 hu0 _ => ?_)
            have g5 : ¬ ¬ 0 ≤ nI (ctP (dgc (cN (aCu A)) code) (cN (aCu A))) := fun q => q (nI_pos' (by omega))
            refine b_M_judge_153 (fun h153 => b_M_judge_161 ?_) (fun h153 => absurd h153 (by first | decide | assumption | omega | simp_all))
            refine c_M_ones (brb_256 hp2.1) ?_
            refine b_M_judge_169 ?_
            refine c_M_tells ?_
            refine b_M_judge_172 ?_
            have hsc := asd_sc hu4 hu0
            exact hQ _ _ (AbM_ak hW (AbM_sc hW hA hsc rfl rfl) _) (smC_tr (smC_sc hsc) (smC_of fun q hq => up2_n (by omega)))
          · intro y _ hy ih l4 hal he
            have g4 : ¬ vi 96 0 ≤ nI y := by rw [hn]; exact nI_ge hy (by omega)
            have v1 : vp_in (40 * nI m + nI y) 240 := by rw [ix40]; exact vp_in_nI (by omega) (by omega)
            have ep : vi 98 (40 * nI m + nI y).toNatClampNeg = aRp A m y := by rw [ix40, nI_clamp (by omega)]; exact e2 y (by omega)
            have eal : alF (fun y => alI (cW (aCu A) y) (aRp A m y)) y (cN (aCu A) - y) = (alI (cW (aCu A) y) (aRp A m y) && alF (fun y => alI (cW (aCu A) y) (aRp A m y)) (y + 1) (cN (aCu A) - (y + 1))) := by rw [show cN (aCu A) - y = (cN (aCu A) - (y + 1)) + 1 by omega]; rfl
            rw [eal] at he
            have bad : alI (cW (aCu A) y) (aRp A m y) = false → PM vi vl post (-3, tFd A 3) := fun hb => by
              rw [hb, Bool.false_and] at he
              rw [he, if_neg (fun q => by cases q)] at hQ
              exact hQ
            refine b_M_judge_61 (fun h61 => absurd h61 (by first | decide | assumption | omega | simp_all)) (fun h61 => b_M_judge_71 (by first | assumption | decide | (refine vp_in_nI ?_ ?_ <;> omega) | omega | simp_all) ?_)
            rw [ep]
            refine c_M_in ?_
            rw [show (6 : Int64) = lN 6 from rfl, inK (by omega)]
            have eb := alI_b (w := cW (aCu A) y) (x := aRp A m y)
            by_cases hx : vp_in (aRp A m y) 7
            · rw [inB_t hx] at eb ⊢
              rw [Bool.true_and] at eb
              obtain ⟨k, hk, ek⟩ := vp_in_of hx (by decide)
              refine b_M_judge_94 (fun h94 => absurd h94 (by first | decide | assumption | omega | simp_all)) (fun h94 => b_M_judge_97 ?_)
              refine c_M_canBe (c := aCu A) hp.1 hy (hA.V.y hy).1 ?_
              rw [← eb]
              cases hb : alI (cW (aCu A) y) (aRp A m y)
              · refine b_M_judge_104 (fun h104 => absurd h104 (by first | decide | assumption | omega | simp_all)) (fun h104 => b_M_judge_107 ?_)
                refine c_M_found (f := 3) (by decide) ?_
                refine b_M_judge_112 ?_
                exact bad hb _ _ (AbM_fd hW hA (by decide)) (smC_of fun j hj => fd_o hj)
              · rw [hb, Bool.true_and] at he
                refine b_M_judge_104 (fun h104 => b_M_judge_113 ?_) (fun h104 => absurd h104 (by first | decide | assumption | omega | simp_all))
                have ev : 7 * nI (valP (fun z => (aRp A m z).toNatClampNeg) y) + aRp A m y = nI (valP (fun z => (aRp A m z).toNatClampNeg) (y + 1)) := by
                  show _ = nI (7 * valP (fun z => (aRp A m z).toNatClampNeg) y + (aRp A m y).toNatClampNeg)
                  rw [ek, nI_clamp (by omega), show (7 : Int32) = nI 7 from rfl, nI_mul, nI_add]
                rw [nI_1, ev]
                refine ih _ (fun z hz => ?_) he
                by_cases hzy : z = y
                · subst hzy; exact hb
                · exact hal z (by omega)
            · rw [inB_f hx] at eb ⊢
              rw [Bool.false_and] at eb
              refine b_M_judge_94 (fun h94 => b_M_judge_107 ?_) (fun h94 => absurd h94 (by first | decide | assumption | omega | simp_all))
              refine c_M_found (f := 3) (by decide) ?_
              refine b_M_judge_112 ?_
              exact bad eb _ _ (AbM_fd hW hA (by decide)) (smC_of fun j hj => fd_o hj)
        · rw [if_neg hs] at hQ
          have g3 : ¬ vi 99 (nI m).toNatClampNeg = vi 96 0 := by rw [cm, e1, hn]; exact hs
          refine b_M_judge_4 (fun h4 => b_M_judge_9 (fun h9 => b_M_judge_21 (by first | assumption | decide | (refine vp_in_nI ?_ ?_ <;> omega) | omega | simp_all) (fun h21 => b_M_judge_36 (by first | assumption | decide | (refine vp_in_nI ?_ ?_ <;> omega) | omega | simp_all) (fun h36 => absurd h36 (by first | decide | assumption | omega | simp_all)) (fun h36 => b_M_judge_51 ?_)) (fun h21 => absurd h21 (by first | decide | assumption | omega | simp_all))) (fun h9 => absurd h9 (by first | decide | assumption | omega | simp_all))) (fun h4 => absurd h4 (by first | decide | assumption | omega | simp_all))
          refine c_M_found (f := 5) (by decide) ?_
          refine b_M_judge_56 ?_
          exact hQ _ _ (AbM_fd hW hA (by decide)) (smC_of fun j hj => fd_o hj)
  · rw [inB_f hr] at hQ ⊢
    rw [if_neg (fun q => by cases q)] at hQ
    refine b_M_judge_4 (fun h4 => absurd h4 (by first | decide | assumption | omega | simp_all)) (fun h4 => b_M_judge_7 ?_)
    exact hQ _ _ hA smC_rf
end S74
