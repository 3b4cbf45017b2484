section S54
variable {X : aX} {d : Nat} {vi : Nat → Nat → Int32} {vl : Nat → Nat → Int64} {post : aO} {A : aA} {t n : Nat} {f : Nat → Int32}
theorem c_M_takesYears {p : Nat} (hT : TX vi t f n) (hp : p ≤ n) (h13 : vi 95 13 = nI p) (hQ0 : ¬ btF f n p = 121 → post (some (.int 0)) (mk vi vl)) (hQ1 : btF f n p = 121 → ∀ u, rdM vi u → u 95 13 = nI (p + 1 + yrF f n 5 (p + 1)) → u 96 5904 = nI (yrF f n 5 (p + 1)) → (∀ y, y < yrF f n 5 (p + 1) → u 96 (5906 + y) = (if yv f (p + 1 + y) = -9 then 0 else 1) ∧ u 96 (5911 + y) = yv f (p + 1 + y)) → u 96 5905 = vi 96 5905 → post (some (.int (bI (decide (2 ≤ yrF f n 5 (p + 1)) && !sgB f n (p + 1 + yrF f n 5 (p + 1)))))) (mk u vl)) : CallOk X (d + 4) 0 0 k_M_takesYears [.ref 95, .int (nI t)] (mk vi vl) post := by
  refine CallOk.intro (by decide +kernel) rfl (Nat.le_of_ble_eq_true rfl) ?_
  have hn60 := hT.2.1
  refine b_M_takesYears_0 ?_
  rw [h13]
  refine c_M_byteAt hT (by omega) ?_
  by_cases hy : btF f n p = 121
  · have hQ1 := hQ1 hy
    have hpn : p < n := Nat.not_le.mp fun q => by unfold btF at hy; rw [if_neg (by omega)] at hy; exact absurd hy (by decide)
    rw [hy]
    refine b_M_takesYears_9 (fun h9 => b_M_takesYears_16 (fun w16 hw16 => b_M_takesYears_26 ?_)) (fun h9 => absurd h9 (by first | decide | assumption | omega | simp_all))
    rw [h13, nI_1] at hw16
    have hle := yrF_le (f := f) (n := n) 5 (p + 1)
    generalize hyt : yrF f n 5 (p + 1) = yt at hQ1 hle
    have key := loop_up (P := fun j => ∀ u l3, rdM vi u → u 95 13 = nI (p + 1 + j) → (∀ y, y < j → u 96 (5906 + y) = (if yv f (p + 1 + y) = -9 then 0 else 1) ∧ u 96 (5911 + y) = yv f (p + 1 + y)) → u 96 5905 = vi 96 5905 → yt = j + yrF f n (5 - j) (p + 1 + j) → wp X (d + 4) k_M_takesYears 0 0 28 [some (.ref 95), some (.int (nI t)), some (.int (nI j)), l3] [] (mk u vl) post) yt 0 (Nat.zero_le _) ?_ ?_
    · exact key w16 _ (by rw [hw16]; exact rdM_p) (by rw [hw16, up2_s, vau_s]) (fun y hy => absurd hy (Nat.not_lt_zero _)) (by rw [hw16, up2_n (by decide)]) (by rw [← hyt, Nat.zero_add, Nat.sub_zero, Nat.add_zero])
    · intro u l3 hr hu13 hus hu5 he
      have hTu := hT.rd hr
      have fin : wp X (d + 4) k_M_takesYears 0 0 113 [some (.ref 95), some (.int (nI t)), some (.int (nI yt)), l3] [] (mk u vl) post := by
        have e13 : ∀ v, rdM vi (up2 u 96 5904 v) := fun v => rdM_tr hr (rdM_r (by decide))
        have hus2 : ∀ y, y < yt → up2 u 96 5904 (nI yt) 96 (5906 + y) = (if yv f (p + 1 + y) = -9 then 0 else 1) ∧ up2 u 96 5904 (nI yt) 96 (5911 + y) = yv f (p + 1 + y) := fun y hy => by
          rw [up2_s, vau_n (by omega), vau_n (by omega)]; exact hus y hy
        by_cases h2 : yt < 2
        · have g : ¬ ¬ nI yt < 2 := fun q => q (nI_lt (a := yt) (b := 2) h2 (by omega))
          refine b_M_takesYears_113 (fun w113 hw113 => b_M_takesYears_122 (fun h122 => b_M_takesYears_139 (b_M_takesYears_140 (by first | assumption | decide | (refine vp_in_nI ?_ ?_ <;> omega) | omega | simp_all) ?_)) (fun h122 => absurd h122 (by first | decide | assumption | omega | simp_all)))
          rw [hw113]
          have := hQ1 _ (e13 (nI yt)) (by rw [up2_n (by decide)]; exact hu13) (by rw [up2_s, vau_s]) hus2 (by rw [up2_s, vau_n (by decide)]; exact hu5)
          rw [decide_eq_false (by omega), Bool.false_and] at this
          exact this
        · have g : ¬ nI yt < 2 := nI_nlt (a := yt) (b := 2) (by omega) (by omega)
          refine b_M_takesYears_113 (fun w113 hw113 => b_M_takesYears_122 (fun h122 => absurd h122 (by first | decide | assumption | omega | simp_all)) (fun h122 => b_M_takesYears_127 ?_))
          have hT2 : TX w113 t f n := by rw [hw113]; exact hT.rd (e13 _)
          refine c_M_isSign (p := p + 1 + yt) hT2 (by omega) (by rw [hw113, up2_n (by decide)]; exact hu13) ?_
          have := hQ1 _ (e13 (nI yt)) (by rw [up2_n (by decide)]; exact hu13) (by rw [up2_s, vau_s]) hus2 (by rw [up2_s, vau_n (by decide)]; exact hu5)
          rw [decide_eq_true (by omega), Bool.true_and] at this
          cases hs : sgB f n (p + 1 + yt)
          · rw [hs] at this
            refine b_M_takesYears_132 (fun h132 => absurd h132 (by first | decide | assumption | omega | simp_all)) (fun h132 => b_M_takesYears_135 (b_M_takesYears_140 (by first | assumption | decide | (refine vp_in_nI ?_ ?_ <;> omega) | omega | simp_all) ?_))
            rw [hw113]
            exact this
          · rw [hs] at this
            refine b_M_takesYears_132 (fun h132 => b_M_takesYears_139 (b_M_takesYears_140 (by first | assumption | decide | (refine vp_in_nI ?_ ?_ <;> omega) | omega | simp_all) ?_)) (fun h132 => absurd h132 (by first | decide | assumption | omega | simp_all))
            rw [hw113]
            exact this
      by_cases h5 : 5 ≤ yt
      · have g : ¬ ¬ (5 : Int32) ≤ nI yt := fun q => q (nI_le (a := 5) h5 (by omega))
        refine b_M_takesYears_28 (fun h28 => ?_) (fun h28 => absurd h28 (by first | decide | assumption | omega | simp_all))
        exact fin
      · have g : ¬ (5 : Int32) ≤ nI yt := nI_ge (a := yt) (b := 5) (by omega) (by omega)
        refine b_M_takesYears_28 (fun h28 => absurd h28 (by first | decide | assumption | omega | simp_all)) (fun h28 => b_M_takesYears_33 ?_)
        refine c_M_isSign (p := p + 1 + yt) hTu (by omega) hu13 ?_
        have hs : sgB f n (p + 1 + yt) = false := by
          cases hs : sgB f n (p + 1 + yt)
          · rfl
          · rw [show 5 - yt = (5 - (yt + 1)) + 1 by omega] at he
            simp only [yrF] at he
            rw [if_pos hs] at he; omega
        rw [hs]
        refine b_M_takesYears_38 (fun h38 => ?_) (fun h38 => absurd h38 (by first | decide | assumption | omega | simp_all))
        exact fin
    · intro j _ hj ih u l3 hr hu13 hus hu5 he
      have hTu := hT.rd hr
      have g : ¬ (5 : Int32) ≤ nI j := nI_ge (a := j) (b := 5) (by omega) (by omega)
      have hs : sgB f n (p + 1 + j) = true := by
        rw [show 5 - j = (5 - (j + 1)) + 1 by omega] at he
        simp only [yrF] at he
        by_cases hs : sgB f n (p + 1 + j) = true
        · exact hs
        · rw [if_neg hs] at he; omega
      have he2 : yt = j + 1 + yrF f n (5 - (j + 1)) (p + 1 + (j + 1)) := by
        rw [show 5 - j = (5 - (j + 1)) + 1 by omega] at he
        simp only [yrF] at he
        rw [if_pos hs] at he
        rw [show p + 1 + (j + 1) = p + 1 + j + 1 by omega]; omega
      have hin := (sg_nk hs).1
      have ebt : btF f n (p + 1 + j) = f (p + 1 + j) := by unfold btF; rw [if_pos hin]
      refine b_M_takesYears_28 (fun h28 => absurd h28 (by first | decide | assumption | omega | simp_all)) (fun h28 => b_M_takesYears_33 ?_)
      refine c_M_isSign (p := p + 1 + j) hTu (by omega) hu13 ?_
      rw [hs]
      refine b_M_takesYears_38 (fun h38 => absurd h38 (by first | decide | assumption | omega | simp_all)) (fun h38 => b_M_takesYears_41 ?_)
      rw [hu13]
      refine c_M_byteAt hTu (by omega) ?_
      rw [ebt]
      have hwf := yv_wf hs
      have a1 : (5906 : Int32) + nI j = nI (5906 + j) := by rw [show (5906 : Int32) = nI 5906 from rfl, nI_add]
      have a2 : (5911 : Int32) + nI j = nI (5911 + j) := by rw [show (5911 : Int32) = nI 5911 from rfl, nI_add]
      have v1 : vp_in (5906 + nI j) 5976 := by rw [a1]; exact vp_in_nI (by omega) (by omega)
      have v2 : vp_in (5911 + nI j) 5976 := by rw [a2]; exact vp_in_nI (by omega) (by omega)
      have done : ∀ (u2 : Nat → Nat → Int32) (x y : Int32) l3, x = (if yv f (p + 1 + j) = -9 then 0 else 1) → y = yv f (p + 1 + j) → u2 = up2 (up2 (up2 u 96 (5906 + j) x) 96 (5911 + j) y) 95 13 (nI (p + 1 + j + 1)) → wp X (d + 4) k_M_takesYears 0 0 28 [some (.ref 95), some (.int (nI t)), some (.int (nI (j + 1))), l3] [] (mk u2 vl) post := by
        intro u2 x y l3 hx hy hu2
        refine ih u2 l3 ?_ ?_ (fun z hz => ?_) ?_ he2
        · rw [hu2]; exact rdM_tr hr (rdM_tr (rdM_r (by omega)) (rdM_tr (rdM_r (by omega)) rdM_p))
        · rw [hu2, up2_s, vau_s]; rfl
        · rw [hu2, up2_n (by decide), up2_s, up2_s]
          by_cases hzj : z = j
          · subst hzj
            rw [vau_n (by omega), vau_s, vau_s]; exact ⟨hx, hy⟩
          · rw [vau_n (by omega), vau_n (by omega), vau_n (by omega), vau_n (by omega)]; exact hus z (by omega)
        · rw [hu2, up2_n (by decide), up2_s, vau_n (by omega), up2_s, vau_n (by omega)]; exact hu5
      by_cases h45 : f (p + 1 + j) = 45
      · have eyv : yv f (p + 1 + j) = -9 := by unfold yv; rw [if_pos h45]
        rw [h45]
        refine b_M_takesYears_50 (fun h50 => absurd h50 (by first | decide | assumption | omega | simp_all)) (fun h50 => b_M_takesYears_66 (b_M_takesYears_71 (by first | assumption | decide | (refine vp_in_nI ?_ ?_ <;> omega) | omega | simp_all) (fun w71 hw71 => b_M_takesYears_72 (fun h72 => absurd h72 (by first | decide | assumption | omega | simp_all)) (fun h72 => b_M_takesYears_87 (b_M_takesYears_96 (by first | assumption | decide | (refine vp_in_nI ?_ ?_ <;> omega) | omega | simp_all) (fun w96 hw96 => b_M_takesYears_97 (fun w97 hw97 => b_M_takesYears_110 ?_)))))))
        rw [nI_1]
        have q13 : w96 95 13 = nI (p + 1 + j) := by rw [hw96, up2_n (by decide), hw71, up2_n (by decide)]; exact hu13
        rw [q13, nI_1] at hw97
        refine done _ 0 (-9) _ (by rw [eyv, if_pos rfl]) eyv.symm ?_
        rw [hw97, hw96, hw71, a1, a2, nI_clamp (by omega), nI_clamp (by omega)]
      · have eyv : yv f (p + 1 + j) = f (p + 1 + j) - 48 := by unfold yv; rw [if_neg h45]
        have hn9 : ¬ yv f (p + 1 + j) = -9 := fun q => by
          rcases hwf with ⟨h1, h2⟩ | ⟨h1, h2⟩
          · rw [eyv] at q
            have : f (p + 1 + j) = 39 := by
              have e3 : f (p + 1 + j) = f (p + 1 + j) - 48 + 48 := by rw [Int32.sub_add_cancel]
              rw [e3, q]; decide
            have := (sg_nk hs)
            unfold sgB at hs
            simp [h45] at hs
            have hv := scB_v hs
            rw [q] at hv
            exact absurd (Or.inl (by decide)) hv
          · rw [q] at h2; exact absurd (Or.inl (by decide)) h2
        refine b_M_takesYears_50 (fun h50 => b_M_takesYears_70 (b_M_takesYears_71 (by first | assumption | decide | (refine vp_in_nI ?_ ?_ <;> omega) | omega | simp_all) (fun w71 hw71 => b_M_takesYears_72 (fun h72 => b_M_takesYears_92 (b_M_takesYears_96 (by first | assumption | decide | (refine vp_in_nI ?_ ?_ <;> omega) | omega | simp_all) (fun w96 hw96 => b_M_takesYears_97 (fun w97 hw97 => b_M_takesYears_110 ?_)))) (fun h72 => absurd h72 (by first | decide | assumption | omega | simp_all))))) (fun h50 => absurd h50 (by first | decide | assumption | omega | simp_all))
        rw [nI_1]
        have q13 : w96 95 13 = nI (p + 1 + j) := by rw [hw96, up2_n (by decide), hw71, up2_n (by decide)]; exact hu13
        rw [q13, nI_1] at hw97
        refine done _ 1 (f (p + 1 + j) - 48) _ (by rw [if_neg hn9]) eyv.symm ?_
        rw [hw97, hw96, hw71, a1, a2, nI_clamp (by omega), nI_clamp (by omega)]
  · refine b_M_takesYears_9 (fun h9 => absurd h9 (by first | decide | assumption | omega | simp_all)) (fun h9 => b_M_takesYears_14 ?_)
    exact hQ0 hy
/-- a LAW is taken, or the position tells the FAULT -/
theorem c_M_takesLaw {p L : Nat} (hT : TX vi t f n) (hp : p < n) (hL : L ≤ 8) (h13 : vi 95 13 = nI p) (h5 : vi 96 5905 = nI L)
    (hF : ∀ u q, rdM vi u → u 95 13 = nI q → ((q = p ∧ (kdF (f p) = -9 ∨ L = 8)) ∨ (q = p + 1 ∧ ¬ kdF (f p) = -9 ∧ L < 8 ∧ scB f n (p + 1) = false) ∨ (q = p + 2 ∧ ¬ kdF (f p) = -9 ∧ L < 8 ∧ scB f n (p + 1) = true ∧ scB f n (p + 2) = false)) → post (some (.int 0)) (mk u vl))
    (hS : ¬ kdF (f p) = -9 → L < 8 → scB f n (p + 1) = true → scB f n (p + 2) = true → ∀ u, rdM vi u → u 95 13 = nI (p + 3) → u 96 5905 = nI (L + 1) → u 96 (5916 + L) = kdF (f p) → u 96 (5924 + L) = f (p + 1) - 48 → u 96 (5932 + L) = f (p + 2) - 48 → (∀ k, k ≠ 5905 → k ≠ 5916 + L → k ≠ 5924 + L → k ≠ 5932 + L → u 96 k = vi 96 k) → post (some (.int 1)) (mk u vl)) : CallOk X (d + 3) 0 0 k_M_takesLaw [.ref 95, .int (nI t)] (mk vi vl) post := by
  refine CallOk.intro (by decide +kernel) rfl (Nat.le_of_ble_eq_true rfl) ?_
  have hn60 := hT.2.1
  refine b_M_takesLaw_0 ?_
  rw [h13]
  refine c_M_byteAt hT (by omega) ?_
  have eb : btF f n p = f p := by unfold btF; rw [if_pos hp]
  rw [eb]
  refine b_M_takesLaw_9 ?_
  refine c_M_kindOf ?_
  by_cases hk : kdF (f p) = -9
  · rw [if_pos hk]
    have g : ¬ ¬ (-1 : Int32) < 0 := by decide
    refine b_M_takesLaw_12 (fun h12 => b_M_takesLaw_32 ?_) (fun h12 => absurd h12 (by first | decide | assumption | omega | simp_all))
    exact hF vi p rdM_rf h13 (Or.inl ⟨rfl, Or.inl hk⟩)
  · rw [if_neg hk]
    rcases kdF_or (f p) with q | ⟨kk, hkk, ek⟩
    · exact absurd q hk
    · have g : ¬ kdF (f p) < 0 := by rw [ek]; exact nI_pos (by omega)
      by_cases h8 : L = 8
      · have g8 : ¬ ¬ vi 96 5905 = 8 := fun q => q (by rw [h5, h8]; rfl)
        refine b_M_takesLaw_12 (fun h12 => absurd h12 (by first | decide | assumption | omega | simp_all)) (fun h12 => b_M_takesLaw_26 (fun h26 => absurd h26 (by first | decide | assumption | omega | simp_all)) (fun h26 => b_M_takesLaw_32 ?_))
        exact hF vi p rdM_rf h13 (Or.inl ⟨rfl, Or.inr h8⟩)
      · have g8 : ¬ vi 96 5905 = 8 := by rw [h5]; exact fun q => h8 ((nI_eq (b := 8) (by omega) (by omega)).mp q)
        have a1 : (5916 : Int32) + vi 96 5905 = nI (5916 + L) := by rw [h5, show (5916 : Int32) = nI 5916 from rfl, nI_add]
        have v1 : vp_in (5916 + vi 96 5905) 5976 := by rw [a1]; exact vp_in_nI (by omega) (by omega)
        refine b_M_takesLaw_12 (fun h12 => absurd h12 (by first | decide | assumption | omega | simp_all)) (fun h12 => b_M_takesLaw_26 (fun h26 => b_M_takesLaw_34 (by first | assumption | decide | (refine vp_in_nI ?_ ?_ <;> omega) | omega | simp_all) (fun w34 hw34 => b_M_takesLaw_45 (fun w45 hw45 => b_M_takesLaw_55 ?_))) (fun h26 => absurd h26 (by first | decide | assumption | omega | simp_all)))
        rw [a1, nI_clamp (by omega)] at hw34
        have q34 : w34 95 13 = nI p := by rw [hw34, up2_n (by decide)]; exact h13
        rw [q34, nI_1] at hw45
        have e45 : w45 = up2 (up2 vi 96 (5916 + L) (kdF (f p))) 95 13 (nI (p + 1)) := by rw [hw45, hw34]
        have r45 : rdM vi w45 := by rw [e45]; exact rdM_tr (rdM_r (by omega)) rdM_p
        have p45 : w45 95 13 = nI (p + 1) := by rw [e45, up2_s, vau_s]
        rw [h5]
        have g0 : ¬ (2 : Int32) ≤ 0 := by decide
        refine b_M_takesLaw_58 (fun h58 => absurd h58 (by first | decide | assumption | omega | simp_all)) (fun h58 => b_M_takesLaw_64 ?_)
        refine c_M_isScene (p := p + 1) (hT.rd r45) (by omega) p45 ?_
        cases hs1 : scB f n (p + 1)
        · refine b_M_takesLaw_69 (fun h69 => absurd h69 (by first | decide | assumption | omega | simp_all)) (fun h69 => b_M_takesLaw_72 ?_)
          exact hF w45 (p + 1) r45 p45 (Or.inr (Or.inl ⟨rfl, hk, by omega, hs1⟩))
        · have hin1 : p + 1 < n := by have h := hs1; unfold scB at h; simp at h; exact h.1
          refine b_M_takesLaw_69 (fun h69 => b_M_takesLaw_74 ?_) (fun h69 => absurd h69 (by first | decide | assumption | omega | simp_all))
          rw [p45]
          refine c_M_byteAt (hT.rd r45) (by omega) ?_
          have eb1 : btF f n (p + 1) = f (p + 1) := by unfold btF; rw [if_pos hin1]
          rw [eb1]
          have a2 : (5924 : Int32) + 8 * 0 + nI L = nI (5924 + L) := by rw [show (5924 : Int32) + 8 * 0 = nI 5924 from rfl, nI_add]
          have v2 : vp_in (5924 + 8 * 0 + nI L) 5976 := by rw [a2]; exact vp_in_nI (by omega) (by omega)
          refine b_M_takesLaw_98 (by first | assumption | decide | (refine vp_in_nI ?_ ?_ <;> omega) | omega | simp_all) (fun w98 hw98 => b_M_takesLaw_102 (fun w102 hw102 => b_M_takesLaw_112 ?_))
          rw [a2, nI_clamp (by omega)] at hw98
          have q98 : w98 95 13 = nI (p + 1) := by rw [hw98, up2_n (by decide)]; exact p45
          rw [q98, nI_1] at hw102
          have r102 : rdM vi w102 := by rw [hw102, hw98]; exact rdM_tr r45 (rdM_tr (rdM_r (by omega)) rdM_p)
          have p102 : w102 95 13 = nI (p + 2) := by rw [hw102, up2_s, vau_s]
          have o102 : ∀ k, w102 96 k = va_up (va_up (vi 96) (5916 + L) (kdF (f p))) (5924 + L) (f (p + 1) - 48) k := fun k => by rw [hw102, up2_n (by decide), hw98, up2_s, e45, up2_n (by decide), up2_s]
          have g0 : ¬ (2 : Int32) ≤ 0 + 1 := by decide
          clear hw102 hw98
          refine b_M_takesLaw_58 (fun h58 => absurd h58 (by first | decide | assumption | omega | simp_all)) (fun h58 => b_M_takesLaw_64 ?_)
          refine c_M_isScene (p := p + 2) (hT.rd r102) (by omega) p102 ?_
          cases hs2 : scB f n (p + 2)
          · refine b_M_takesLaw_69 (fun h69 => absurd h69 (by first | decide | assumption | omega | simp_all)) (fun h69 => b_M_takesLaw_72 ?_)
            exact hF w102 (p + 2) r102 p102 (Or.inr (Or.inr ⟨rfl, hk, by omega, hs1, hs2⟩))
          · have hin2 : p + 2 < n := by have h := hs2; unfold scB at h; simp at h; exact h.1
            refine b_M_takesLaw_69 (fun h69 => b_M_takesLaw_74 ?_) (fun h69 => absurd h69 (by first | decide | assumption | omega | simp_all))
            rw [p102]
            refine c_M_byteAt (hT.rd r102) (by omega) ?_
            have eb2 : btF f n (p + 2) = f (p + 2) := by unfold btF; rw [if_pos hin2]
            rw [eb2]
            have a3 : (5924 : Int32) + 8 * (0 + 1) + nI L = nI (5932 + L) := by rw [show (5924 : Int32) + 8 * (0 + 1) = nI 5932 from rfl, nI_add]
            have v3 : vp_in (5924 + 8 * (0 + 1) + nI L) 5976 := by rw [a3]; exact vp_in_nI (by omega) (by omega)
            refine b_M_takesLaw_98 (by first | assumption | decide | (refine vp_in_nI ?_ ?_ <;> omega) | omega | simp_all) (fun w98 hw98 => b_M_takesLaw_102 (fun w102 hw102 => b_M_takesLaw_112 ?_))
            rw [a3, nI_clamp (by omega)] at hw98
            have q98b : w98 95 13 = nI (p + 2) := by rw [hw98, up2_n (by decide)]; exact p102
            rw [q98b, nI_1] at hw102
            have r2 : rdM vi w102 := by rw [hw102, hw98]; exact rdM_tr r102 (rdM_tr (rdM_r (by omega)) rdM_p)
            have p2 : w102 95 13 = nI (p + 3) := by rw [hw102, up2_s, vau_s]
            have o2 : ∀ k, w102 96 k = va_up (va_up (va_up (vi 96) (5916 + L) (kdF (f p))) (5924 + L) (f (p + 1) - 48)) (5932 + L) (f (p + 2) - 48) k := fun k => by
              rw [hw102, up2_n (by decide), hw98, up2_s]
              by_cases hk2 : k = 5932 + L
              · subst hk2; rw [vau_s, vau_s]
              · rw [vau_n hk2, vau_n hk2, o102]
            clear hw102 hw98
            have g0 : ¬ ¬ (2 : Int32) ≤ 0 + 1 + 1 := by decide
            refine b_M_takesLaw_58 (fun h58 => b_M_takesLaw_118 (fun w118 hw118 => b_M_takesLaw_130 ?_)) (fun h58 => absurd h58 (by first | decide | assumption | omega | simp_all))
            have z5 : w102 96 5905 = nI L := by rw [o2, vau_n (by omega), vau_n (by omega), vau_n (by omega)]; exact h5
            rw [z5, nI_1] at hw118
            have o3 : ∀ k, k ≠ 5905 → w118 96 k = w102 96 k := fun k hk => by rw [hw118, up2_s, vau_n hk]
            refine hS hk (by omega) hs1 hs2 w118 ?_ ?_ ?_ ?_ ?_ ?_ (fun k k1 k2 k3 k4 => ?_)
            · rw [hw118]; exact rdM_tr r2 (rdM_r (by decide))
            · rw [hw118, up2_n (by decide)]; exact p2
            · rw [hw118, up2_s, vau_s]
            · rw [o3 _ (by omega), o2, vau_n (by omega), vau_n (by omega), vau_s]
            · rw [o3 _ (by omega), o2, vau_n (by omega), vau_s]
            · rw [o3 _ (by omega), o2, vau_s]
            · rw [o3 k k1, o2, vau_n k4, vau_n k3, vau_n k2]
theorem sk_id {i : Nat} (h : ¬ f i = 32) : sk f n i = i := by
  unfold sk
  cases hm : n - i with
  | zero => rfl
  | succ m => simp only [skF]; rw [if_neg (by unfold blB; simp [h])]
theorem lwR_0 {m p : Nat} (h : n ≤ p) : lwR f n m p = (-9, 0) := by
  cases m with
  | zero => simp only [lwR]; rw [if_neg (by omega)]
  | succ m => simp only [lwR]; rw [if_neg (by omega)]
theorem laws_go (vt : vp_in (nI t) 4) (ct : (nI t).toNatClampNeg = t) (hT : TX vi t f n) (hQ : ∀ u, rdM vi u → ((lwF f n).1 = -9 → MV (clT f n) 5904 (u 96)) → post (some (.int (lwF f n).1)) (mk u vl)) : ∀ (m L p : Nat) (u : Nat → Nat → Int32), L + m = 8 → p ≤ n → p = lp f n (y0F f n + ytF f n) L → rdM vi u → u 95 13 = nI p → u 96 5905 = nI L → u 96 5904 = nI (ytF f n) → (∀ y, y < ytF f n → u 96 (5906 + y) = (if yv f (y0F f n + y) = -9 then 0 else 1) ∧ u 96 (5911 + y) = yv f (y0F f n + y)) → (∀ k, k < L → u 96 (5916 + k) = kdF (f (lp f n (y0F f n + ytF f n) k)) ∧ u 96 (5924 + k) = f (lp f n (y0F f n + ytF f n) k + 1) - 48 ∧ u 96 (5932 + k) = f (lp f n (y0F f n + ytF f n) k + 2) - 48) → (lwF f n).1 = (lwR f n m p).1 → (lwF f n).2 = L + (lwR f n m p).2 → wp X (d + 5) k_M_faultOf 0 0 53 [some (.ref 95), some (.int (nI t)), some (.int 36)] [] (mk u vl) post := by
  have hn60 := hT.2.1
  have hyt : ytF f n ≤ 5 := (yrF_le 5 _).1
  intro m
  induction m with
  | zero =>
    intro L p u hL hp hlp hr h13 h5 h4 hy hk e1 e2
    have hTu := hT.rd hr
    by_cases hpn : p < n
    · have g : ¬ u 101 (nI t).toNatClampNeg ≤ u 95 13 := by rw [ct, hTu.2.2.1, h13]; exact nI_ge hpn (by omega)
      refine b_M_faultOf_53 (by first | assumption | decide | (refine vp_in_nI ?_ ?_ <;> omega) | omega | simp_all) (fun h53 => absurd h53 (by first | decide | assumption | omega | simp_all)) (fun h53 => b_M_faultOf_66 ?_)
      refine c_M_takesLaw (p := p) (L := L) hTu hpn (by omega) h13 h5 (fun v q rv pv hc => ?_) (fun _ h8 => absurd h8 (by omega))
      refine b_M_faultOf_71 (fun h71 => absurd h71 (by first | decide | assumption | omega | simp_all)) (fun h71 => b_M_faultOf_74 ?_)
      have hq : q = p := by omega
      rw [pv, hq]
      have e3 : (lwF f n).1 = nI p := by rw [e1]; simp only [lwR]; rw [if_pos hpn]
      rw [← e3]
      refine hQ v (rdM_tr hr rv) (fun z => ?_)
      rw [e3] at z
      have := congrArg Int32.toInt z; rw [nI_toInt (by omega)] at this
      have e9 : (-9 : Int32).toInt = -9 := by decide
      omega
    · have g : ¬ ¬ u 101 (nI t).toNatClampNeg ≤ u 95 13 := fun q => q (by rw [ct, hTu.2.2.1, h13]; exact nI_le (by omega) (by omega))
      refine b_M_faultOf_53 (by first | assumption | decide | (refine vp_in_nI ?_ ?_ <;> omega) | omega | simp_all) (fun h53 => b_M_faultOf_87 ?_) (fun h53 => absurd h53 (by first | decide | assumption | omega | simp_all))
      rw [lwR_0 (by omega)] at e1 e2
      have e1 : (lwF f n).1 = -9 := e1
      have e2 : (lwF f n).2 = L := e2
      rw [← e1]
      refine hQ u hr (fun _ => ⟨h4, ?_, hy, fun k hk2 => ?_⟩)
      · show u 96 5905 = nI (lwF f n).2; rw [e2]; exact h5
      · have hk2 : k < (lwF f n).2 := hk2
        exact hk k (by omega)
  | succ m ih =>
    intro L p u hL hp hlp hr h13 h5 h4 hy hk e1 e2
    have hTu := hT.rd hr
    by_cases hpn : p < n
    · have g : ¬ u 101 (nI t).toNatClampNeg ≤ u 95 13 := by rw [ct, hTu.2.2.1, h13]; exact nI_ge hpn (by omega)
      simp only [lwR] at e1 e2
      rw [if_pos hpn] at e1 e2
      refine b_M_faultOf_53 (by first | assumption | decide | (refine vp_in_nI ?_ ?_ <;> omega) | omega | simp_all) (fun h53 => absurd h53 (by first | decide | assumption | omega | simp_all)) (fun h53 => b_M_faultOf_66 ?_)
      refine c_M_takesLaw (p := p) (L := L) hTu hpn (by omega) h13 h5 (fun v q rv pv hc => ?_) (fun hkd h8 hs1 hs2 v rv pv v5 v1 v2 v3 vo => ?_)
      · refine b_M_faultOf_71 (fun h71 => absurd h71 (by first | decide | assumption | omega | simp_all)) (fun h71 => b_M_faultOf_74 ?_)
        have e3 : (lwF f n).1 = nI q ∧ q ≤ 62 := by
          rcases hc with ⟨rfl, hkd | h8⟩ | ⟨rfl, hkd, h8, hs1⟩ | ⟨rfl, hkd, h8, hs1, hs2⟩
          · rw [if_pos hkd] at e1; exact ⟨e1, by omega⟩
          · omega
          · rw [if_neg hkd, hs1, if_neg (fun q => by cases q)] at e1; exact ⟨e1, by omega⟩
          · rw [if_neg hkd, hs1, hs2, if_pos rfl, if_neg (fun q => by cases q)] at e1; exact ⟨e1, by omega⟩
        rw [pv, ← e3.1]
        refine hQ v (rdM_tr hr rv) (fun z => ?_)
        rw [e3.1] at z
        have := congrArg Int32.toInt z; rw [nI_toInt (by omega)] at this
        have e9 : (-9 : Int32).toInt = -9 := by decide
        omega
      · rw [if_neg hkd, hs1, hs2, if_pos rfl, if_pos rfl] at e1 e2
        have hin2 : p + 2 < n := by have h := hs2; unfold scB at h; simp at h; exact h.1
        refine b_M_faultOf_71 (fun h71 => b_M_faultOf_79 ?_) (fun h71 => absurd h71 (by first | decide | assumption | omega | simp_all))
        have rv' := rdM_tr hr rv
        refine a_blanks (p := p + 3) (hT.rd rv') (by omega) pv (fun u4 c1 c2 c3 => ?_)
        have r4 : rdM vi u4 := rdM_tr rv' ⟨fun j a _ => c1 j a, c2, fun k _ => by rw [c1 96 (by decide)]⟩
        have e96 : u4 96 = v 96 := c1 96 (by decide)
        refine b_M_faultOf_84 ?_
        refine ih (L + 1) (sk f n (p + 3)) u4 (by omega) (sk_le (by omega)) (by show _ = sk f n (lp f n _ L + 3); rw [hlp]) r4 c3 (by rw [e96]; exact v5) (by rw [e96, vo _ (by omega) (by omega) (by omega) (by omega)]; exact h4) (fun y hy2 => ?_) (fun k hk2 => ?_) e1 (by rw [e2]; show _ + (_ + 1) = _; omega)
        · rw [e96, vo _ (by omega) (by omega) (by omega) (by omega), vo _ (by omega) (by omega) (by omega) (by omega)]; exact hy y hy2
        · rw [e96]
          by_cases hkL : k = L
          · subst hkL; rw [← hlp]; exact ⟨v1, v2, v3⟩
          · rw [vo _ (by omega) (by omega) (by omega) (by omega), vo _ (by omega) (by omega) (by omega) (by omega), vo _ (by omega) (by omega) (by omega) (by omega)]; exact hk k (by omega)
    · have g : ¬ ¬ u 101 (nI t).toNatClampNeg ≤ u 95 13 := fun q => q (by rw [ct, hTu.2.2.1, h13]; exact nI_le (by omega) (by omega))
      refine b_M_faultOf_53 (by first | assumption | decide | (refine vp_in_nI ?_ ?_ <;> omega) | omega | simp_all) (fun h53 => b_M_faultOf_87 ?_) (fun h53 => absurd h53 (by first | decide | assumption | omega | simp_all))
      rw [lwR_0 (by omega)] at e1 e2
      have e1 : (lwF f n).1 = -9 := e1
      have e2 : (lwF f n).2 = L := e2
      rw [← e1]
      refine hQ u hr (fun _ => ⟨h4, ?_, hy, fun k hk2 => ?_⟩)
      · show u 96 5905 = nI (lwF f n).2; rw [e2]; exact h5
      · have hk2 : k < (lwF f n).2 := hk2
        exact hk k (by omega)
theorem c_M_faultOf (hT : TX vi t f n) (hQ : ∀ u, rdM vi u → (prF f n = -9 → MV (clT f n) 5904 (u 96)) → post (some (.int (prF f n))) (mk u vl)) : CallOk X (d + 5) 0 0 k_M_faultOf [.ref 95, .int (nI t)] (mk vi vl) post := by
  refine CallOk.intro (by decide +kernel) rfl (Nat.le_of_ble_eq_true rfl) ?_
  have hn60 := hT.2.1
  have ht4 := hT.1
  have ct : (nI t).toNatClampNeg = t := nI_clamp (by omega)
  have vt : vp_in (nI t) 4 := vp_in_nI ht4 (by omega)
  refine b_M_faultOf_0 ?_
  have key := loop_up (P := fun j => ∀ u, rdM vi u → (∀ k, k < j → u 96 (5904 + k) = 0) → wp X (d + 5) k_M_faultOf 0 0 2 [some (.ref 95), some (.int (nI t)), some (.int (nI j))] [] (mk u vl) post) 36 0 (Nat.zero_le _) ?_ ?_
  · exact key vi rdM_rf (fun k hk => absurd hk (Nat.not_lt_zero _))
  · intro u hu hz
    have g : ¬ ¬ (36 : Int32) ≤ nI 36 := by decide
    refine b_M_faultOf_2 (fun h2 => b_M_faultOf_25 (fun w25 hw25 => b_M_faultOf_30 ?_)) (fun h2 => absurd h2 (by first | decide | assumption | omega | simp_all))
    have r1 : rdM vi w25 := by rw [hw25]; exact rdM_tr hu rdM_p
    have z1 : ∀ k, k < 36 → w25 96 (5904 + k) = 0 := fun k hk => by rw [hw25, up2_n (by decide)]; exact hz k hk
    have p1 : w25 95 13 = nI 0 := by rw [hw25, up2_s, vau_s]; rfl
    clear hw25
    refine a_blanks (p := 0) (hT.rd r1) (by omega) p1 (fun w2 b1 b2 b3 => ?_)
    have r2 : rdM vi w2 := rdM_tr r1 ⟨fun j a _ => b1 j a, b2, fun k _ => by rw [b1 96 (by decide)]⟩
    have hsk := sk_le (f := f) (n := n) (i := 0) (by omega)
    refine b_M_faultOf_35 ?_
    have ebt : (btF f n (sk f n 0) = 121) ↔ (sgF f n (sk f n 0) = 121) := by
      unfold btF sgF
      by_cases h : sk f n 0 < n
      · rw [if_pos h, if_pos h]
      · rw [if_neg h, if_neg h]; decide
    refine c_M_takesYears (p := sk f n 0) (hT.rd r2) hsk b3 (fun hno => ?_) (fun hyes u3 r3 p3 n3 y3 l3 => ?_)
    · refine b_M_faultOf_40 (fun h40 => absurd h40 (by first | decide | assumption | omega | simp_all)) (fun h40 => b_M_faultOf_43 ?_)
      rw [b3]
      have e : prF f n = nI (sk f n 0) := by unfold prF; rw [if_neg (fun q => hno (ebt.mpr q))]
      rw [← e]
      refine hQ w2 r2 (fun q => ?_)
      rw [e] at q
      exact absurd q (fun q => by have := congrArg Int32.toInt q; rw [nI_toInt (by omega)] at this; have e9 : (-9 : Int32).toInt = -9 := by decide
                                  omega)
    · have hpn : sk f n 0 < n := Nat.not_le.mp fun q => by unfold btF at hyes; rw [if_neg (by omega)] at hyes; exact absurd hyes (by decide)
      have e1 : prF f n = if ytF f n < 2 then nI (y0F f n + ytF f n) else (lwF f n).1 := by unfold prF; rw [if_pos (ebt.mp hyes)]
      have hyl := yrF_le (f := f) (n := n) 5 (sk f n 0 + 1)
      have hle : y0F f n + ytF f n ≤ n := hyl.2 (by omega)
      have hl5 : ytF f n ≤ 5 := hyl.1
      have hnn : ∀ q, q ≤ 60 → ¬ nI q = -9 := fun q hq h => by
        have := congrArg Int32.toInt h; rw [nI_toInt (by omega)] at this
        have e9 : (-9 : Int32).toInt = -9 := by decide
        omega
      have r3' := rdM_tr r2 r3
      have p3' : u3 95 13 = nI (y0F f n + ytF f n) := p3
      have n3' : u3 96 5904 = nI (ytF f n) := n3
      have y3' : ∀ y, y < ytF f n → u3 96 (5906 + y) = (if yv f (y0F f n + y) = -9 then 0 else 1) ∧ u3 96 (5911 + y) = yv f (y0F f n + y) := y3
      show wp X (d + 4 + 1) k_M_faultOf 0 0 40 _ (pR (some (.int (bI (decide (2 ≤ ytF f n) && !sgB f n (y0F f n + ytF f n))))) _) _ _
      by_cases h2 : ytF f n < 2
      · rw [if_pos h2] at e1
        rw [decide_eq_false (by omega), Bool.false_and]
        refine b_M_faultOf_40 (fun h40 => absurd h40 (by first | decide | assumption | omega | simp_all)) (fun h40 => b_M_faultOf_43 ?_)
        rw [p3', ← e1]
        exact hQ u3 r3' (fun q => absurd (e1.symm.trans q) (hnn _ (by omega)))
      · rw [if_neg h2] at e1
        rw [decide_eq_true (by omega), Bool.true_and]
        cases hs : sgB f n (y0F f n + ytF f n)
        · refine b_M_faultOf_40 (fun h40 => b_M_faultOf_48 ?_) (fun h40 => absurd h40 (by first | decide | assumption | omega | simp_all))
          refine a_blanks (p := y0F f n + ytF f n) (hT.rd r3') hle p3' (fun u4 c1 c2 c3 => ?_)
          have r4 : rdM vi u4 := rdM_tr r3' ⟨fun j a _ => c1 j a, c2, fun k _ => by rw [c1 96 (by decide)]⟩
          have e96 : u4 96 = u3 96 := c1 96 (by decide)
          rw [e1] at hQ
          refine laws_go vt ct hT hQ 8 0 (sk f n (y0F f n + ytF f n)) u4 rfl (sk_le hle) rfl r4 c3 ?_ (by rw [e96]; exact n3') (by rw [e96]; exact y3') (fun k hk => absurd hk (Nat.not_lt_zero _)) rfl (by rw [Nat.zero_add]; rfl)
          rw [e96, l3, b1 96 (by decide)]; exact z1 1 (by decide)
        · have hnk := sg_nk hs
          have e2 : (lwF f n).1 = nI (y0F f n + ytF f n) := by
            unfold lwF; rw [sk_id hnk.2.2]; simp only [lwR]; rw [if_pos hnk.1, if_pos hnk.2.1]
          rw [e2] at e1
          refine b_M_faultOf_40 (fun h40 => absurd h40 (by first | decide | assumption | omega | simp_all)) (fun h40 => b_M_faultOf_43 ?_)
          rw [p3', ← e1]
          exact hQ u3 r3' (fun q => absurd (e1.symm.trans q) (hnn _ (by omega)))
  · intro j _ hj ih u hu hz
    have g : ¬ (36 : Int32) ≤ nI j := nI_ge (a := j) (b := 36) hj (by omega)
    have a1 : (5904 : Int32) + nI j = nI (5904 + j) := by rw [show (5904 : Int32) = nI 5904 from rfl, nI_add]
    have v1 : vp_in (5904 + nI j) 5976 := by rw [a1]; exact vp_in_nI (by omega) (by omega)
    refine b_M_faultOf_2 (fun h2 => absurd h2 (by first | decide | assumption | omega | simp_all)) (fun h2 => b_M_faultOf_8 (by first | assumption | decide | (refine vp_in_nI ?_ ?_ <;> omega) | omega | simp_all) (fun w8 hw8 => b_M_faultOf_19 ?_))
    rw [nI_1]
    rw [a1, nI_clamp (by omega)] at hw8
    refine ih w8 (by rw [hw8]; exact rdM_tr hu (rdM_r (by omega))) (fun k hk => ?_)
    rw [hw8, up2_s]
    by_cases hkj : k = j
    · subst hkj; rw [vau_s]
    · rw [vau_n (by omega)]; exact hz k (by omega)
end S54
