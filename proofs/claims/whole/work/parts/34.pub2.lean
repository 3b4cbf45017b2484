/-! the language read twice: only what lies within the TEXT matters -/
section P34
variable {f g : Nat → Int32} {n : Nat}
theorem blB_cg (h : ∀ i, i < n → f i = g i) (i : Nat) : blB f n i = blB g n i := by
  unfold blB; by_cases hi : i < n
  · rw [h i hi]
  · simp [hi]
theorem skF_cg (h : ∀ i, i < n → f i = g i) : ∀ (m i : Nat), skF f n m i = skF g n m i
  | 0, _ => rfl
  | m + 1, i => by simp only [skF]; rw [blB_cg h, skF_cg h m]
theorem sk_cg (h : ∀ i, i < n → f i = g i) (i : Nat) : sk f n i = sk g n i := skF_cg h _ _
theorem scB_cg (h : ∀ i, i < n → f i = g i) (i : Nat) : scB f n i = scB g n i := by
  unfold scB; by_cases hi : i < n
  · rw [h i hi]
  · simp [hi]
theorem sgB_cg (h : ∀ i, i < n → f i = g i) (i : Nat) : sgB f n i = sgB g n i := by
  unfold sgB; rw [scB_cg h]; by_cases hi : i < n
  · rw [h i hi]
  · simp [hi]
theorem sgF_cg (h : ∀ i, i < n → f i = g i) (i : Nat) : sgF f n i = sgF g n i := by
  unfold sgF; by_cases hi : i < n
  · rw [h i hi]
  · simp [hi]
theorem yrF_cg (h : ∀ i, i < n → f i = g i) : ∀ (m i : Nat), yrF f n m i = yrF g n m i
  | 0, _ => rfl
  | m + 1, i => by simp only [yrF]; rw [sgB_cg h, yrF_cg h m]
theorem lwR_cg (h : ∀ i, i < n → f i = g i) : ∀ (m p : Nat), lwR f n m p = lwR g n m p
  | 0, _ => rfl
  | m + 1, p => by
    simp only [lwR]
    rw [scB_cg h, scB_cg h, sk_cg h, lwR_cg h m]
    by_cases hp : p < n
    · rw [h p hp]
    · simp [hp]
theorem lp_cg (h : ∀ i, i < n → f i = g i) (i : Nat) : ∀ k, lp f n i k = lp g n i k
  | 0 => sk_cg h _
  | k + 1 => by simp only [lp]; rw [lp_cg h i k, sk_cg h]
theorem y0F_cg (h : ∀ i, i < n → f i = g i) : y0F f n = y0F g n := by unfold y0F; rw [sk_cg h]
theorem ytF_cg (h : ∀ i, i < n → f i = g i) : ytF f n = ytF g n := by unfold ytF; rw [yrF_cg h, y0F_cg h]
theorem lwF_cg (h : ∀ i, i < n → f i = g i) : lwF f n = lwF g n := by unfold lwF; rw [lwR_cg h, sk_cg h, y0F_cg h, ytF_cg h]
theorem prF_cg (h : ∀ i, i < n → f i = g i) : prF f n = prF g n := by unfold prF; rw [sgF_cg h, sk_cg h, ytF_cg h, y0F_cg h, lwF_cg h]
theorem yr_in : ∀ (m i y : Nat), y < yrF f n m i → i + y < n ∧ sgB f n (i + y) = true
  | 0, i, y, h => absurd h (by simp [yrF])
  | m + 1, i, y, h => by
    simp only [yrF] at h
    by_cases hs : sgB f n i = true
    · rw [if_pos hs] at h
      have hi : i < n := by
        have hs' := hs
        unfold sgB scB at hs'
        simp at hs'
        rcases hs' with q | q <;> exact q.1
      rcases y with _ | y
      · exact ⟨hi, hs⟩
      · have := yr_in m (i + 1) y (by omega)
        rw [show i + (y + 1) = i + 1 + y by omega]; exact this
    · rw [if_neg hs] at h; exact absurd h (by omega)
theorem lw_in (i : Nat) : ∀ (m k0 k : Nat), k < (lwR f n m (lp f n i k0)).2 → lp f n i (k0 + k) + 2 < n ∧ ¬ kdF (f (lp f n i (k0 + k))) = -9 ∧ scB f n (lp f n i (k0 + k) + 1) = true ∧ scB f n (lp f n i (k0 + k) + 2) = true
  | 0, k0, k, h => absurd h (by simp [lwR])
  | m + 1, k0, k, h => by
    simp only [lwR] at h
    by_cases h1 : lp f n i k0 < n
    · rw [if_pos h1] at h
      by_cases h2 : kdF (f (lp f n i k0)) = -9
      · rw [if_pos h2] at h; exact absurd h (by simp)
      · rw [if_neg h2] at h
        by_cases h3 : scB f n (lp f n i k0 + 1) = true
        · rw [if_pos h3] at h
          by_cases h4 : scB f n (lp f n i k0 + 2) = true
          · rw [if_pos h4] at h
            rcases k with _ | k
            · refine ⟨?_, h2, h3, h4⟩
              have h4' := h4
              unfold scB at h4'
              simp at h4'
              exact h4'.1
            · have := lw_in i m (k0 + 1) k (by have h : k + 1 < (lwR f n m (lp f n i (k0 + 1))).2 + 1 := h; omega)
              rw [show k0 + (k + 1) = k0 + 1 + k by omega]; exact this
          · rw [if_neg h4] at h; exact absurd h (by simp)
        · rw [if_neg h3] at h; exact absurd h (by simp)
    · rw [if_neg h1] at h; exact absurd h (by simp)
theorem scB_v {i : Nat} (h : scB f n i = true) : vp_in (f i - 48) 5 := by
  have h2 := scB_iff.mp h
  unfold sgF at h2
  rw [if_pos (by unfold scB at h; simp at h; exact h.1)] at h2
  exact h2
theorem yv_wf {i : Nat} (h : sgB f n i = true) : wfY (if yv f i = -9 then 0 else 1) (yv f i) := by
  unfold yv
  by_cases h45 : f i = 45
  · rw [if_pos h45]; exact Or.inl ⟨rfl, rfl⟩
  · rw [if_neg h45]
    unfold sgB at h
    simp [h45] at h
    have hv := scB_v h
    obtain ⟨j, hj, e⟩ := vp_in_of hv (by decide)
    have : ¬ (f i - 48 = -9) := by
      rw [e]; intro q; have := congrArg Int32.toInt q; rw [nI_toInt (by omega)] at this
      have e9 : (-9 : Int32).toInt = -9 := by decide
      omega
    rw [if_neg this]
    exact Or.inr ⟨Or.inl rfl, hv⟩
theorem clT_wf : wfC (clT f n) := by
  refine ⟨?_, ?_, Nat.zero_le _, fun y hy => ?_, fun k hk => ?_, fun i hi => absurd hi (Nat.not_lt_zero _)⟩
  · exact (yrF_le 5 _).1
  · exact lwR_le 8 _
  · exact yv_wf (yr_in 5 _ y hy).2
  · have := lw_in (f := f) (n := n) (y0F f n + ytF f n) 8 0 k hk
    rw [Nat.zero_add] at this
    refine ⟨?_, scB_v this.2.2.1, scB_v this.2.2.2⟩
    rcases kdF_or (f (lp f n (y0F f n + ytF f n) k)) with h | ⟨q, hq, h⟩
    · exact absurd h this.2.1
    · show vp_in (kdF _) 6; rw [h]; exact vp_in_nI hq (by omega)
end P34
section S34
variable {X : aX} {d : Nat} {vi : Nat → Nat → Int32} {vl : Nat → Nat → Int64} {post : aO} {A : aA}
theorem s_fault {r : Int32} (hW : wfA A) (hA : AbC A vi vl) (hQ : PC vi vl post (oFault A r)) : CallOk X (d + 6) 0 0 k_S_fault [.ref 0, .int r] (mk vi vl) post := by
  refine CallOk.intro (by decide +kernel) rfl (Nat.le_of_ble_eq_true rfl) ?_
  unfold oFault at hQ
  refine b_S_fault_0 ?_
  refine c_S_isText (fun hr => ?_) (fun hr => ?_)
  · rw [inB_t hr, if_pos rfl] at hQ
    obtain ⟨j, hj, rfl⟩ := vp_in_of hr (by decide)
    have cj : (nI j).toNatClampNeg = j := nI_clamp (by omega)
    obtain ⟨e1, e2⟩ := hA.1.2 j hj
    refine b_S_fault_4 (fun h4 => b_S_fault_9 (by first | assumption | decide | (refine vp_in_nI ?_ ?_ <;> omega) | omega | simp_all) ?_) (fun h4 => absurd h4 (by first | decide | assumption | omega | simp_all))
    rw [cj] at hQ ⊢
    refine c_R_isMissing (texts_i hj) (fun h1 => ?_) (fun h1 => ?_)
    · rw [e1] at h1
      refine b_S_fault_18 (fun h18 => absurd h18 (by first | decide | assumption | omega | simp_all)) (fun h18 => b_S_fault_21 ?_)
      refine c_S_refuse 1 (by decide) (by decide) ?_
      refine b_S_fault_26 ?_
      rw [if_pos h1] at hQ
      exact hQ _ _ (AbC_fd hW.L8 hA (by decide) (by decide)) smM_rfM
    · rw [e1] at h1
      rw [if_neg h1] at hQ
      obtain ⟨n, hn, en⟩ := ts_n hW hj h1
      refine b_S_fault_18 (fun h18 => b_S_fault_27 (by first | assumption | decide | (refine vp_in_nI ?_ ?_ <;> omega) | omega | simp_all) ?_) (fun h18 => absurd h18 (by first | decide | assumption | omega | simp_all))
      rw [cj]
      refine c_D_read (n := n) (texts_i hj) isCl_14 (by rw [e1]; exact en) (by rw [rl_t]; exact hn) (fun w hw _ => ?_)
      refine b_S_fault_40 ?_
      have hcg : ∀ i, i < n → vi (54 + 2 * j + 1) i = aTp A j i := fun i hi => by rw [show 54 + 2 * j + 1 = 55 + 2 * j by omega]; exact e2 i (by omega)
      rw [prF_cg hcg]
      rw [en, nI_clamp (by omega)] at hQ
      exact hQ _ _ (AbC_scr hW.L8 hA (fun q hq => hw q (by omega))) (smM_of fun q hq => hw q (by omega))
  · rw [inB_f hr, if_neg (fun q => by cases q)] at hQ
    refine b_S_fault_4 (fun h4 => absurd h4 (by first | decide | assumption | omega | simp_all)) (fun h4 => b_S_fault_7 ?_)
    exact hQ _ _ hA smM_rf
theorem s_cloth {r : Int32} (hW : wfA A) (hA : AbC A vi vl) (hQ : PC vi vl post (oCloth A r)) : CallOk X (d + 6) 0 0 k_S_cloth [.ref 0, .int r] (mk vi vl) post := by
  refine CallOk.intro (by decide +kernel) rfl (Nat.le_of_ble_eq_true rfl) ?_
  unfold oCloth at hQ
  refine b_S_cloth_0 ?_
  refine c_S_isText (fun hr => ?_) (fun hr => ?_)
  · rw [inB_t hr, if_pos rfl] at hQ
    obtain ⟨j, hj, rfl⟩ := vp_in_of hr (by decide)
    have cj : (nI j).toNatClampNeg = j := nI_clamp (by omega)
    obtain ⟨e1, e2⟩ := hA.1.2 j hj
    refine b_S_cloth_4 (fun h4 => b_S_cloth_9 (by first | assumption | decide | (refine vp_in_nI ?_ ?_ <;> omega) | omega | simp_all) ?_) (fun h4 => absurd h4 (by first | decide | assumption | omega | simp_all))
    rw [cj] at hQ ⊢
    refine c_R_isMissing (texts_i hj) (fun h1 => ?_) (fun h1 => ?_)
    · rw [e1] at h1
      refine b_S_cloth_18 (fun h18 => absurd h18 (by first | decide | assumption | omega | simp_all)) (fun h18 => b_S_cloth_21 ?_)
      refine c_S_refuse 1 (by decide) (by decide) ?_
      refine b_S_cloth_26 ?_
      rw [if_pos h1] at hQ
      exact hQ _ _ (AbC_fd hW.L8 hA (by decide) (by decide)) smM_rfM
    · rw [e1] at h1
      rw [if_neg h1] at hQ
      obtain ⟨n, hn, en⟩ := ts_n hW hj h1
      refine b_S_cloth_18 (fun h18 => b_S_cloth_27 (by first | assumption | decide | (refine vp_in_nI ?_ ?_ <;> omega) | omega | simp_all) ?_) (fun h18 => absurd h18 (by first | decide | assumption | omega | simp_all))
      rw [cj]
      refine c_D_read (n := n) (texts_i hj) isCl_14 (by rw [e1]; exact en) (by rw [rl_t]; exact hn) (fun w hw hp => ?_)
      have hcg : ∀ i, i < n → vi (54 + 2 * j + 1) i = aTp A j i := fun i hi => by rw [show 54 + 2 * j + 1 = 55 + 2 * j by omega]; exact e2 i (by omega)
      rw [prF_cg hcg] at hp ⊢
      rw [en, nI_clamp (by omega)] at hQ
      by_cases h9 : prF (aTp A j) n = -9
      · rw [if_pos h9] at hQ
        have hP := hp h9
        refine b_S_cloth_40 (fun h40 => b_S_cloth_48 ?_) (fun h40 => absurd h40 (by first | decide | assumption | omega | simp_all))
        have hcl : ClC (clT (aTp A j) n) 14 w := by
          obtain ⟨p1, p2, p3, p4, p5⟩ := hP
          rw [ytF_cg hcg, y0F_cg hcg] at p4
          rw [lwF_cg hcg, y0F_cg hcg, ytF_cg hcg] at p5
          refine ⟨by rw [p1, ytF_cg hcg]; rfl, by rw [p3, lwF_cg hcg]; rfl, p2, fun y hy => ?_, fun k hk => ?_, fun i hi => absurd hi (Nat.not_lt_zero _)⟩
          · obtain ⟨q1, q2⟩ := p4 y hy
            have hyn := (yr_in 5 _ y hy).1
            have ev : yv (vi (54 + 2 * j + 1)) (y0F (aTp A j) n + y) = yv (aTp A j) (y0F (aTp A j) n + y) := by unfold yv; rw [hcg _ hyn]
            rw [q1, q2, ev]
            exact ⟨rfl, rfl⟩
          · obtain ⟨q1, q2, q3⟩ := p5 k hk
            have hin := lw_in (f := aTp A j) (n := n) (y0F (aTp A j) n + ytF (aTp A j) n) 8 0 k hk
            rw [Nat.zero_add] at hin
            rw [lp_cg hcg, hcg _ (by omega)] at q1 q2 q3
            exact ⟨q1, q2, q3⟩
        have hwf : wfC (clT (aTp A j) n) := clT_wf
        refine c_C_take isCl_3 isCl_14 (by decide) (fun w1 ht => ?_)
        have hcl1 := ClC_take hwf hcl ht
        refine b_S_cloth_59 ?_
        refine a_settleFrom isCl_3 hwf.v hcl1.v (fun w2 h2 hv2 hs2 => ?_)
        have o2 : ∀ q, (q < 3 ∨ 40 < q) → w2 q = vi q := fun q hq => by rw [h2 q (by omega) (by omega), ht.1 q (by omega), hw q (by omega)]
        have hA2 : AbC (tCu A (clT (aTp A j) n)) w2 vl := AbC_cu hA (ClC_fr hcl1 (fun q a b => h2 q (by omega) (by omega))) hs2 o2
        refine b_S_cloth_67 ?_
        have key := loop_up (P := fun k => ∀ v, (∀ q, (q < 62 ∨ 94 < q) → v q = w2 q) → (∀ i, i < k → v (62 + 11 * i) 0 = nI 0) → wp X (d + 6) k_S_cloth 0 0 69 [some (.ref 0), some (.int (nI j)), some (.int (nI k))] [] (mk v vl) post) 3 0 (by decide) ?_ ?_
        · exact key w2 (fun _ _ => rfl) (fun i hi => absurd hi (by omega))
        · intro v hv hk
          refine b_S_cloth_69 (fun h69 => b_S_cloth_89 ?_) (fun h69 => absurd h69 (by first | decide | assumption | omega | simp_all))
          have ev : v 3 0 = nI (ytF (aTp A j) n) := by rw [hv 3 (by omega)]; exact hv2.1
          rw [ev]
          refine hQ _ _ ?_ (smM_of fun q hq => by rw [hv q (by omega), o2 q (by omega)])
          rw [AbC_iff] at hA2 ⊢
          obtain ⟨a1, a2, a3, a4, a5⟩ := hA2
          exact ⟨RwC_fr a1 (fun q _ _ => hv q (by omega)) rfl rfl rfl rfl, CuC_fr hwf.2.1 a2 (fun q _ _ => hv q (by omega)) rfl, fun k hk3 => hk k hk3, FdC_fr a4 (by rw [hv 0 (by omega)]) (hv 41 (by omega)) rfl rfl, TlC_fr a5 (by rw [hv 0 (by omega)]) rfl rfl rfl⟩
        · intro k _ hk3 ih v hv hk
          have g1 : ¬ (3 : Int32) ≤ nI k := nI_ge (a := k) (b := 3) hk3 (by omega)
          refine b_S_cloth_69 (fun h69 => absurd h69 (by first | decide | assumption | omega | simp_all)) (fun h69 => b_S_cloth_74 (by first | assumption | decide | (refine vp_in_nI ?_ ?_ <;> omega) | omega | simp_all) ?_)
          rw [nI_clamp (by omega)]
          refine c_C_clear (kept_i hk3) ?_
          refine b_S_cloth_83 ?_
          rw [nI_1]
          refine ih _ (fun q hq => by rw [up2_n (by omega), up2_n (by omega), up2_n (by omega)]; exact hv q hq) (fun i hi => ?_)
          by_cases hik : i = k
          · subst hik; rw [up2_s, vau_n (by decide), up2_s, vau_n (by decide), up2_s, vau_s]; rfl
          · rw [up2_n (by omega), up2_n (by omega), up2_n (by omega)]; exact hk i (by omega)
      · rw [if_neg h9] at hQ
        refine b_S_cloth_40 (fun h40 => absurd h40 (by first | decide | assumption | omega | simp_all)) (fun h40 => b_S_cloth_45 ?_)
        exact hQ _ _ (AbC_scr hW.L8 hA (fun q hq => hw q (by omega))) (smM_of fun q hq => hw q (by omega))
  · rw [inB_f hr, if_neg (fun q => by cases q)] at hQ
    refine b_S_cloth_4 (fun h4 => absurd h4 (by first | decide | assumption | omega | simp_all)) (fun h4 => b_S_cloth_7 ?_)
    exact hQ _ _ hA smM_rf
theorem c_S_ofYear {y : Nat} {what : Int32} (hW : wfA A) (hA : AbC A vi vl) (hy : y < cN (aCu A)) (hQ : post (some (.int (yrT (aCu A) y what))) (mk vi vl)) : CallOk X (d + 1) 0 0 k_S_ofYear [.ref 0, .int (nI y), .int what] (mk vi vl) post := by
  refine CallOk.intro (by decide +kernel) rfl (Nat.le_of_ble_eq_true rfl) ?_
  have h5 := hW.N5
  have cy : (nI y).toNatClampNeg = y := nI_clamp (by omega)
  have vy : vp_in (nI y) 5 := vp_in_nI (by omega) (by omega)
  obtain ⟨e1, e2⟩ := hA.2.1.1.v.2.2.1 y hy
  have e3 := (V_hap hW.2.2.1.v hA.2.1.1.v hA.2.1.2 y hy).1
  unfold yrT at hQ
  refine b_S_ofYear_0 ?_
  refine ⟨fun h => ?_, fun h0 => ⟨fun h => ?_, fun h1 => ?_⟩⟩
  · refine b_S_ofYear_28 (by first | assumption | decide | (refine vp_in_nI ?_ ?_ <;> omega) | omega | simp_all) ?_
    rw [if_pos h] at hQ
    rw [cy, e1]; exact hQ
  · refine b_S_ofYear_38 (by first | assumption | decide | (refine vp_in_nI ?_ ?_ <;> omega) | omega | simp_all) ?_
    rw [if_neg h0, if_pos h] at hQ
    rw [cy, e2]; exact hQ
  · show wp X (d + 1) k_S_ofYear 0 0 48 _ _ _ _
    refine b_S_ofYear_48 (by first | assumption | decide | (refine vp_in_nI ?_ ?_ <;> omega) | omega | simp_all) ?_
    rw [if_neg h0, if_neg h1] at hQ
    rw [cy, e3]; exact hQ
theorem c_S_ofLaw {k : Nat} {what : Int32} (hW : wfA A) (hA : AbC A vi vl) (hk : k < cL (aCu A)) (hQ : post (some (.int (lwT (aCu A) k what))) (mk vi vl)) : CallOk X (d + 4) 0 0 k_S_ofLaw [.ref 0, .int (nI k), .int what] (mk vi vl) post := by
  refine CallOk.intro (by decide +kernel) rfl (Nat.le_of_ble_eq_true rfl) ?_
  have h8 := hW.L8
  have ck : (nI k).toNatClampNeg = k := nI_clamp (by omega)
  have vk : vp_in (nI k) 8 := vp_in_nI (by omega) (by omega)
  obtain ⟨e1, e2, e3⟩ := hA.2.1.1.v.2.2.2 k hk
  unfold lwT at hQ
  refine b_S_ofLaw_0 ?_
  refine ⟨fun h => ?_, fun h0 => ⟨fun h => ?_, fun h1 => ⟨fun h => ?_, fun h2 => ?_⟩⟩⟩
  · refine b_S_ofLaw_28 (by first | assumption | decide | (refine vp_in_nI ?_ ?_ <;> omega) | omega | simp_all) ?_
    rw [if_pos h] at hQ
    rw [ck, e1]; exact hQ
  · refine b_S_ofLaw_38 (by first | assumption | decide | (refine vp_in_nI ?_ ?_ <;> omega) | omega | simp_all) ?_
    rw [if_neg h0, if_pos h] at hQ
    rw [ck, e2]; exact hQ
  · refine b_S_ofLaw_48 (by first | assumption | decide | (refine vp_in_nI ?_ ?_ <;> omega) | omega | simp_all) ?_
    rw [if_neg h0, if_neg h1, if_pos h] at hQ
    rw [ck, e3]; exact hQ
  · show wp X (d + 4) k_S_ofLaw 0 0 58 _ _ _ _
    rw [if_neg h0, if_neg h1, if_neg h2] at hQ
    refine b_S_ofLaw_58 ?_
    refine a_isBroken isCl_3 hW.2.2.1.v hA.2.1.1.v hA.2.1.2 hk ?_
    cases hb : bro (aCu A) k
    · refine b_S_ofLaw_66 (fun h66 => b_S_ofLaw_73 (b_S_ofLaw_74 ?_)) (fun h66 => absurd h66 (by first | decide | assumption | omega | simp_all))
      rw [hb] at hQ; exact hQ
    · refine b_S_ofLaw_66 (fun h66 => absurd h66 (by first | decide | assumption | omega | simp_all)) (fun h66 => b_S_ofLaw_69 (b_S_ofLaw_74 ?_))
      rw [hb] at hQ; exact hQ
theorem in3 {x : Int32} (h0 : ¬ x < 0) (h2 : x ≤ 2) : inB x 3 = true := by
  obtain ⟨j, hj, rfl⟩ := nI_of2 (M := 2) (n := 2) (by decide) h0 h2
  exact inB_nI (by omega) (by omega)
theorem in3f {x : Int32} (h : x < 0 ∨ ¬ x ≤ 2) : inB x 3 = false := by
  refine inB_f (fun q => ?_)
  obtain ⟨j, hj, rfl⟩ := vp_in_of q (by decide)
  rcases h with h | h
  · exact nI_pos (by omega) h
  · exact h (nI_le (a := j) (b := 2) (by omega) (by omega))
theorem in4 {x : Int32} (h0 : ¬ x < 0) (h2 : x ≤ 3) : inB x 4 = true := by
  obtain ⟨j, hj, rfl⟩ := nI_of2 (M := 3) (n := 3) (by decide) h0 h2
  exact inB_nI (by omega) (by omega)
theorem in4f {x : Int32} (h : x < 0 ∨ ¬ x ≤ 3) : inB x 4 = false := by
  refine inB_f (fun q => ?_)
  obtain ⟨j, hj, rfl⟩ := vp_in_of q (by decide)
  rcases h with h | h
  · exact nI_pos (by omega) h
  · exact h (nI_le (a := j) (b := 3) (by omega) (by omega))
theorem s_year {y what : Int32} (hW : wfA A) (hA : AbC A vi vl) (hQ : PC vi vl post (oYear A y what)) : CallOk X (d + 2) 0 0 k_S_year [.ref 0, .int y, .int what] (mk vi vl) post := by
  refine CallOk.intro (by decide +kernel) rfl (Nat.le_of_ble_eq_true rfl) ?_
  unfold oYear at hQ
  refine b_S_year_0 ?_
  refine c_S_isYear hA.2.1.1.1 hW.N5 (fun hy => ?_) (fun hy => ?_)
  · rw [inB_t hy] at hQ
    have h5 := hW.N5
    obtain ⟨j, hj, rfl⟩ := vp_in_of hy (by omega)
    refine b_S_year_5 (fun h5 => absurd h5 (by first | decide | assumption | omega | simp_all)) (fun h5 => b_S_year_8 (fun h8 => b_S_year_17 ?_) (fun h8 => b_S_year_12 (fun h12 => b_S_year_19 ?_) (fun h12 => b_S_year_17 ?_)))
    · rw [in3f (Or.inl h8), if_neg (fun q => by cases q.2)] at hQ
      exact hQ _ _ hA smM_rf
    · rw [in3 h8 h12, if_pos ⟨rfl, rfl⟩, nI_clamp (by omega)] at hQ
      refine c_S_ofYear hW hA hj ?_
      refine b_S_year_26 (fun w26 hw26 => b_S_year_29 ?_)
      rw [hw26]
      exact hQ _ _ (AbC_ak hW.L8 hA _) (smM_o (by decide))
    · rw [in3f (Or.inr h12), if_neg (fun q => by cases q.2)] at hQ
      exact hQ _ _ hA smM_rf
  · rw [inB_f hy, if_neg (fun q => by cases q.1)] at hQ
    refine b_S_year_5 (fun h5 => b_S_year_17 ?_) (fun h5 => absurd h5 (by first | decide | assumption | omega | simp_all))
    exact hQ _ _ hA smM_rf
theorem s_law {k what : Int32} (hW : wfA A) (hA : AbC A vi vl) (hQ : PC vi vl post (oLaw A k what)) : CallOk X (d + 5) 0 0 k_S_law [.ref 0, .int k, .int what] (mk vi vl) post := by
  refine CallOk.intro (by decide +kernel) rfl (Nat.le_of_ble_eq_true rfl) ?_
  unfold oLaw at hQ
  refine b_S_law_0 ?_
  refine c_S_isLaw hA.2.1.1.2.1 hW.L8 (fun hy => ?_) (fun hy => ?_)
  · rw [inB_t hy] at hQ
    have h8' := hW.L8
    obtain ⟨j, hj, rfl⟩ := vp_in_of hy (by omega)
    refine b_S_law_5 (fun h5 => absurd h5 (by first | decide | assumption | omega | simp_all)) (fun h5 => b_S_law_8 (fun h8 => b_S_law_17 ?_) (fun h8 => b_S_law_12 (fun h12 => b_S_law_19 ?_) (fun h12 => b_S_law_17 ?_)))
    · rw [in4f (Or.inl h8), if_neg (fun q => by cases q.2)] at hQ
      exact hQ _ _ hA smM_rf
    · rw [in4 h8 h12, if_pos ⟨rfl, rfl⟩, nI_clamp (by omega)] at hQ
      refine c_S_ofLaw hW hA hj ?_
      refine b_S_law_26 (fun w26 hw26 => b_S_law_29 ?_)
      rw [hw26]
      exact hQ _ _ (AbC_ak hW.L8 hA _) (smM_o (by decide))
    · rw [in4f (Or.inr h12), if_neg (fun q => by cases q.2)] at hQ
      exact hQ _ _ hA smM_rf
  · rw [inB_f hy, if_neg (fun q => by cases q.1)] at hQ
    refine b_S_law_5 (fun h5 => b_S_law_17 ?_) (fun h5 => absurd h5 (by first | decide | assumption | omega | simp_all))
    exact hQ _ _ hA smM_rf
theorem ysW_32 {c : Cl} {s : Int32} (h : cN c ≤ 5) : ysW c s < 32 := bb_32 h
theorem ysT_32 {c : Cl} {s : Int32} (h : cN c ≤ 5) : ysT c s < 32 := bb_32 h
theorem ysS_32 {c : Cl} (h : cN c ≤ 5) : ysS c < 32 := bb_32 h
theorem nI_and : ∀ a, a < 32 → ∀ b, b < 32 → nI a &&& nI b = nI (a &&& b) := by decide +kernel
theorem and_32 {a b : Nat} (ha : a < 32) : a &&& b < 32 := Nat.lt_of_le_of_lt Nat.and_le_left ha
theorem s_happens {s : Int32} (hW : wfA A) (hA : AbC A vi vl) (hQ : PC vi vl post (oHappens A s)) : CallOk X (d + 2) 0 0 k_S_happens [.ref 0, .int s] (mk vi vl) post := by
  refine CallOk.intro (by decide +kernel) rfl (Nat.le_of_ble_eq_true rfl) ?_
  unfold oHappens at hQ
  refine b_S_happens_0 ?_
  refine c_S_isScene (fun hs => ?_) (fun hs => ?_)
  · rw [inB_t hs, if_pos rfl] at hQ
    refine b_S_happens_4 (fun h4 => b_S_happens_9 ?_) (fun h4 => absurd h4 (by first | decide | assumption | omega | simp_all))
    refine a_yearsWith isCl_3 hW.2.2.1.v hA.2.1.1.v hA.2.1.2 ?_
    refine b_S_happens_18 (fun w18 hw18 => b_S_happens_21 ?_)
    have e : w18 0 8 = nI (ysW (aCu A) s) := by rw [hw18, up2_s, vau_s]
    rw [e]
    have := ysW_32 (s := s) hW.N5
    refine c_J_bitCount (by omega) ?_
    refine b_S_happens_28 ?_
    rw [hw18]
    exact hQ _ _ (AbC_ak hW.L8 hA _) (smM_o (by decide))
  · rw [inB_f hs, if_neg (fun q => by cases q)] at hQ
    refine b_S_happens_4 (fun h4 => absurd h4 (by first | decide | assumption | omega | simp_all)) (fun h4 => b_S_happens_7 ?_)
    exact hQ _ _ hA smM_rf
theorem s_by {y : Int32} (hW : wfA A) (hA : AbC A vi vl) (hQ : PC vi vl post (oBy A y)) : CallOk X (d + 2) 0 0 k_S_by [.ref 0, .int y] (mk vi vl) post := by
  refine CallOk.intro (by decide +kernel) rfl (Nat.le_of_ble_eq_true rfl) ?_
  unfold oBy at hQ
  refine b_S_by_0 ?_
  refine c_S_isYear hA.2.1.1.1 hW.N5 (fun hy => ?_) (fun hy => ?_)
  · rw [inB_t hy, if_pos rfl] at hQ
    have h5 := hW.N5
    obtain ⟨j, hj, rfl⟩ := vp_in_of hy (by omega)
    refine b_S_by_5 (fun h5 => b_S_by_10 (by first | assumption | decide | (refine vp_in_nI ?_ ?_ <;> omega) | omega | simp_all) ?_) (fun h5 => absurd h5 (by first | decide | assumption | omega | simp_all))
    rw [nI_clamp (by omega)] at hQ ⊢
    have e := (V_hap hW.2.2.1.v hA.2.1.1.v hA.2.1.2 j hj).2
    rw [show vi 13 j = mak (aCu A) j from e]
    exact hQ _ _ hA smM_rf
  · rw [inB_f hy, if_neg (fun q => by cases q)] at hQ
    refine b_S_by_5 (fun h5 => absurd h5 (by first | decide | assumption | omega | simp_all)) (fun h5 => b_S_by_8 ?_)
    exact hQ _ _ hA smM_rf
theorem s_broken (hW : wfA A) (hA : AbC A vi vl) (hQ : PC vi vl post (oBroken A)) : CallOk X (d + 5) 0 0 k_S_broken [.ref 0] (mk vi vl) post := by
  refine CallOk.intro (by decide +kernel) rfl (Nat.le_of_ble_eq_true rfl) ?_
  refine b_S_broken_0 ?_
  refine a_brokenLaws isCl_3 hW.2.2.1.v hA.2.1.1.v hA.2.1.2 ?_
  refine b_S_broken_7 ?_
  refine a_firstYearOf isCl_3 hW.2.2.1.v hA.2.1.1.v hA.2.1.2 ?_
  refine b_S_broken_17 (fun w17 hw17 => b_S_broken_20 ?_)
  rw [hw17]
  exact hQ _ _ (AbC_ak hW.L8 hA _) (smM_o (by decide))
theorem s_mark {k kind : Int32} (hW : wfA A) (hA : AbC A vi vl) (hQ : PC vi vl post (oMark A k kind)) : CallOk X (d + 2) 0 0 k_S_mark [.ref 0, .int k, .int kind] (mk vi vl) post := by
  refine CallOk.intro (by decide +kernel) rfl (Nat.le_of_ble_eq_true rfl) ?_
  unfold oMark at hQ
  refine b_S_mark_0 ?_
  refine c_S_isLaw hA.2.1.1.2.1 hW.L8 (fun hy => ?_) (fun hy => ?_)
  · rw [inB_t hy] at hQ
    have h8' := hW.L8
    have h5' := hW.N5
    obtain ⟨j, hj, rfl⟩ := vp_in_of hy (by omega)
    have cj : (nI j).toNatClampNeg = j := nI_clamp (by omega)
    obtain ⟨e1, e2, e3⟩ := hA.2.1.1.v.2.2.2 j hj
    refine b_S_mark_5 (fun h5 => absurd h5 (by first | decide | assumption | omega | simp_all)) (fun h5 => b_S_mark_8 (fun h8 => b_S_mark_18 ?_) (fun h8 => b_S_mark_12 (fun h12 => b_S_mark_20 ?_) (fun h12 => b_S_mark_18 ?_)))
    · rw [if_neg (fun q => absurd q.2.1 (Int32.not_lt.mpr h8))] at hQ
      exact hQ _ _ hA smM_rf
    · rw [if_pos ⟨rfl, Int32.not_le.mp h8, h12⟩, cj] at hQ
      refine c_C_isOfKind (b := 3) isCl_3 (by omega) (V_kd hW.2.2.1.v hA.2.1.1.v j hj) ?_
      have ek : isK (vi (3 + 3)) j kind = isK (cK (aCu A)) j kind := by unfold isK; rw [e1]
      rw [ek]
      cases hk : isK (cK (aCu A)) j kind
      · refine b_S_mark_29 (fun h29 => absurd h29 (by first | decide | assumption | omega | simp_all)) (fun h29 => b_S_mark_32 ?_)
        refine c_S_refuse 3 (by decide) (by decide) ?_
        refine b_S_mark_37 ?_
        rw [hk, if_neg (fun q => by cases q)] at hQ
        exact hQ _ _ (AbC_fd hW.L8 hA (by decide) (by decide)) smM_rfM
      · rw [hk, if_pos rfl] at hQ
        unfold mkT at hQ
        have h1 := ysW_32 (c := aCu A) (s := cC (aCu A) j) h5'
        have h2 := ysW_32 (c := aCu A) (s := cEn (aCu A) j) h5'
        refine b_S_mark_29 (fun h29 => b_S_mark_38 (by first | assumption | decide | (refine vp_in_nI ?_ ?_ <;> omega) | omega | simp_all) ?_) (fun h29 => absurd h29 (by first | decide | assumption | omega | simp_all))
        rw [cj, show vi 7 j = cC (aCu A) j from e2]
        refine a_yearsWith isCl_3 hW.2.2.1.v hA.2.1.1.v hA.2.1.2 ?_
        refine b_S_mark_54 (by first | assumption | decide | (refine vp_in_nI ?_ ?_ <;> omega) | omega | simp_all) ?_
        rw [cj, show vi 8 j = cEn (aCu A) j from e3]
        refine a_yearsWith isCl_3 hW.2.2.1.v hA.2.1.1.v hA.2.1.2 ?_
        refine b_S_mark_71 ?_
        refine ⟨fun h => ?_, fun g1 => ⟨fun h => ?_, fun g2 => ⟨fun h => ?_, fun g3 => ⟨fun h => ?_, fun g4 => ?_⟩⟩⟩⟩
        · refine b_S_mark_104 ?_
          rw [nI_or _ h1 _ h2]
          have := or_32 h1 h2
          refine c_J_bitCount (by omega) ?_
          refine b_S_mark_111 ?_
          rw [if_pos h] at hQ
          exact hQ _ _ hA smM_rf
        · refine b_S_mark_112 ?_
          refine a_yearsThatAre isCl_3 hW.2.2.1.v hA.2.1.1.v ?_
          have h3 := ysT_32 (c := aCu A) (s := 2) h5'
          refine b_S_mark_122 ?_
          rw [nI_and _ h2 _ h3]
          have := and_32 (b := ysT (aCu A) 2) h2
          refine c_J_bitCount (by omega) ?_
          refine b_S_mark_126 ?_
          rw [if_neg g1, if_pos h] at hQ
          exact hQ _ _ hA smM_rf
        · refine b_S_mark_127 ?_
          refine c_J_bitCount (by omega) ?_
          refine b_S_mark_131 ?_
          rw [if_neg g1, if_neg g2, if_pos h] at hQ
          exact hQ _ _ hA smM_rf
        · rw [if_neg g1, if_neg g2, if_neg g3, if_pos h] at hQ
          have q1 : (nI (ysW (aCu A) (cC (aCu A) j)) = 0) ↔ ysW (aCu A) (cC (aCu A) j) = 0 := nI_eq (b := 0) (by omega) (by omega)
          have q2 : (nI (ysW (aCu A) (cEn (aCu A) j)) = 0) ↔ ysW (aCu A) (cEn (aCu A) j) = 0 := nI_eq (b := 0) (by omega) (by omega)
          by_cases z1 : ysW (aCu A) (cC (aCu A) j) = 0
          · have y1 := q1.mpr z1
            by_cases z2 : ysW (aCu A) (cEn (aCu A) j) = 0
            · have y2 := q2.mpr z2
              refine b_S_mark_132 (fun h132 => b_S_mark_140 (b_S_mark_141 (fun h141 => b_S_mark_150 (b_S_mark_151 (fun h151 => b_S_mark_158 (b_S_mark_159 ?_)) (fun h151 => absurd h151 (by first | decide | assumption | omega | simp_all)))) (fun h141 => absurd h141 (by first | decide | assumption | omega | simp_all)))) (fun h132 => absurd h132 (by first | decide | assumption | omega | simp_all))
              simp only [z1, z2] at hQ
              exact hQ _ _ hA smM_rf
            · have y2 := fun q => z2 (q2.mp q)
              refine b_S_mark_132 (fun h132 => b_S_mark_140 (b_S_mark_141 (fun h141 => absurd h141 (by first | decide | assumption | omega | simp_all)) (fun h141 => b_S_mark_146 (b_S_mark_151 (fun h151 => absurd h151 (by first | decide | assumption | omega | simp_all)) (fun h151 => b_S_mark_154 (b_S_mark_159 ?_)))))) (fun h132 => absurd h132 (by first | decide | assumption | omega | simp_all))
              simp only [z1, z2] at hQ
              exact hQ _ _ hA smM_rf
          · have y1 := fun q => z1 (q1.mp q)
            by_cases z2 : ysW (aCu A) (cEn (aCu A) j) = 0
            · have y2 := q2.mpr z2
              refine b_S_mark_132 (fun h132 => absurd h132 (by first | decide | assumption | omega | simp_all)) (fun h132 => b_S_mark_136 (b_S_mark_141 (fun h141 => b_S_mark_150 (b_S_mark_151 (fun h151 => absurd h151 (by first | decide | assumption | omega | simp_all)) (fun h151 => b_S_mark_154 (b_S_mark_159 ?_)))) (fun h141 => absurd h141 (by first | decide | assumption | omega | simp_all))))
              simp only [z1, z2] at hQ
              exact hQ _ _ hA smM_rf
            · have y2 := fun q => z2 (q2.mp q)
              refine b_S_mark_132 (fun h132 => absurd h132 (by first | decide | assumption | omega | simp_all)) (fun h132 => b_S_mark_136 (b_S_mark_141 (fun h141 => absurd h141 (by first | decide | assumption | omega | simp_all)) (fun h141 => b_S_mark_146 (b_S_mark_151 (fun h151 => b_S_mark_158 (b_S_mark_159 ?_)) (fun h151 => absurd h151 (by first | decide | assumption | omega | simp_all))))))
              simp only [z1, z2] at hQ
              exact hQ _ _ hA smM_rf
        · show wp X (d + 2) k_S_mark 0 0 160 _ _ _ _
          refine b_S_mark_160 ?_
          refine a_yearsThatAre isCl_3 hW.2.2.1.v hA.2.1.1.v ?_
          have h3 := ysT_32 (c := aCu A) (s := 0) h5'
          refine b_S_mark_170 ?_
          rw [nI_and _ h2 _ h3]
          have := and_32 (b := ysT (aCu A) 0) h2
          refine c_J_bitCount (by omega) ?_
          refine b_S_mark_174 ?_
          rw [if_neg g1, if_neg g2, if_neg g3, if_neg g4] at hQ
          exact hQ _ _ hA smM_rf
    · rw [if_neg (fun q => h12 q.2.2)] at hQ
      exact hQ _ _ hA smM_rf
  · rw [inB_f hy, if_neg (fun q => by cases q.1)] at hQ
    refine b_S_mark_5 (fun h5 => b_S_mark_18 ?_) (fun h5 => absurd h5 (by first | decide | assumption | omega | simp_all))
    exact hQ _ _ hA smM_rf
end S34
