section S52
variable {X : aX} {d : Nat} {vi : Nat → Nat → Int32} {vl : Nat → Nat → Int64} {post : aO} {A : aA}
theorem smC_tr {u v w : Nat → Nat → Int32} {ul wl : Nat → Nat → Int64} (h1 : smC u v ul vl) (h2 : smC v w vl wl) : smC u w ul wl := ⟨fun j hj => (h2.1 j hj).trans (h1.1 j hj), fun j hj => (h2.2 j hj).trans (h1.2 j hj)⟩
theorem tAk_W {v : Int32} (hW : wfA A) : wfA (tAk A v) := hW
theorem tFd_W {f : Nat} (hW : wfA A) : wfA (tFd A f) := hW
theorem m_lay {r i v : Int32} (hW : wfA A) (hA : AbM A vi vl) (hQ : PM vi vl post (oLay A r i v)) : CallOk X (d + 4) 0 0 k_M_lay [.ref 95, .int r, .int i, .int v] (mk vi vl) post := by
  refine CallOk.intro (by decide +kernel) rfl (Nat.le_of_ble_eq_true rfl) ?_
  unfold oLay at hQ
  refine b_M_lay_0 ?_
  by_cases hr : vp_in r 6
  · rw [inB_t hr, if_pos rfl] at hQ
    obtain ⟨m, hm, rfl⟩ := vp_in_of hr (by decide)
    have cm : (nI m).toNatClampNeg = m := nI_clamp (by omega)
    rw [cm] at hQ
    by_cases h1 : aRs A m = -1
    · rw [if_pos h1] at hQ
      have eo : oAt A (nI m) i = (-3, tFd A 1) := by unfold oAt; rw [inB_t hr, if_pos rfl, cm, if_pos h1]
      refine m_at hW hA (fun w wl ha hs => ?_)
      rw [eo] at ha ⊢
      refine b_M_lay_6 (fun h6 => b_M_lay_26 ?_) (fun h6 => absurd h6 (by first | decide | assumption | omega | simp_all))
      exact hQ _ _ ha hs
    · rw [if_neg h1] at hQ
      by_cases hi : i < 0 ∨ aRs A m ≤ i
      · rw [if_pos hi] at hQ
        have eo : oAt A (nI m) i = (-3, tFd A 2) := by unfold oAt; rw [inB_t hr, if_pos rfl, cm, if_neg h1, if_pos hi]
        refine m_at hW hA (fun w wl ha hs => ?_)
        rw [eo] at ha ⊢
        refine b_M_lay_6 (fun h6 => b_M_lay_26 ?_) (fun h6 => absurd h6 (by first | decide | assumption | omega | simp_all))
        exact hQ _ _ ha hs
      · rw [if_neg hi] at hQ
        have eo : oAt A (nI m) i = (1, tAk A (aRp A m (i.toNatClampNeg))) := by unfold oAt; rw [inB_t hr, if_pos rfl, cm, if_neg h1, if_neg hi]
        refine m_at hW hA (fun w wl ha hs => ?_)
        rw [eo] at ha ⊢
        rcases sz_or (hW.1 m hm) (by omega) with ⟨q, -, -⟩ | ⟨n, hn, h2, -, -, -⟩
        · exact absurd q h1
        · rw [h2] at hi
          obtain ⟨j, hj, rfl⟩ := nin_ex (by omega) hi
          have cj : (nI j).toNatClampNeg = j := nI_clamp (by omega)
          rw [cj] at hQ ha
          have v1 : vp_in (40 * nI m + nI j) 240 := by rw [ix40]; exact vp_in_nI (by omega) (by omega)
          refine b_M_lay_6 (fun h6 => absurd h6 (by first | decide | assumption | omega | simp_all)) (fun h6 => b_M_lay_14 (by first | assumption | decide | (refine vp_in_nI ?_ ?_ <;> omega) | omega | simp_all) (fun w14 hw14 => b_M_lay_26 ?_))
          rw [ix40, nI_clamp (by omega)] at hw14
          rw [hw14]
          obtain ⟨e1, e2⟩ := ha.1 m hm
          refine hQ _ _ (AbM_row (tAk_W hW) ha ?_ (fun k hk => ?_) (fun q hq hqr k hk => ?_) (fun j a b _ => up2_n a)) (smC_tr hs (smC_of fun q hq => up2_n (by omega)))
          · rw [up2_n (by decide), show aRs A m = w 99 m from e1.symm, vau_id]
          · rw [up2_s]
            by_cases hkj : k = j
            · subst hkj; rw [vau_s, vau_s]
            · rw [vau_n (by omega), vau_n hkj]; exact e2 k hk
          · rw [up2_s, vau_n (by omega)]
  · rw [inB_f hr, if_neg (fun q => by cases q)] at hQ
    have eo : oAt A r i = (-1, A) := by unfold oAt; rw [inB_f hr]; rfl
    refine m_at hW hA (fun w wl ha hs => ?_)
    rw [eo] at ha ⊢
    refine b_M_lay_6 (fun h6 => b_M_lay_26 ?_) (fun h6 => absurd h6 (by first | decide | assumption | omega | simp_all))
    exact hQ _ _ ha hs
theorem c_M_fits {i n s : Int32} (hQ : post (some (.int (bI (spB i n s)))) (mk vi vl)) : CallOk X (d + 1) 0 0 k_M_fits [.int i, .int n, .int s] (mk vi vl) post := by
  refine CallOk.intro (by decide +kernel) rfl (Nat.le_of_ble_eq_true rfl) ?_
  unfold spB at hQ
  have e0 : (0 : Int32).toInt = 0 := rfl
  by_cases h1 : 0 ≤ i.toInt
  · have g1 : ¬ i < 0 := fun q => by rw [Int32.lt_iff_toInt_lt] at q; omega
    by_cases h2 : i.toInt + n.toInt ≤ s.toInt
    · have g2 : ¬ 0 < lg_cmp (i.toInt64 + n.toInt64) s.toInt64 := fun q => by have := lgc_gt.mp q; rw [add64, Int32.toInt_toInt64] at this; omega
      rw [decide_eq_true ⟨h1, h2⟩] at hQ
      refine b_M_fits_0 (fun h0 => absurd h0 (by first | decide | assumption | omega | simp_all)) (fun h0 => b_M_fits_4 (fun h4 => absurd h4 (by first | decide | assumption | omega | simp_all)) (fun h4 => b_M_fits_15 (b_M_fits_20 (by first | assumption | decide | (refine vp_in_nI ?_ ?_ <;> omega) | omega | simp_all) ?_)))
      exact hQ
    · have g2 : 0 < lg_cmp (i.toInt64 + n.toInt64) s.toInt64 := lgc_gt.mpr (by rw [add64, Int32.toInt_toInt64]; omega)
      rw [decide_eq_false (fun q => h2 q.2)] at hQ
      refine b_M_fits_0 (fun h0 => absurd h0 (by first | decide | assumption | omega | simp_all)) (fun h0 => b_M_fits_4 (fun h4 => b_M_fits_19 (b_M_fits_20 (by first | assumption | decide | (refine vp_in_nI ?_ ?_ <;> omega) | omega | simp_all) ?_)) (fun h4 => absurd h4 (by first | decide | assumption | omega | simp_all)))
      exact hQ
  · have g1 : i < 0 := by rw [Int32.lt_iff_toInt_lt]; omega
    rw [decide_eq_false (fun q => h1 q.1)] at hQ
    refine b_M_fits_0 (fun h0 => b_M_fits_19 (b_M_fits_20 (by first | assumption | decide | (refine vp_in_nI ?_ ?_ <;> omega) | omega | simp_all) ?_)) (fun h0 => absurd h0 (by first | decide | assumption | omega | simp_all))
    exact hQ
theorem m_copy {r i to j n : Int32} (hW : wfA A) (hA : AbM A vi vl) (hQ : PM vi vl post (oCopy A r i to j n)) : CallOk X (d + 3) 0 0 k_M_copy [.ref 95, .int r, .int i, .int to, .int j, .int n] (mk vi vl) post := by
  refine CallOk.intro (by decide +kernel) rfl (Nat.le_of_ble_eq_true rfl) ?_
  unfold oCopy at hQ
  refine b_M_copy_0 ?_
  refine c_M_isRow ?_
  by_cases hr : vp_in r 6
  · rw [inB_t hr] at hQ ⊢
    refine b_M_copy_4 (fun h4 => absurd h4 (by first | decide | assumption | omega | simp_all)) (fun h4 => b_M_copy_7 ?_)
    refine c_M_isRow ?_
    by_cases ht : vp_in to 6
    · rw [inB_t ht] at hQ ⊢
      rw [if_pos ⟨rfl, rfl⟩] at hQ
      obtain ⟨a, ha, rfl⟩ := vp_in_of hr (by decide)
      obtain ⟨b, hb, rfl⟩ := vp_in_of ht (by decide)
      have ca : (nI a).toNatClampNeg = a := nI_clamp (by omega)
      have cb : (nI b).toNatClampNeg = b := nI_clamp (by omega)
      rw [ca, cb] at hQ
      obtain ⟨ea1, ea2⟩ := hA.1 a ha
      obtain ⟨eb1, eb2⟩ := hA.1 b hb
      by_cases h0 : n < 0
      · rw [if_pos h0] at hQ
        have g : ¬ 0 ≤ n := Int32.not_le.mpr h0
        refine b_M_copy_11 (fun h11 => b_M_copy_16 (fun h16 => absurd h16 (by first | decide | assumption | omega | simp_all)) (fun h16 => b_M_copy_21 ?_)) (fun h11 => absurd h11 (by first | decide | assumption | omega | simp_all))
        refine c_M_found (f := 5) (by decide) ?_
        refine b_M_copy_26 ?_
        exact hQ _ _ (AbM_fd hW hA (by decide)) (smC_of fun j hj => fd_o hj)
      · rw [if_neg h0] at hQ
        have g : 0 ≤ n := Int32.not_lt.mp h0
        rcases sz_or (hW.1 a ha) (by omega) with ⟨p1, p2, p3⟩ | ⟨na, hna, p1, p2, p3, p4⟩
        · rw [if_pos (Or.inl p1)] at hQ
          have g1 : vi 99 (nI a).toNatClampNeg < 0 := by rw [ca, ea1]; exact p3
          refine b_M_copy_11 (fun h11 => b_M_copy_16 (fun h16 => b_M_copy_27 (by first | assumption | decide | (refine vp_in_nI ?_ ?_ <;> omega) | omega | simp_all) (fun h27 => b_M_copy_45 ?_) (fun h27 => absurd h27 (by first | decide | assumption | omega | simp_all))) (fun h16 => absurd h16 (by first | decide | assumption | omega | simp_all))) (fun h11 => absurd h11 (by first | decide | assumption | omega | simp_all))
          refine c_M_found (f := 1) (by decide) ?_
          refine b_M_copy_50 ?_
          exact hQ _ _ (AbM_fd hW hA (by decide)) (smC_of fun j hj => fd_o hj)
        · have g1 : ¬ vi 99 (nI a).toNatClampNeg < 0 := by rw [ca, ea1]; exact p3
          rcases sz_or (hW.1 b hb) (by omega) with ⟨q1, q2, q3⟩ | ⟨nb, hnb, q1, q2, q3, q4⟩
          · rw [if_pos (Or.inr q1)] at hQ
            have g2 : ¬ 0 ≤ vi 99 (nI b).toNatClampNeg := by rw [cb, eb1]; exact q2
            refine b_M_copy_11 (fun h11 => b_M_copy_16 (fun h16 => b_M_copy_27 (by first | assumption | decide | (refine vp_in_nI ?_ ?_ <;> omega) | omega | simp_all) (fun h27 => absurd h27 (by first | decide | assumption | omega | simp_all)) (fun h27 => b_M_copy_36 (by first | assumption | decide | (refine vp_in_nI ?_ ?_ <;> omega) | omega | simp_all) (fun h36 => absurd h36 (by first | decide | assumption | omega | simp_all)) (fun h36 => b_M_copy_45 ?_))) (fun h16 => absurd h16 (by first | decide | assumption | omega | simp_all))) (fun h11 => absurd h11 (by first | decide | assumption | omega | simp_all))
            refine c_M_found (f := 1) (by decide) ?_
            refine b_M_copy_50 ?_
            exact hQ _ _ (AbM_fd hW hA (by decide)) (smC_of fun j hj => fd_o hj)
          · rw [if_neg (fun q => q.elim p4 q4)] at hQ
            have g2 : 0 ≤ vi 99 (nI b).toNatClampNeg := by rw [cb, eb1]; exact q2
            refine b_M_copy_11 (fun h11 => b_M_copy_16 (fun h16 => b_M_copy_27 (by first | assumption | decide | (refine vp_in_nI ?_ ?_ <;> omega) | omega | simp_all) (fun h27 => absurd h27 (by first | decide | assumption | omega | simp_all)) (fun h27 => b_M_copy_36 (by first | assumption | decide | (refine vp_in_nI ?_ ?_ <;> omega) | omega | simp_all) (fun h36 => b_M_copy_51 (by first | assumption | decide | (refine vp_in_nI ?_ ?_ <;> omega) | omega | simp_all) ?_) (fun h36 => absurd h36 (by first | decide | assumption | omega | simp_all)))) (fun h16 => absurd h16 (by first | decide | assumption | omega | simp_all))) (fun h11 => absurd h11 (by first | decide | assumption | omega | simp_all))
            rw [ca, ea1]
            refine c_M_fits ?_
            cases hs1 : spB i n (aRs A a)
            · rw [hs1, if_neg (fun q => by cases q.1)] at hQ
              refine b_M_copy_63 (fun h63 => b_M_copy_82 ?_) (fun h63 => absurd h63 (by first | decide | assumption | omega | simp_all))
              refine c_M_found (f := 2) (by decide) ?_
              refine b_M_copy_87 ?_
              exact hQ _ _ (AbM_fd hW hA (by decide)) (smC_of fun j hj => fd_o hj)
            · refine b_M_copy_63 (fun h63 => absurd h63 (by first | decide | assumption | omega | simp_all)) (fun h63 => b_M_copy_66 (by first | assumption | decide | (refine vp_in_nI ?_ ?_ <;> omega) | omega | simp_all) ?_)
              rw [cb, eb1]
              refine c_M_fits ?_
              cases hs2 : spB j n (aRs A b)
              · rw [hs2, if_neg (fun q => by cases q.2)] at hQ
                refine b_M_copy_79 (fun h79 => absurd h79 (by first | decide | assumption | omega | simp_all)) (fun h79 => b_M_copy_82 ?_)
                refine c_M_found (f := 2) (by decide) ?_
                refine b_M_copy_87 ?_
                exact hQ _ _ (AbM_fd hW hA (by decide)) (smC_of fun j hj => fd_o hj)
              · rw [hs1, hs2, if_pos ⟨rfl, rfl⟩] at hQ
                unfold spB at hs1 hs2
                obtain ⟨i1, i2⟩ := of_decide_eq_true hs1
                obtain ⟨j1, j2⟩ := of_decide_eq_true hs2
                have e0 : (0 : Int32).toInt = 0 := rfl
                obtain ⟨i', hi', rfl⟩ := nI_of (x := i) (fun q => by rw [Int32.lt_iff_toInt_lt] at q; omega)
                obtain ⟨j', hj', rfl⟩ := nI_of (x := j) (fun q => by rw [Int32.lt_iff_toInt_lt] at q; omega)
                obtain ⟨m, hm, rfl⟩ := nI_of (x := n) h0
                rw [p1, nI_toInt hi', nI_toInt hm, nI_toInt (by omega)] at i2
                rw [q1, nI_toInt hj', nI_toInt hm, nI_toInt (by omega)] at j2
                rw [nI_clamp hi', nI_clamp hj', nI_clamp hm] at hQ
                refine b_M_copy_79 (fun h79 => b_M_copy_88 ?_) (fun h79 => absurd h79 (by first | decide | assumption | omega | simp_all))
                have key := loop_up (P := fun k => ∀ w, (∀ q, q ≠ 102 → w q = vi q) → (∀ q, q < k → w 102 q = aRp A a (i' + q)) → wp X (d + 3) k_M_copy 0 0 91 [some (.ref 95), some (.int (nI a)), some (.int (nI i')), some (.int (nI b)), some (.int (nI j')), some (.int (nI m)), some (.int (nI k))] [] (mk w vl) post) m 0 (Nat.zero_le _) ?_ ?_
                · exact key vi (fun _ _ => rfl) (fun q hq => absurd hq (Nat.not_lt_zero _))
                · intro w hw hh
                  have g3 : ¬ ¬ nI m ≤ nI m := fun q => q (Int32.le_refl _)
                  refine b_M_copy_91 (fun h91 => b_M_copy_125 ?_) (fun h91 => absurd h91 (by first | decide | assumption | omega | simp_all))
                  have key2 := loop_up (P := fun k => ∀ u, (∀ q, q ≠ 98 → u q = w q) → (∀ q, (q < 40 * b + j' ∨ 40 * b + j' + k ≤ q) → u 98 q = w 98 q) → (∀ q, q < k → u 98 (40 * b + j' + q) = aRp A a (i' + q)) → wp X (d + 3) k_M_copy 0 0 128 [some (.ref 95), some (.int (nI a)), some (.int (nI i')), some (.int (nI b)), some (.int (nI j')), some (.int (nI m)), some (.int (nI k))] [] (mk u vl) post) m 0 (Nat.zero_le _) ?_ ?_
                  · exact key2 w (fun _ _ => rfl) (fun _ _ => rfl) (fun q hq => absurd hq (Nat.not_lt_zero _))
                  · intro u hu1 hu2 hu3
                    have g3 : ¬ ¬ nI m ≤ nI m := fun q => q (Int32.le_refl _)
                    refine b_M_copy_128 (fun h128 => b_M_copy_163 ?_) (fun h128 => absurd h128 (by first | decide | assumption | omega | simp_all))
                    refine hQ _ _ (AbM_row hW hA ?_ (fun k hk => ?_) (fun q hq hqr k hk => ?_) (fun q a b c => ?_)) (smC_of fun q hq => by rw [hu1 q (by omega), hw q (by omega)])
                    · rw [hu1 99 (by decide), hw 99 (by decide), show aRs A b = vi 99 b from eb1.symm, vau_id]
                    · unfold va_cpy
                      by_cases hk2 : j' ≤ k ∧ k < j' + m
                      · rw [if_pos hk2, show 40 * b + k = 40 * b + j' + (k - j') by omega]
                        exact hu3 (k - j') (by omega)
                      · rw [if_neg hk2, hu2 _ (by omega), hw 98 (by decide)]
                        exact eb2 k hk
                    · rw [hu2 _ (by omega), hw 98 (by decide)]
                    · rw [hu1 q a, hw q c]
                  · intro k _ hk ih u hu1 hu2 hu3
                    have g3 : ¬ nI m ≤ nI k := nI_ge hk (by omega)
                    have ck : (nI k).toNatClampNeg = k := nI_clamp (by omega)
                    have v1 : vp_in (nI k) 40 := vp_in_nI (by omega) (by omega)
                    have e1 : 40 * nI b + nI j' + nI k = nI (40 * b + j' + k) := by rw [ix40, nI_add]
                    have v2 : vp_in (40 * nI b + nI j' + nI k) 240 := by rw [e1]; exact vp_in_nI (by omega) (by omega)
                    refine b_M_copy_128 (fun h128 => absurd h128 (by first | decide | assumption | omega | simp_all)) (fun h128 => b_M_copy_135 (by first | assumption | decide | (refine vp_in_nI ?_ ?_ <;> omega) | omega | simp_all) (by first | assumption | decide | (refine vp_in_nI ?_ ?_ <;> omega) | omega | simp_all) (fun w135 hw135 => b_M_copy_157 ?_))
                    rw [nI_1]
                    rw [e1, nI_clamp (by omega), ck, hu1 102 (by decide), hh k hk] at hw135
                    rw [hw135]
                    refine ih _ (fun q hq => by rw [up2_n hq]; exact hu1 q hq) (fun q hq => ?_) (fun q hq => ?_)
                    · rw [up2_s, vau_n (by omega)]; exact hu2 q (by omega)
                    · rw [up2_s]
                      by_cases hqk : q = k
                      · subst hqk; rw [vau_s]
                      · rw [vau_n (by omega)]; exact hu3 q (by omega)
                · intro k _ hk ih w hw hh
                  have g3 : ¬ nI m ≤ nI k := nI_ge hk (by omega)
                  have ck : (nI k).toNatClampNeg = k := nI_clamp (by omega)
                  have v1 : vp_in (nI k) 40 := vp_in_nI (by omega) (by omega)
                  have e1 : 40 * nI a + nI i' + nI k = nI (40 * a + i' + k) := by rw [ix40, nI_add]
                  have v2 : vp_in (40 * nI a + nI i' + nI k) 240 := by rw [e1]; exact vp_in_nI (by omega) (by omega)
                  refine b_M_copy_91 (fun h91 => absurd h91 (by first | decide | assumption | omega | simp_all)) (fun h91 => b_M_copy_98 (by first | assumption | decide | (refine vp_in_nI ?_ ?_ <;> omega) | omega | simp_all) (by first | assumption | decide | (refine vp_in_nI ?_ ?_ <;> omega) | omega | simp_all) (fun w98 hw98 => b_M_copy_119 ?_))
                  rw [nI_1]
                  rw [e1, ck, nI_clamp (by omega), hw 98 (by decide), show 40 * a + i' + k = 40 * a + (i' + k) by omega, ea2 (i' + k) (by omega)] at hw98
                  rw [hw98]
                  refine ih _ (fun q hq => by rw [up2_n hq]; exact hw q hq) (fun q hq => ?_)
                  rw [up2_s]
                  by_cases hqk : q = k
                  · subst hqk; rw [vau_s]
                  · rw [vau_n hqk]; exact hh q (by omega)
    · rw [inB_f ht] at hQ ⊢
      rw [if_neg (fun q => by cases q.2)] at hQ
      refine b_M_copy_11 (fun h11 => absurd h11 (by first | decide | assumption | omega | simp_all)) (fun h11 => b_M_copy_14 ?_)
      exact hQ _ _ hA smC_rf
  · rw [inB_f hr] at hQ ⊢
    rw [if_neg (fun q => by cases q.1)] at hQ
    refine b_M_copy_4 (fun h4 => b_M_copy_14 ?_) (fun h4 => absurd h4 (by first | decide | assumption | omega | simp_all))
    exact hQ _ _ hA smC_rf
theorem m_mean {r : Int32} (hW : wfA A) (hA : AbM A vi vl) (hQ : PM vi vl post (oMean A r)) : CallOk X (d + 3) 0 0 k_M_mean [.ref 95, .int r] (mk vi vl) post := by
  refine CallOk.intro (by decide +kernel) rfl (Nat.le_of_ble_eq_true rfl) ?_
  unfold oMean at hQ
  refine b_M_mean_0 ?_
  refine c_M_isRow ?_
  by_cases hr : vp_in r 6
  · rw [inB_t hr] at hQ ⊢
    rw [if_pos rfl] at hQ
    obtain ⟨m, hm, rfl⟩ := vp_in_of hr (by decide)
    have cm : (nI m).toNatClampNeg = m := nI_clamp (by omega)
    rw [cm] at hQ
    obtain ⟨e1, e2⟩ := hA.1 m hm
    rcases sz_or (hW.1 m hm) (by omega) with ⟨h1, h2, -⟩ | ⟨n, hn, h1, h2, -, h3⟩
    · rw [if_pos h1] at hQ
      have g : ¬ 0 ≤ vi 99 (nI m).toNatClampNeg := by rw [cm, e1]; exact h2
      refine b_M_mean_4 (fun h4 => b_M_mean_9 (by first | assumption | decide | (refine vp_in_nI ?_ ?_ <;> omega) | omega | simp_all) (fun h9 => absurd h9 (by first | decide | assumption | omega | simp_all)) (fun h9 => b_M_mean_18 ?_)) (fun h4 => absurd h4 (by first | decide | assumption | omega | simp_all))
      refine c_M_found (f := 1) (by decide) ?_
      refine b_M_mean_23 ?_
      exact hQ _ _ (AbM_fd hW hA (by decide)) (smC_of fun j hj => fd_o hj)
    · rw [if_neg h3] at hQ
      have g : 0 ≤ vi 99 (nI m).toNatClampNeg := by rw [cm, e1]; exact h2
      have e9 : vi 99 (nI m).toNatClampNeg = nI n := by rw [cm, e1]; exact h1
      have q0 : (nI n = 0) ↔ n = 0 := nI_eq (b := 0) (by omega) (by omega)
      by_cases h0 : aRs A m = 0
      · rw [if_pos h0] at hQ
        have g1 : ¬ ¬ vi 99 (nI m).toNatClampNeg = 0 := fun q => q (by rw [cm, e1]; exact h0)
        refine b_M_mean_4 (fun h4 => b_M_mean_9 (by first | assumption | decide | (refine vp_in_nI ?_ ?_ <;> omega) | omega | simp_all) (fun h9 => b_M_mean_24 (by first | assumption | decide | (refine vp_in_nI ?_ ?_ <;> omega) | omega | simp_all) (fun h24 => absurd h24 (by first | decide | assumption | omega | simp_all)) (fun h24 => b_M_mean_33 ?_)) (fun h9 => absurd h9 (by first | decide | assumption | omega | simp_all))) (fun h4 => absurd h4 (by first | decide | assumption | omega | simp_all))
        refine c_M_found (f := 4) (by decide) ?_
        refine b_M_mean_38 ?_
        exact hQ _ _ (AbM_fd hW hA (by decide)) (smC_of fun j hj => fd_o hj)
      · rw [if_neg h0] at hQ
        have g1 : ¬ vi 99 (nI m).toNatClampNeg = 0 := by rw [cm, e1]; exact h0
        have hn0 : n ≠ 0 := fun q => h0 (by rw [h1]; exact q0.mpr q)
        rw [h1, nI_clamp (by omega)] at hQ
        refine b_M_mean_4 (fun h4 => b_M_mean_9 (by first | assumption | decide | (refine vp_in_nI ?_ ?_ <;> omega) | omega | simp_all) (fun h9 => b_M_mean_24 (by first | assumption | decide | (refine vp_in_nI ?_ ?_ <;> omega) | omega | simp_all) (fun h24 => b_M_mean_39 ?_) (fun h24 => absurd h24 (by first | decide | assumption | omega | simp_all))) (fun h9 => absurd h9 (by first | decide | assumption | omega | simp_all))) (fun h4 => absurd h4 (by first | decide | assumption | omega | simp_all))
        have key := loop_up (P := fun q => wp X (d + 3) k_M_mean 0 0 44 [some (.ref 95), some (.int (nI m)), some (.long (smF (aRp A m) q)), none, some (.int (nI q))] [] (mk vi vl) post) n 0 (Nat.zero_le _) ?_ ?_
        · exact key
        · have g2 : ¬ ¬ vi 99 (nI m).toNatClampNeg ≤ nI n := fun q => q (by rw [e9]; exact Int32.le_refl _)
          have g3 : ¬ (vi 99 (nI m).toNatClampNeg).toInt64 = 0 := by
            rw [e9, nI_l (by omega)]; exact fun q => hn0 ((lN_eq0 (by omega)).mp q)
          refine b_M_mean_44 (by first | assumption | decide | (refine vp_in_nI ?_ ?_ <;> omega) | omega | simp_all) (fun h44 => b_M_mean_77 (by first | assumption | decide | (refine vp_in_nI ?_ ?_ <;> omega) | omega | simp_all) (by first | assumption | decide | (refine vp_in_nI ?_ ?_ <;> omega) | omega | simp_all) ?_) (fun h44 => absurd h44 (by first | decide | assumption | omega | simp_all))
          rw [e9]
          refine c_M_tells ?_
          refine b_M_mean_92 ?_
          exact hQ _ _ (AbM_ak hW hA _) (smC_of fun q hq => up2_n (by omega))
        · intro q _ hq ih
          have g2 : ¬ vi 99 (nI m).toNatClampNeg ≤ nI q := by rw [e9]; exact nI_ge hq (by omega)
          have v1 : vp_in (40 * nI m + nI q) 240 := by rw [ix40]; exact vp_in_nI (by omega) (by omega)
          refine b_M_mean_44 (by first | assumption | decide | (refine vp_in_nI ?_ ?_ <;> omega) | omega | simp_all) (fun h44 => absurd h44 (by first | decide | assumption | omega | simp_all)) (fun h44 => b_M_mean_55 (by first | assumption | decide | (refine vp_in_nI ?_ ?_ <;> omega) | omega | simp_all) ?_)
          rw [nI_1, ix40, nI_clamp (by omega), e2 q (by omega)]
          exact ih
  · rw [inB_f hr] at hQ ⊢
    rw [if_neg (fun q => by cases q)] at hQ
    refine b_M_mean_4 (fun h4 => absurd h4 (by first | decide | assumption | omega | simp_all)) (fun h4 => b_M_mean_7 ?_)
    exact hQ _ _ hA smC_rf
theorem m_text {r n : Int32} (hW : wfA A) (hA : AbM A vi vl) (hQ : PM vi vl post (oText A r n)) : CallOk X (d + 3) 0 0 k_M_text [.ref 95, .int r, .int n] (mk vi vl) post := by
  refine CallOk.intro (by decide +kernel) rfl (Nat.le_of_ble_eq_true rfl) ?_
  unfold oText at hQ
  refine b_M_text_0 ?_
  refine c_M_isText ?_
  by_cases hr : vp_in r 4
  · rw [inB_t hr] at hQ ⊢
    obtain ⟨m, hm, rfl⟩ := vp_in_of hr (by decide)
    have cm : (nI m).toNatClampNeg = m := nI_clamp (by omega)
    by_cases h40 : n ≤ 60
    · rw [if_pos ⟨rfl, h40⟩] at hQ
      by_cases h0 : n < 0
      · rw [if_pos h0] at hQ
        have g : ¬ 0 ≤ n := Int32.not_le.mpr h0
        refine b_M_text_4 (fun h4 => absurd h4 (by first | decide | assumption | omega | simp_all)) (fun h4 => b_M_text_7 (fun h7 => b_M_text_15 (fun h15 => absurd h15 (by first | decide | assumption | omega | simp_all)) (fun h15 => b_M_text_19 ?_)) (fun h7 => absurd h7 (by first | decide | assumption | omega | simp_all)))
        refine c_M_found (f := 5) (by decide) ?_
        refine b_M_text_24 ?_
        exact hQ _ _ (AbM_fd hW hA (by decide)) (smC_of fun j hj => fd_o hj)
      · rw [if_neg h0, cm] at hQ
        have g : 0 ≤ n := Int32.not_lt.mp h0
        refine b_M_text_4 (fun h4 => absurd h4 (by first | decide | assumption | omega | simp_all)) (fun h4 => b_M_text_7 (fun h7 => b_M_text_15 (fun h15 => b_M_text_25 (by first | assumption | decide | (refine vp_in_nI ?_ ?_ <;> omega) | omega | simp_all) (fun w25 hw25 => b_M_text_32 ?_)) (fun h15 => absurd h15 (by first | decide | assumption | omega | simp_all))) (fun h7 => absurd h7 (by first | decide | assumption | omega | simp_all)))
        rw [cm] at hw25
        have key := loop_up (P := fun k => ∀ w, (∀ q, q ≠ 100 → q ≠ 101 → w q = vi q) → w 101 = va_up (vi 101) m n → (∀ q, (q < 60 * m ∨ 60 * m + 60 ≤ q) → w 100 q = vi 100 q) → (∀ q, q < k → w 100 (60 * m + q) = 32) → wp X (d + 3) k_M_text 0 0 34 [some (.ref 95), some (.int (nI m)), some (.int n), some (.int (nI k))] [] (mk w vl) post) 60 0 (Nat.zero_le _) ?_ ?_
        · exact key w25 (fun q a b => by rw [hw25, up2_n b]) (by rw [hw25, up2_s]) (fun q _ => by rw [hw25, up2_n (by decide)]) (fun q hq => absurd hq (Nat.not_lt_zero _))
        · intro w w1 w2 w3 w4
          have g1 : ¬ ¬ (60 : Int32) ≤ nI 60 := by decide
          refine b_M_text_34 (fun h34 => b_M_text_59 ?_) (fun h34 => absurd h34 (by first | decide | assumption | omega | simp_all))
          refine hQ _ _ (AbM_txt hW hA w2 w4 (fun q hq hqr k hk => w3 _ (by omega)) w1) (smC_of fun q hq => w1 q (by omega) (by omega))
        · intro k _ hk ih w w1 w2 w3 w4
          have g1 : ¬ (60 : Int32) ≤ nI k := nI_ge (a := k) (b := 60) hk (by omega)
          have v1 : vp_in (60 * nI m + nI k) 240 := by rw [ix60]; exact vp_in_nI (by omega) (by omega)
          refine b_M_text_34 (fun h34 => absurd h34 (by first | decide | assumption | omega | simp_all)) (fun h34 => b_M_text_40 (by first | assumption | decide | (refine vp_in_nI ?_ ?_ <;> omega) | omega | simp_all) (fun w40 hw40 => b_M_text_53 ?_))
          rw [nI_1]
          rw [ix60, nI_clamp (by omega)] at hw40
          rw [hw40]
          refine ih _ (fun q a b => by rw [up2_n a]; exact w1 q a b) (by rw [up2_n (by decide)]; exact w2) (fun q hq => by rw [up2_s, vau_n (by omega)]; exact w3 q hq) (fun q hq => ?_)
          rw [up2_s]
          by_cases hqk : q = k
          · subst hqk; rw [vau_s]
          · rw [vau_n (by omega)]; exact w4 q (by omega)
    · rw [if_neg (fun q => h40 q.2)] at hQ
      refine b_M_text_4 (fun h4 => absurd h4 (by first | decide | assumption | omega | simp_all)) (fun h4 => b_M_text_7 (fun h7 => absurd h7 (by first | decide | assumption | omega | simp_all)) (fun h7 => b_M_text_13 ?_))
      exact hQ _ _ hA smC_rf
  · rw [inB_f hr] at hQ ⊢
    rw [if_neg (fun q => by cases q.1)] at hQ
    refine b_M_text_4 (fun h4 => b_M_text_13 ?_) (fun h4 => absurd h4 (by first | decide | assumption | omega | simp_all))
    exact hQ _ _ hA smC_rf
theorem m_put {r i v : Int32} (hW : wfA A) (hA : AbM A vi vl) (hQ : PM vi vl post (oPut A r i v)) : CallOk X (d + 3) 0 0 k_M_put [.ref 95, .int r, .int i, .int v] (mk vi vl) post := by
  refine CallOk.intro (by decide +kernel) rfl (Nat.le_of_ble_eq_true rfl) ?_
  unfold oPut at hQ
  refine b_M_put_0 ?_
  refine c_M_isText ?_
  by_cases hr : vp_in r 4
  · rw [inB_t hr] at hQ ⊢
    rw [if_pos rfl] at hQ
    obtain ⟨m, hm, rfl⟩ := vp_in_of hr (by decide)
    have cm : (nI m).toNatClampNeg = m := nI_clamp (by omega)
    rw [cm] at hQ
    obtain ⟨e1, e2⟩ := hA.2.1 m hm
    rcases sz_or (hW.2.1 m hm) (by omega) with ⟨h1, h2, -⟩ | ⟨n, hn, h1, h2, -, h3⟩
    · rw [if_pos h1] at hQ
      have g : ¬ 0 ≤ vi 101 (nI m).toNatClampNeg := by rw [cm, e1]; exact h2
      refine b_M_put_4 (fun h4 => b_M_put_9 (by first | assumption | decide | (refine vp_in_nI ?_ ?_ <;> omega) | omega | simp_all) (fun h9 => absurd h9 (by first | decide | assumption | omega | simp_all)) (fun h9 => b_M_put_18 ?_)) (fun h4 => absurd h4 (by first | decide | assumption | omega | simp_all))
      refine c_M_found (f := 1) (by decide) ?_
      refine b_M_put_23 ?_
      exact hQ _ _ (AbM_fd hW hA (by decide)) (smC_of fun j hj => fd_o hj)
    · rw [if_neg h3] at hQ
      have g : 0 ≤ vi 101 (nI m).toNatClampNeg := by rw [cm, e1]; exact h2
      refine b_M_put_4 (fun h4 => b_M_put_9 (by first | assumption | decide | (refine vp_in_nI ?_ ?_ <;> omega) | omega | simp_all) (fun h9 => b_M_put_24 (by first | assumption | decide | (refine vp_in_nI ?_ ?_ <;> omega) | omega | simp_all) ?_) (fun h9 => absurd h9 (by first | decide | assumption | omega | simp_all))) (fun h4 => absurd h4 (by first | decide | assumption | omega | simp_all))
      rw [cm, e1, h1]
      refine c_M_in ?_
      have h1' := h1
      rw [h1] at hQ
      by_cases hi : i < 0 ∨ nI n ≤ i
      · rw [if_pos hi] at hQ
        rw [decide_eq_false ((nin_iff (by omega)).mp hi)]
        refine b_M_put_39 (fun h39 => absurd h39 (by first | decide | assumption | omega | simp_all)) (fun h39 => b_M_put_42 ?_)
        refine c_M_found (f := 2) (by decide) ?_
        refine b_M_put_47 ?_
        exact hQ _ _ (AbM_fd hW hA (by decide)) (smC_of fun j hj => fd_o hj)
      · rw [if_neg hi] at hQ
        rw [decide_eq_true (Decidable.not_not.mp (fun q => hi ((nin_iff (by omega)).mpr q)))]
        obtain ⟨j, hj, rfl⟩ := nin_ex (by omega) hi
        have cj : (nI j).toNatClampNeg = j := nI_clamp (by omega)
        have v1 : vp_in (60 * nI m + nI j) 240 := by rw [ix60]; exact vp_in_nI (by omega) (by omega)
        refine b_M_put_39 (fun h39 => b_M_put_48 (by first | assumption | decide | (refine vp_in_nI ?_ ?_ <;> omega) | omega | simp_all) (by first | assumption | decide | (refine vp_in_nI ?_ ?_ <;> omega) | omega | simp_all) (fun w48 hw48 => b_M_put_74 ?_)) (fun h39 => absurd h39 (by first | decide | assumption | omega | simp_all))
        rw [ix60, nI_clamp (by omega)] at hw48
        rw [ix60, nI_clamp (by omega), hw48, e2 j (by omega)]
        rw [cj, ← h1'] at hQ
        refine hQ _ _ (AbM_txt hW hA ?_ (fun k hk => ?_) (fun q hq hqr k hk => ?_) (fun j a b => up2_n a)) (smC_of fun q hq => up2_n (by omega))
        · rw [up2_n (by decide), show aTs A m = vi 101 m from e1.symm, vau_id]
        · rw [up2_s]
          by_cases hkj : k = j
          · subst hkj; rw [vau_s, vau_s]
          · rw [vau_n (by omega), vau_n hkj]; exact e2 k hk
        · rw [up2_s, vau_n (by omega)]
  · rw [inB_f hr] at hQ ⊢
    rw [if_neg (fun q => by cases q)] at hQ
    refine b_M_put_4 (fun h4 => absurd h4 (by first | decide | assumption | omega | simp_all)) (fun h4 => b_M_put_7 ?_)
    exact hQ _ _ hA smC_rf
end S52
