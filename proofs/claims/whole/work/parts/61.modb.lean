section S61
variable {X : aX} {d : Nat} {vi : Nat → Nat → Int32} {vl : Nat → Nat → Int64} {post : aO} {A : aA} {c : Cl} {f g : Nat → Int32}
theorem m_end {k s : Int32} (hW : wfA A) (hA : AbM A vi vl) (hQ : PM vi vl post (oEnd A k s)) : CallOk X (d + 3) 0 0 k_M_end [.ref 95, .int k, .int s] (mk vi vl) post := by
  refine CallOk.intro (by decide +kernel) rfl (Nat.le_of_ble_eq_true rfl) ?_
  unfold oEnd at hQ
  have h8' := hW.L8
  have h5' := hW.N5
  have h40 : cT (aCu A) ≤ 40 := hW.2.2.1.2.2.1
  have h1 : vi 95 1 = nI (cT (aCu A)) := hA.2.2.1.2
  refine b_M_end_0 ?_
  refine c_M_isLaw hA.V h8' ?_
  by_cases hy : vp_in k (cL (aCu A))
  · rw [inB_t hy] at hQ ⊢
    obtain ⟨j, hj, rfl⟩ := vp_in_of hy (by omega)
    have cj : (nI j).toNatClampNeg = j := nI_clamp (by omega)
    refine b_M_end_5 (fun h5 => absurd h5 (by first | decide | assumption | omega | simp_all)) (fun h5 => b_M_end_8 ?_)
    refine c_M_isTold ?_
    by_cases hs : vp_in s 5
    · rw [inB_t hs] at hQ ⊢
      rw [if_pos ⟨rfl, rfl⟩, cj] at hQ
      by_cases h0 : 0 < cT (aCu A)
      · have g : ¬ vi 95 1 ≤ 0 := by rw [h1]; exact nI_nle h0 (by omega)
        rw [if_pos h0] at hQ
        refine b_M_end_12 (fun h12 => b_M_end_17 (fun h17 => absurd h17 (by first | decide | assumption | omega | simp_all)) (fun h17 => b_M_end_24 ?_)) (fun h12 => absurd h12 (by first | decide | assumption | omega | simp_all))
        exact hQ _ _ hA smC_rf
      · have h0' : cT (aCu A) = 0 := by omega
        have g : ¬ ¬ vi 95 1 ≤ 0 := fun q => q (by rw [h1, h0']; exact Int32.le_refl _)
        rw [if_neg h0] at hQ
        have i28 : (28 + nI j).toNatClampNeg = 28 + j := by rw [ix28]; exact nI_clamp (by omega)
        have v28 : vp_in (28 + nI j) 5976 := by rw [ix28]; exact vp_in_nI (by omega) (by omega)
        refine b_M_end_12 (fun h12 => b_M_end_17 (fun h17 => b_M_end_27 (by first | assumption | decide | (refine vp_in_nI ?_ ?_ <;> omega) | omega | simp_all) (by first | assumption | decide | (refine vp_in_nI ?_ ?_ <;> omega) | omega | simp_all) (fun w27 hw27 => b_M_end_47 ?_)) (fun h17 => absurd h17 (by first | decide | assumption | omega | simp_all))) (fun h12 => absurd h12 (by first | decide | assumption | omega | simp_all))
        rw [i28] at hw27
        rw [i28, (hA.V.l hj).2.2, hw27]
        obtain ⟨a1, a2, a3, a4⟩ := hA.V
        refine hQ _ _ (AbM_cu hW hA ⟨⟨?_, ?_, fun y hy => ?_, fun q hq => ?_⟩, fun i hi => ?_⟩ ?_ (fun q hq => up2_n (by omega)) (fun q _ _ _ => by rw [up2_n (by decide)]) (fun q h1 h2 => by rw [up2_s, vau_n (by omega)])) (smC_of fun q hq => up2_n (by omega))
        · rw [up2_s, vau_n (by omega)]; exact a1
        · rw [up2_s, vau_n (by omega)]; exact a2
        · have hy : y < cN (aCu A) := hy
          rw [up2_s, vau_n (by omega), vau_n (by omega)]; exact a3 y hy
        · have hq : q < cL (aCu A) := hq
          rw [up2_s, vau_n (by omega), vau_n (by omega)]
          show _ ∧ _ ∧ _ = va_up (cEn (aCu A)) j s q
          by_cases hqj : q = j
          · subst hqj; rw [Nat.zero_add, vau_s, vau_s, ← Nat.zero_add 12, ← Nat.zero_add 20]; exact ⟨(a4 q hq).1, (a4 q hq).2.1, rfl⟩
          · rw [vau_n (by omega), vau_n hqj]; exact a4 q hq
        · have hi : i < cT (aCu A) := hi
          omega
        · rw [up2_n (by decide)]; exact h1
    · rw [inB_f hs] at hQ ⊢
      rw [if_neg (fun q => by cases q.2)] at hQ
      refine b_M_end_12 (fun h12 => absurd h12 (by first | decide | assumption | omega | simp_all)) (fun h12 => b_M_end_15 ?_)
      exact hQ _ _ hA smC_rf
  · rw [inB_f hy] at hQ ⊢
    rw [if_neg (fun q => by cases q.1)] at hQ
    refine b_M_end_5 (fun h5 => b_M_end_15 ?_) (fun h5 => absurd h5 (by first | decide | assumption | omega | simp_all))
    exact hQ _ _ hA smC_rf
theorem m_undo {m : Int32} (hW : wfA A) (hA : AbM A vi vl) (hQ : PM vi vl post (oUndo A m)) : CallOk X (d + 3) 0 0 k_M_undo [.ref 95, .int m] (mk vi vl) post := by
  refine CallOk.intro (by decide +kernel) rfl (Nat.le_of_ble_eq_true rfl) ?_
  unfold oUndo at hQ
  have h40 : cT (aCu A) ≤ 40 := hW.2.2.1.2.2.1
  have h1 : vi 95 1 = nI (cT (aCu A)) := hA.2.2.1.2
  refine b_M_undo_0 ?_
  refine c_M_in ?_
  rw [h1, nI_l (by omega), inK (by omega)]
  by_cases hm : vp_in m (cT (aCu A) + 1)
  · rw [inB_t hm] at hQ ⊢
    rw [if_pos rfl] at hQ
    obtain ⟨j, hj, rfl⟩ := vp_in_of hm (by omega)
    have cj : (nI j).toNatClampNeg = j := nI_clamp (by omega)
    rw [cj] at hQ
    have es : vi 95 1 - nI j = nI (cT (aCu A) - j) := by rw [h1, nI_sub (by omega)]
    by_cases hl : j < cT (aCu A)
    · have g : ¬ vi 95 1 - nI j ≤ 0 := by rw [es]; exact nI_nle (by omega) (by omega)
      rw [if_pos hl] at hQ
      refine b_M_undo_11 (fun h11 => b_M_undo_16 (fun h16 => absurd h16 (by first | decide | assumption | omega | simp_all)) (fun h16 => b_M_undo_27 ?_)) (fun h11 => absurd h11 (by first | decide | assumption | omega | simp_all))
      rw [nI_1, show (36 : Int32) = nI 36 from rfl, nI_mul]
      refine c_M_copyAll (b := 0) (by omega) (by omega) (Or.inr (by omega)) ?_
      refine b_M_undo_40 (fun w40 hw40 => b_M_undo_45 ?_)
      rw [es, hw40]
      have hMF := hA.2.2.1.1
      have ec : ∀ k, k < 36 → va_cpy (vi 96) (vi 96) (36 * (j + 1)) 0 36 k = vi 96 (36 * (j + 1) + k) := fun k hk => by unfold va_cpy; rw [if_pos (by omega)]; congr 1
      have eo : ∀ k, 36 ≤ k → va_cpy (vi 96) (vi 96) (36 * (j + 1)) 0 36 k = vi 96 k := fun k hk => by unfold va_cpy; rw [if_neg (by omega)]
      refine hQ _ _ (AbM_cu hW hA ⟨?_, fun i hi => ?_⟩ ?_ (fun q hq => by rw [up2_n (by omega), up1_n (by omega)]) (fun q a _ _ => by rw [up2_s, vau_n a, up1_n (by decide)]) (fun q h1 h2 => by rw [up2_n (by decide), up1_s, eo q (by omega)])) (smC_of fun q hq => by rw [up2_n (by omega), up1_n (by omega)])
      · rw [up2_n (by decide), up1_s]
        have b := hMF.2 j hl
        rw [Nat.zero_add] at b
        exact MV_cp (unC_v hW.2.2.1.v) b (fun k hk => by rw [Nat.zero_add]; exact ec k hk)
      · have hi : i < j := hi
        rw [up2_n (by decide), up1_s]
        exact MV_fr (unC_v hW.2.2.1.v) (hMF.2 i (by omega)) (fun k h1 h2 => eo k (by omega))
      · rw [up2_s, vau_s]; rfl
    · have g : ¬ ¬ vi 95 1 - nI j ≤ 0 := fun q => q (by rw [es, show cT (aCu A) - j = 0 by omega]; exact Int32.le_refl _)
      rw [if_neg hl] at hQ
      refine b_M_undo_11 (fun h11 => b_M_undo_16 (fun h16 => b_M_undo_45 ?_) (fun h16 => absurd h16 (by first | decide | assumption | omega | simp_all))) (fun h11 => absurd h11 (by first | decide | assumption | omega | simp_all))
      rw [es]
      exact hQ _ _ hA smC_rf
  · rw [inB_f hm] at hQ ⊢
    rw [if_neg (fun q => by cases q)] at hQ
    refine b_M_undo_11 (fun h11 => absurd h11 (by first | decide | assumption | omega | simp_all)) (fun h11 => b_M_undo_14 ?_)
    exact hQ _ _ hA smC_rf
theorem ix1476 (k : Nat) : (1476 : Int32) * (nI k + 1) = nI (1476 * (k + 1)) := by rw [nI_1, show (1476 : Int32) = nI 1476 from rfl, nI_mul]
theorem m_keep {k : Int32} (hW : wfA A) (hA : AbM A vi vl) (hQ : PM vi vl post (oKeep A k)) : CallOk X (d + 2) 0 0 k_M_keep [.ref 95, .int k] (mk vi vl) post := by
  refine CallOk.intro (by decide +kernel) rfl (Nat.le_of_ble_eq_true rfl) ?_
  unfold oKeep at hQ
  have h5' := hW.N5
  have h1 : vi 95 1 = nI (cT (aCu A)) := hA.2.2.1.2
  have hn : vi 96 0 = nI (cN (aCu A)) := hA.V.1
  refine b_M_keep_0 ?_
  refine c_M_in ?_
  rw [show (2 : Int64) = lN 2 from rfl, inK (by omega)]
  by_cases hk : vp_in k 3
  · rw [inB_t hk] at hQ ⊢
    rw [if_pos rfl] at hQ
    obtain ⟨j, hj, rfl⟩ := vp_in_of hk (by decide)
    have cj : (nI j).toNatClampNeg = j := nI_clamp (by omega)
    have vj : vp_in (nI j) 3 := vp_in_nI hj (by omega)
    rw [cj] at hQ
    have q0 : (nI (cN (aCu A)) = 0) ↔ cN (aCu A) = 0 := nI_eq (b := 0) (by omega) (by omega)
    by_cases h0 : cN (aCu A) = 0
    · have g : ¬ ¬ vi 96 0 = 0 := fun q => q (by rw [hn]; exact q0.mpr h0)
      rw [if_pos h0] at hQ
      refine b_M_keep_9 (fun h9 => b_M_keep_14 (fun h14 => absurd h14 (by first | decide | assumption | omega | simp_all)) (fun h14 => b_M_keep_23 ?_)) (fun h9 => absurd h9 (by first | decide | assumption | omega | simp_all))
      exact hQ _ _ hA smC_rf
    · have g : ¬ vi 96 0 = 0 := by rw [hn]; exact fun q => h0 (q0.mp q)
      rw [if_neg h0] at hQ
      refine b_M_keep_9 (fun h9 => b_M_keep_14 (fun h14 => b_M_keep_26 ?_) (fun h14 => absurd h14 (by first | decide | assumption | omega | simp_all))) (fun h9 => absurd h9 (by first | decide | assumption | omega | simp_all))
      rw [ix1476]
      refine c_M_copyAll (a := 0) (n := 1476) (by omega) (by omega) (Or.inl (by omega)) ?_
      refine b_M_keep_41 (by first | assumption | decide | (refine vp_in_nI ?_ ?_ <;> omega) | omega | simp_all) (fun w41 hw41 => b_M_keep_51 ?_)
      rw [cj, up1_n (by decide), h1] at hw41
      have e5 : w41 95 = vi 95 := by rw [hw41, up2_n (by decide), up1_n (by decide)]
      rw [e5, h1]
      have ec : ∀ k, k < 1476 → va_cpy (vi 96) (vi 96) 0 (1476 * (j + 1)) 1476 (1476 * (j + 1) + k) = vi 96 k := fun k hk => by unfold va_cpy; rw [if_pos (by omega)]; exact congrArg (vi 96) (by omega)
      have eo : ∀ k, (k < 1476 * (j + 1) ∨ 1476 * (j + 1) + 1476 ≤ k) → va_cpy (vi 96) (vi 96) 0 (1476 * (j + 1)) 1476 k = vi 96 k := fun k hk => by unfold va_cpy; rw [if_neg (by omega)]
      have e96 : w41 96 = va_cpy (vi 96) (vi 96) 0 (1476 * (j + 1)) 1476 := by rw [hw41, up2_n (by decide), up1_s]
      have oo : ∀ q, q ≠ 96 → q ≠ 97 → w41 q = vi q := fun q a b => by rw [hw41, up2_n b, up1_n a]
      obtain ⟨a1, a2, a3, a4, a5, a6, a7⟩ := hA
      refine hQ _ _ ⟨fun r hr => ?_, fun t ht => ?_, ⟨?_, ?_⟩, fun q hq => ?_, ⟨?_, fun g hg => ?_⟩, ⟨?_, a6.2⟩, ?_⟩ (smC_of fun q hq => oo q (by omega) (by omega))
      · rw [oo 99 (by decide) (by decide), oo 98 (by decide) (by decide)]; exact a1 r hr
      · rw [oo 101 (by decide) (by decide), oo 100 (by decide) (by decide)]; exact a2 t ht
      · rw [e96]; exact MF_fr hW.2.2.1 a3.1 (fun k _ hk => eo k (by omega))
      · rw [e5]; exact a3.2
      · show match va_up (aKp A) j (some (aCu A)) q with | none => w41 97 q = -1 | some c => w41 97 q = nI (cT c) ∧ MF c (1476 * (q + 1)) (w41 96)
        have e97 : w41 97 q = va_up (vi 97) j (nI (cT (aCu A))) q := by rw [hw41, up2_s, up1_n (by decide)]
        rw [e97]
        by_cases hqj : q = j
        · subst hqj; rw [vau_s, vau_s]
          refine ⟨rfl, ?_⟩
          rw [e96]; exact MF_cp hW.2.2.1 a3.1 (fun k hk => by rw [Nat.zero_add]; exact ec k hk)
        · rw [vau_n hqj, vau_n hqj]
          have b := a4 q hq
          cases he : aKp A q with
          | none => rw [he] at b; exact b
          | some c =>
            rw [he] at b
            refine ⟨b.1, ?_⟩
            rw [e96]; exact MF_fr (hW.2.2.2.1 q c hq he).1 b.2 (fun k h1 h2 => eo k (by omega))
      · rw [e5]; exact a5.1
      · rw [oo 103 (by decide) (by decide)]; exact a5.2 g hg
      · rw [e5]; exact a6.1
      · rw [e5]; exact a7
  · rw [inB_f hk] at hQ ⊢
    rw [if_neg (fun q => by cases q)] at hQ
    refine b_M_keep_9 (fun h9 => absurd h9 (by first | decide | assumption | omega | simp_all)) (fun h9 => b_M_keep_12 ?_)
    exact hQ _ _ hA smC_rf
theorem m_on {k : Int32} (hW : wfA A) (hA : AbM A vi vl) (hQ : PM vi vl post (oOn A k)) : CallOk X (d + 2) 0 0 k_M_on [.ref 95, .int k] (mk vi vl) post := by
  refine CallOk.intro (by decide +kernel) rfl (Nat.le_of_ble_eq_true rfl) ?_
  unfold oOn at hQ
  refine b_M_on_0 ?_
  refine c_M_in ?_
  rw [show (2 : Int64) = lN 2 from rfl, inK (by omega)]
  by_cases hk : vp_in k 3
  · rw [inB_t hk] at hQ ⊢
    rw [if_pos rfl] at hQ
    obtain ⟨j, hj, rfl⟩ := vp_in_of hk (by decide)
    have cj : (nI j).toNatClampNeg = j := nI_clamp (by omega)
    have vj : vp_in (nI j) 3 := vp_in_nI hj (by omega)
    rw [cj] at hQ
    have hkp := hA.2.2.2.1 j hj
    cases he : aKp A j with
    | none =>
      rw [he] at hkp hQ
      have hkp : vi 97 j = -1 := hkp
      have g : ¬ 0 ≤ vi 97 (nI j).toNatClampNeg := by rw [cj, hkp]; decide
      refine b_M_on_9 (fun h9 => b_M_on_14 (by first | assumption | decide | (refine vp_in_nI ?_ ?_ <;> omega) | omega | simp_all) (fun h14 => absurd h14 (by first | decide | assumption | omega | simp_all)) (fun h14 => b_M_on_23 ?_)) (fun h9 => absurd h9 (by first | decide | assumption | omega | simp_all))
      refine c_M_found (f := 1) (by decide) ?_
      refine b_M_on_28 ?_
      exact hQ _ _ (AbM_fd hW hA (by decide)) (smC_of fun j hj => fd_o hj)
    | some c =>
      rw [he] at hkp hQ
      obtain ⟨hwc, hc0⟩ := hW.2.2.2.1 j c hj he
      obtain ⟨e97, hMF⟩ := hkp
      have ht := hwc.2.2.1
      have g : ¬ ¬ 0 ≤ vi 97 (nI j).toNatClampNeg := fun q => q (by rw [cj, e97]; exact nI_pos' (by omega))
      refine b_M_on_9 (fun h9 => b_M_on_14 (by first | assumption | decide | (refine vp_in_nI ?_ ?_ <;> omega) | omega | simp_all) (fun h14 => b_M_on_29 ?_) (fun h14 => absurd h14 (by first | decide | assumption | omega | simp_all))) (fun h9 => absurd h9 (by first | decide | assumption | omega | simp_all))
      rw [ix1476]
      refine c_M_copyAll (b := 0) (n := 1476) (by omega) (by omega) (Or.inr (by omega)) ?_
      refine b_M_on_44 (by first | assumption | decide | (refine vp_in_nI ?_ ?_ <;> omega) | omega | simp_all) (fun w44 hw44 => b_M_on_54 ?_)
      rw [cj, up1_n (by decide), e97] at hw44
      have e51 : w44 95 1 = nI (cT c) := by rw [hw44, up2_s, vau_s]
      rw [e51]
      have e96 : w44 96 = va_cpy (vi 96) (vi 96) (1476 * (j + 1)) 0 1476 := by rw [hw44, up2_n (by decide), up1_s]
      refine hQ _ _ (AbM_cu hW hA ?_ e51 (fun q hq => by rw [hw44, up2_n (by omega), up1_n (by omega)]) (fun q a _ _ => by rw [hw44, up2_s, vau_n a, up1_n (by decide)]) (fun q h1 h2 => ?_)) (smC_of fun q hq => by rw [hw44, up2_n (by omega), up1_n (by omega)])
      · rw [e96]
        refine MF_cp hwc hMF (fun k hk => ?_)
        rw [Nat.zero_add]; unfold va_cpy; rw [if_pos (by omega)]; congr 1
      · rw [e96]; unfold va_cpy; rw [if_neg (by omega)]
  · rw [inB_f hk] at hQ ⊢
    rw [if_neg (fun q => by cases q)] at hQ
    refine b_M_on_9 (fun h9 => absurd h9 (by first | decide | assumption | omega | simp_all)) (fun h9 => b_M_on_12 ?_)
    exact hQ _ _ hA smC_rf
end S61
