/-! the reference: end, stitches, undo, keep, on -/
section S60
variable {X : aX} {d : Nat} {vi : Nat → Nat → Int32} {vl : Nat → Nat → Int64} {post : aO} {A : aA} {c : Cl} {f g : Nat → Int32}
theorem MF_stc {y ch : Nat} (hw : wfC c) (h : MF c 0 g) (hy : y < cN c) (h2 : f (2 + y) = chW (cW c y) ch) (h7 : f (7 + y) = chS (cS c y) ch) (hc : ∀ k, k < 36 → k ≠ 2 + y → k ≠ 7 + y → f k = g k) (hs : ∀ k, k < 36 → f (36 * (cT c + 1) + k) = g k) (ho : ∀ k, 36 ≤ k → k < 36 * (cT c + 1) → f k = g k) : MF (stc c y ch) 0 f := by
  have hn := hw.1
  have hl := hw.2.1
  obtain ⟨a1, a2, a3, a4⟩ := h.1
  refine ⟨⟨by rw [hc 0 (by omega) (by omega) (by omega)]; exact a1, by rw [show 0 + 1 = 1 from rfl, hc 1 (by omega) (by omega) (by omega)]; exact a2, fun z hz => ?_, fun k hk => ?_⟩, fun i hi => ?_⟩
  · have hz : z < cN c := hz
    show _ = va_up (cW c) y _ z ∧ _ = va_up (cS c) y _ z
    have b := a3 z hz
    rw [Nat.zero_add, Nat.zero_add] at b
    rw [Nat.zero_add, Nat.zero_add]
    by_cases hzy : z = y
    · subst hzy; rw [vau_s, vau_s]; exact ⟨h2, h7⟩
    · rw [vau_n hzy, vau_n hzy, hc _ (by omega) (by omega) (by omega), hc _ (by omega) (by omega) (by omega)]; exact b
  · have hk : k < cL c := hk
    have b := a4 k hk
    rw [Nat.zero_add, Nat.zero_add, Nat.zero_add] at b
    rw [Nat.zero_add, Nat.zero_add, Nat.zero_add, hc _ (by omega) (by omega) (by omega), hc _ (by omega) (by omega) (by omega), hc _ (by omega) (by omega) (by omega)]; exact b
  · have hi : i < cT c + 1 := hi
    rw [Nat.zero_add]
    by_cases hit : i = cT c
    · subst hit
      have e : MV (unC (stc c y ch) (cT c)) (36 * (cT c + 1)) f ↔ MV c (36 * (cT c + 1)) f := by
        show MV (cN c, cL c, cT c, va_up (cHW c) (cT c) (cW c) (cT c), va_up (cHS c) (cT c) (cS c) (cT c), cK c, cC c, cEn c, _, _) _ _ ↔ _
        rw [vau_s, vau_s]; exact Iff.rfl
      rw [e]
      exact MV_cp hw.v h.1 (fun k hk => by rw [Nat.zero_add]; exact hs k hk)
    · have e : MV (unC (stc c y ch) i) (36 * (i + 1)) f ↔ MV (unC c i) (36 * (i + 1)) f := by
        show MV (cN c, cL c, i, va_up (cHW c) (cT c) (cW c) i, va_up (cHS c) (cT c) (cS c) i, cK c, cC c, cEn c, _, _) _ _ ↔ _
        rw [vau_n hit, vau_n hit]; exact Iff.rfl
      rw [e]
      have b := h.2 i (by omega)
      rw [Nat.zero_add] at b
      exact MV_fr (unC_v hw.v) b (fun k h1 h2 => ho k (by omega) (by omega))
theorem c_M_minds {T : Nat} (hT : T < 40) (h1 : vi 95 1 = nI T) (hQ : post none (mk (up2 (up1 vi 96 (va_cpy (vi 96) (vi 96) 0 (36 * (T + 1)) 36)) 95 1 (nI (T + 1))) vl)) : CallOk X (d + 2) 0 0 k_M_minds [.ref 95] (mk vi vl) post := by
  refine CallOk.intro (by decide +kernel) rfl (Nat.le_of_ble_eq_true rfl) ?_
  refine b_M_minds_0 ?_
  rw [h1, nI_1, show (36 : Int32) = nI 36 from rfl, nI_mul]
  refine c_M_copyAll (a := 0) (by omega) (by omega) (Or.inl (by omega)) ?_
  refine b_M_minds_16 (fun w16 hw16 => b_M_minds_26 ?_)
  rw [up1_n (by decide), h1, nI_1] at hw16
  rw [hw16]
  exact hQ
theorem c_M_sews {y : Nat} {s : Int32} (hy : y < 5) (hQ : post none (mk (up2 (up2 vi 96 (2 + y) 1) 96 (7 + y) s) vl)) : CallOk X (d + 1) 0 0 k_M_sews [.ref 95, .int (nI y), .int s] (mk vi vl) post := by
  refine CallOk.intro (by decide +kernel) rfl (Nat.le_of_ble_eq_true rfl) ?_
  have i2 : (2 + nI y).toNatClampNeg = 2 + y := by rw [ix2]; exact nI_clamp (by omega)
  have i7 : (7 + nI y).toNatClampNeg = 7 + y := by rw [ix7]; exact nI_clamp (by omega)
  have v2 : vp_in (2 + nI y) 5976 := by rw [ix2]; exact vp_in_nI (by omega) (by omega)
  have v7 : vp_in (7 + nI y) 5976 := by rw [ix7]; exact vp_in_nI (by omega) (by omega)
  refine b_M_sews_0 (by first | assumption | decide | (refine vp_in_nI ?_ ?_ <;> omega) | omega | simp_all) (fun w0 hw0 => b_M_sews_9 (by first | assumption | decide | (refine vp_in_nI ?_ ?_ <;> omega) | omega | simp_all) (fun w9 hw9 => b_M_sews_19 ?_))
  rw [hw9, hw0, i2, i7]
  exact hQ
/-- a STITCH of the reference's: minds, then the change -/
theorem AbM_stc {w : Nat → Nat → Int32} {y ch : Nat} (hW : wfA A) (hA : AbM A vi vl) (hy : y < cN (aCu A)) (hT : cT (aCu A) < 40) (h96 : w 96 = va_up (va_up (va_cpy (vi 96) (vi 96) 0 (36 * (cT (aCu A) + 1)) 36) (2 + y) (chW (cW (aCu A) y) ch)) (7 + y) (chS (cS (aCu A) y) ch)) (h51 : w 95 1 = nI (cT (aCu A) + 1)) (h5 : ∀ k, k ≠ 1 → w 95 k = vi 95 k) (ho : ∀ j, j ≠ 95 → j ≠ 96 → w j = vi j) : AbM (tCu A (stc (aCu A) y ch)) w vl := by
  have hn := hW.N5
  refine AbM_cu hW hA ?_ h51 (fun j hj => ho j (by omega) (by omega)) (fun k a _ _ => h5 k a) (fun k h1 h2 => ?_)
  · refine MF_stc hW.2.2.1 hA.2.2.1.1 hy ?_ ?_ (fun k hk a b => ?_) (fun k hk => ?_) (fun k h1 h2 => ?_)
    · rw [h96, vau_n (by omega), vau_s]
    · rw [h96, vau_s]
    · rw [h96, vau_n b, vau_n a]; unfold va_cpy; rw [if_neg (by omega)]
    · rw [h96, vau_n (by omega), vau_n (by omega)]; unfold va_cpy; rw [if_pos (by omega)]; congr 1; omega
    · rw [h96, vau_n (by omega), vau_n (by omega)]; unfold va_cpy; rw [if_neg (by omega)]
  · rw [h96, vau_n (by omega), vau_n (by omega)]; unfold va_cpy; rw [if_neg (by omega)]
theorem AbM_brk {w : Nat → Nat → Int32} (hW : wfA A) (hA : AbM A vi vl) (ho : ∀ j, j ≠ 104 → j ≠ 105 → w j = vi j) : AbM A w vl := AbM_sc hW hA (sc_45 ho) rfl rfl
theorem chW_l {w : Int32} {ch : Nat} (h : ch < 5) : chW w ch = 1 := by unfold chW; rw [if_neg (by omega), if_neg (by omega)]
theorem chS_l {w : Int32} {ch : Nat} (h : ch < 5) : chS w ch = nI ch := by unfold chS; rw [if_neg (by omega), if_neg (by omega)]
theorem stc_W {y ch : Nat} (hW : wfA A) (hy : y < cN (aCu A)) (hT : cT (aCu A) < 40) (hc : (cW (aCu A) y = 1 ∧ ch = 5) ∨ (¬ cW (aCu A) y = 1 ∧ ch < 5)) : wfA (tCu A (stc (aCu A) y ch)) :=
  ⟨hW.1, hW.2.1, stc_wf hW.2.2.1 hT hc hy, hW.2.2.2.1, fun (h : cN (aCu A) = 0) => absurd hy (by omega)⟩
theorem m_sew {y s : Int32} (hW : wfA A) (hA : AbM A vi vl) (hQ : PM vi vl post (oSew A y s)) : CallOk X (d + 5) 0 0 k_M_sew [.ref 95, .int y, .int s] (mk vi vl) post := by
  refine CallOk.intro (by decide +kernel) rfl (Nat.le_of_ble_eq_true rfl) ?_
  unfold oSew at hQ
  have h5' := hW.N5
  have h40 : cT (aCu A) ≤ 40 := hW.2.2.1.2.2.1
  have h1 : vi 95 1 = nI (cT (aCu A)) := hA.2.2.1.2
  refine b_M_sew_0 ?_
  refine c_M_isYear hA.V h5' ?_
  by_cases hy : vp_in y (cN (aCu A))
  · rw [inB_t hy] at hQ ⊢
    obtain ⟨j, hj, rfl⟩ := vp_in_of hy (by omega)
    have cj : (nI j).toNatClampNeg = j := nI_clamp (by omega)
    refine b_M_sew_5 (fun h5 => absurd h5 (by first | decide | assumption | omega | simp_all)) (fun h5 => b_M_sew_8 ?_)
    refine c_M_isTold ?_
    by_cases hs : vp_in s 5
    · rw [inB_t hs] at hQ ⊢
      rw [if_pos ⟨rfl, rfl⟩, cj] at hQ
      obtain ⟨t, ht, rfl⟩ := vp_in_of hs (by omega)
      rw [nI_clamp (show t < 2 ^ 31 by omega)] at hQ
      have i2 : (2 + nI j).toNatClampNeg = 2 + j := by rw [ix2]; exact nI_clamp (by omega)
      have v2 : vp_in (2 + nI j) 5976 := by rw [ix2]; exact vp_in_nI (by omega) (by omega)
      have e2 : vi 96 (2 + nI j).toNatClampNeg = cW (aCu A) j := by rw [i2]; exact (hA.V.y hj).1
      by_cases hw1 : cW (aCu A) j = 1
      · have g : ¬ ¬ vi 96 (2 + nI j).toNatClampNeg = 1 := fun q => q (by rw [e2]; exact hw1)
        rw [if_pos hw1] at hQ
        refine b_M_sew_12 (fun h12 => b_M_sew_17 (by first | assumption | decide | (refine vp_in_nI ?_ ?_ <;> omega) | omega | simp_all) (fun h17 => absurd h17 (by first | decide | assumption | omega | simp_all)) (fun h17 => b_M_sew_29 ?_)) (fun h12 => absurd h12 (by first | decide | assumption | omega | simp_all))
        exact hQ _ _ hA smC_rf
      · have g : ¬ vi 96 (2 + nI j).toNatClampNeg = 1 := by rw [e2]; exact hw1
        rw [if_neg hw1] at hQ
        unfold oStc at hQ
        by_cases hT : cT (aCu A) < 40
        · rw [if_pos hT] at hQ
          have g2 : ¬ vi 95 1 = 40 := by rw [h1]; exact fun q => by have := (nI_eq (b := 40) (by omega) (by omega)).mp q; omega
          refine b_M_sew_12 (fun h12 => b_M_sew_17 (by first | assumption | decide | (refine vp_in_nI ?_ ?_ <;> omega) | omega | simp_all) (fun h17 => b_M_sew_32 (fun h32 => b_M_sew_44 ?_) (fun h32 => absurd h32 (by first | decide | assumption | omega | simp_all))) (fun h17 => absurd h17 (by first | decide | assumption | omega | simp_all))) (fun h12 => absurd h12 (by first | decide | assumption | omega | simp_all))
          refine c_M_minds hT h1 ?_
          refine b_M_sew_48 ?_
          refine c_M_sews (by omega) ?_
          have hA2 := AbM_stc (w := up2 (up2 (up2 (up1 vi 96 (va_cpy (vi 96) (vi 96) 0 (36 * (cT (aCu A) + 1)) 36)) 95 1 (nI (cT (aCu A) + 1))) 96 (2 + j) 1) 96 (7 + j) (nI t)) (ch := t) hW hA hj hT (by rw [up2_s, up2_s, up2_n (by decide), up1_s, chW_l ht, chS_l ht]) (by rw [up2_n (by decide), up2_n (by decide), up2_s, vau_s]) (fun k hk => by rw [up2_n (by decide), up2_n (by decide), up2_s, vau_n hk, up1_n (by decide)]) (fun j a b => by rw [up2_n b, up2_n b, up2_n a, up1_n b])
          have hW2 := stc_W (ch := t) hW hj hT (Or.inr ⟨hw1, ht⟩)
          refine b_M_sew_54 ?_
          refine c_M_brokenNow (c := stc (aCu A) j t) hW2.2.2.1.p hA2.V hA2.w (fun w ho _ => ?_)
          have := brb_256 hW2.2.2.1.v
          refine b_M_sew_58 ?_
          refine c_M_ones (brb_256 hW2.2.2.1.v) ?_
          refine b_M_sew_61 ?_
          refine hQ _ _ (AbM_brk hW2 hA2 ho) (smC_of fun q hq => ?_)
          rw [ho q (by omega) (by omega), up2_n (by omega), up2_n (by omega), up2_n (by omega), up1_n (by omega)]
        · rw [if_neg hT] at hQ
          have g2 : ¬ ¬ vi 95 1 = 40 := fun q => q (by rw [h1, show cT (aCu A) = 40 by omega]; rfl)
          refine b_M_sew_12 (fun h12 => b_M_sew_17 (by first | assumption | decide | (refine vp_in_nI ?_ ?_ <;> omega) | omega | simp_all) (fun h17 => b_M_sew_32 (fun h32 => absurd h32 (by first | decide | assumption | omega | simp_all)) (fun h32 => b_M_sew_41 ?_)) (fun h17 => absurd h17 (by first | decide | assumption | omega | simp_all))) (fun h12 => absurd h12 (by first | decide | assumption | omega | simp_all))
          exact hQ _ _ hA smC_rf
    · rw [inB_f hs] at hQ ⊢
      rw [if_neg (fun q => by cases q.2)] at hQ
      refine b_M_sew_12 (fun h12 => absurd h12 (by first | decide | assumption | omega | simp_all)) (fun h12 => b_M_sew_15 ?_)
      exact hQ _ _ hA smC_rf
  · rw [inB_f hy] at hQ ⊢
    rw [if_neg (fun q => by cases q.1)] at hQ
    refine b_M_sew_5 (fun h5 => b_M_sew_15 ?_) (fun h5 => absurd h5 (by first | decide | assumption | omega | simp_all))
    exact hQ _ _ hA smC_rf
theorem m_unpick {y : Int32} (hW : wfA A) (hA : AbM A vi vl) (hQ : PM vi vl post (oUnpick A y)) : CallOk X (d + 5) 0 0 k_M_unpick [.ref 95, .int y] (mk vi vl) post := by
  refine CallOk.intro (by decide +kernel) rfl (Nat.le_of_ble_eq_true rfl) ?_
  unfold oUnpick at hQ
  have h5' := hW.N5
  have h40 : cT (aCu A) ≤ 40 := hW.2.2.1.2.2.1
  have h1 : vi 95 1 = nI (cT (aCu A)) := hA.2.2.1.2
  refine b_M_unpick_0 ?_
  refine c_M_isYear hA.V h5' ?_
  by_cases hy : vp_in y (cN (aCu A))
  · rw [inB_t hy] at hQ ⊢
    rw [if_pos rfl] at hQ
    obtain ⟨j, hj, rfl⟩ := vp_in_of hy (by omega)
    have cj : (nI j).toNatClampNeg = j := nI_clamp (by omega)
    rw [cj] at hQ
    have i2 : (2 + nI j).toNatClampNeg = 2 + j := by rw [ix2]; exact nI_clamp (by omega)
    have v2 : vp_in (2 + nI j) 5976 := by rw [ix2]; exact vp_in_nI (by omega) (by omega)
    have e2 : vi 96 (2 + nI j).toNatClampNeg = cW (aCu A) j := by rw [i2]; exact (hA.V.y hj).1
    have e7 : vi 96 (7 + j) = cS (aCu A) j := (hA.V.y hj).2
    by_cases hw1 : cW (aCu A) j = 1
    · have g : ¬ ¬ vi 96 (2 + nI j).toNatClampNeg = 1 := fun q => q (by rw [e2]; exact hw1)
      rw [if_pos hw1] at hQ
      unfold oStc at hQ
      by_cases hT : cT (aCu A) < 40
      · rw [if_pos hT] at hQ
        have g2 : ¬ vi 95 1 = 40 := by rw [h1]; exact fun q => by have := (nI_eq (b := 40) (by omega) (by omega)).mp q; omega
        refine b_M_unpick_5 (fun h5 => b_M_unpick_10 (by first | assumption | decide | (refine vp_in_nI ?_ ?_ <;> omega) | omega | simp_all) (fun h10 => b_M_unpick_25 (fun h25 => b_M_unpick_37 ?_) (fun h25 => absurd h25 (by first | decide | assumption | omega | simp_all))) (fun h10 => absurd h10 (by first | decide | assumption | omega | simp_all))) (fun h5 => absurd h5 (by first | decide | assumption | omega | simp_all))
        refine c_M_minds hT h1 ?_
        refine b_M_unpick_41 (by first | assumption | decide | (refine vp_in_nI ?_ ?_ <;> omega) | omega | simp_all) (fun w41 hw41 => b_M_unpick_50 ?_)
        rw [i2] at hw41
        have hA2 := AbM_stc (w := w41) (ch := 5) hW hA hj hT (by
          rw [hw41, up2_s, up2_n (by decide), up1_s]
          have : chS (cS (aCu A) j) 5 = va_up (va_cpy (vi 96) (vi 96) 0 (36 * (cT (aCu A) + 1)) 36) (2 + j) (chW (cW (aCu A) j) 5) (7 + j) := by
            rw [vau_n (by omega)]; unfold va_cpy; rw [if_neg (by omega), e7]; rfl
          rw [this, vau_id]; rfl) (by rw [hw41, up2_n (by decide), up2_s, vau_s]) (fun k hk => by rw [hw41, up2_n (by decide), up2_s, vau_n hk, up1_n (by decide)]) (fun j a b => by rw [hw41, up2_n b, up2_n a, up1_n b])
        have hW2 := stc_W (ch := 5) hW hj hT (Or.inl ⟨hw1, rfl⟩)
        refine c_M_brokenNow (c := stc (aCu A) j 5) hW2.2.2.1.p hA2.V hA2.w (fun w ho _ => ?_)
        have := brb_256 hW2.2.2.1.v
        refine b_M_unpick_54 ?_
        refine c_M_ones (brb_256 hW2.2.2.1.v) ?_
        refine b_M_unpick_57 ?_
        refine hQ _ _ (AbM_brk hW2 hA2 ho) (smC_of fun q hq => ?_)
        rw [ho q (by omega) (by omega), hw41, up2_n (by omega), up2_n (by omega), up1_n (by omega)]
      · rw [if_neg hT] at hQ
        have g2 : ¬ ¬ vi 95 1 = 40 := fun q => q (by rw [h1, show cT (aCu A) = 40 by omega]; rfl)
        refine b_M_unpick_5 (fun h5 => b_M_unpick_10 (by first | assumption | decide | (refine vp_in_nI ?_ ?_ <;> omega) | omega | simp_all) (fun h10 => b_M_unpick_25 (fun h25 => absurd h25 (by first | decide | assumption | omega | simp_all)) (fun h25 => b_M_unpick_34 ?_)) (fun h10 => absurd h10 (by first | decide | assumption | omega | simp_all))) (fun h5 => absurd h5 (by first | decide | assumption | omega | simp_all))
        exact hQ _ _ hA smC_rf
    · have g : ¬ vi 96 (2 + nI j).toNatClampNeg = 1 := by rw [e2]; exact hw1
      rw [if_neg hw1] at hQ
      refine b_M_unpick_5 (fun h5 => b_M_unpick_10 (by first | assumption | decide | (refine vp_in_nI ?_ ?_ <;> omega) | omega | simp_all) (fun h10 => absurd h10 (by first | decide | assumption | omega | simp_all)) (fun h10 => b_M_unpick_22 ?_)) (fun h5 => absurd h5 (by first | decide | assumption | omega | simp_all))
      exact hQ _ _ hA smC_rf
  · rw [inB_f hy] at hQ ⊢
    rw [if_neg (fun q => by cases q)] at hQ
    refine b_M_unpick_5 (fun h5 => absurd h5 (by first | decide | assumption | omega | simp_all)) (fun h5 => b_M_unpick_8 ?_)
    exact hQ _ _ hA smC_rf
end S60
