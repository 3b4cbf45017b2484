section S64
variable {X : aX} {d : Nat} {vi : Nat → Nat → Int32} {vl : Nat → Nat → Int64} {post : aO} {A : aA} {c : Cl} {f g : Nat → Int32}
/-- one cell of the CLOTH is changed for a while -/
def onc (vi w : Nat → Nat → Int32) (x : Nat) : Prop := (∀ j, j ≠ 96 → j ≠ 104 → j ≠ 105 → w j = vi j) ∧ ∀ k, k ≠ x → w 96 k = vi 96 k
theorem onc_sc {w : Nat → Nat → Int32} {x : Nat} (h : onc vi w x) (hx : w 96 x = vi 96 x) : scM vi w := ⟨fun j hj => h.1 j (by omega) (by omega) (by omega), fun k _ _ => by rw [h.1 95 (by decide) (by decide) (by decide)], fun k _ => by
  by_cases hk : k = x
  · subst hk; exact hx
  · exact h.2 k hk⟩
theorem onc_up {w : Nat → Nat → Int32} {x : Nat} {v : Int32} (h : onc vi w x) : onc vi (up2 w 96 x v) x := ⟨fun j a b c => by rw [up2_n a]; exact h.1 j a b c, fun k hk => by rw [up2_s, vau_n hk]; exact h.2 k hk⟩
theorem onc_45 {w u : Nat → Nat → Int32} {x : Nat} (h : onc vi w x) (ho : ∀ j, j ≠ 104 → j ≠ 105 → u j = w j) : onc vi u x := ⟨fun j a b c => by rw [ho j b c]; exact h.1 j a b c, fun k hk => by rw [ho 96 (by decide) (by decide)]; exact h.2 k hk⟩
theorem MV_hol {w : Nat → Nat → Int32} {y : Nat} {s : Int32} (hw : wfV c) (h : MV c 0 (vi 96)) (hy : y < cN c) (ho : onc vi w (7 + y)) (h7 : w 96 (7 + y) = s) : MV (sty c y (cW c y) s) 0 (w 96) := by
  have hn := hw.1
  have b := MV_sty (w := cW c y) (s := s) hw h hy
  refine MV_fr (sty_v hw) b (fun k _ hk => ?_)
  by_cases hk7 : k = 7 + y
  · subst hk7; rw [vau_s]; exact h7
  · rw [vau_n hk7]
    by_cases hk2 : k = 2 + y
    · subst hk2; rw [vau_s, ho.2 _ hk7]; exact (h.y hy).1
    · rw [vau_n hk2]; exact ho.2 k hk7
theorem MV_knC {w : Nat → Nat → Int32} {k : Nat} {q : Int32} (hw : wfV c) (h : MV c 0 (vi 96)) (hk : k < cL c) (ho : onc vi w (12 + k)) (h12 : w 96 (12 + k) = q) : MV (knC c k q) 0 (w 96) := by
  have hn := hw.1
  have hl := hw.2.1
  obtain ⟨a1, a2, a3, a4⟩ := h
  refine ⟨by rw [ho.2 _ (by omega)]; exact a1, by rw [ho.2 _ (by omega)]; exact a2, fun z hz => ?_, fun j hj => ?_⟩
  · have hz : z < cN c := hz
    rw [ho.2 _ (by omega), ho.2 _ (by omega)]; exact a3 z hz
  · have hj : j < cL c := hj
    rw [ho.2 (0 + 20 + j) (by omega), ho.2 (0 + 28 + j) (by omega)]
    show _ = va_up (cK c) k q j ∧ _
    by_cases hjk : j = k
    · subst hjk; rw [vau_s, Nat.zero_add]; exact ⟨h12, (a4 j hj).2⟩
    · rw [vau_n hjk, ho.2 _ (by omega)]; exact a4 j hj
theorem m_was {y r : Int32} (hW : wfA A) (hA : AbM A vi vl) (hQ : PM vi vl post (oWas A y r)) : CallOk X (d + 5) 0 0 k_M_was [.ref 95, .int y, .int r] (mk vi vl) post := by
  refine CallOk.intro (by decide +kernel) rfl (Nat.le_of_ble_eq_true rfl) ?_
  unfold oWas at hQ
  have h5' := hW.N5
  have hp := hW.2.2.1.p
  refine b_M_was_0 ?_
  refine c_M_isYear hA.V h5' ?_
  by_cases hy : vp_in y (cN (aCu A))
  · rw [inB_t hy] at hQ ⊢
    obtain ⟨j, hj, rfl⟩ := vp_in_of hy (by omega)
    have cj : (nI j).toNatClampNeg = j := nI_clamp (by omega)
    refine b_M_was_5 (fun h5 => absurd h5 (by first | decide | assumption | omega | simp_all)) (fun h5 => b_M_was_8 ?_)
    refine c_M_isRow ?_
    by_cases hr : vp_in r 6
    · rw [inB_t hr] at hQ ⊢
      rw [if_pos ⟨rfl, rfl⟩, cj] at hQ
      obtain ⟨m, hm, rfl⟩ := vp_in_of hr (by decide)
      have cm : (nI m).toNatClampNeg = m := nI_clamp (by omega)
      rw [cm] at hQ
      have i2 : (2 + nI j).toNatClampNeg = 2 + j := by rw [ix2]; exact nI_clamp (by omega)
      have v2 : vp_in (2 + nI j) 5976 := by rw [ix2]; exact vp_in_nI (by omega) (by omega)
      have i7 : (7 + nI j).toNatClampNeg = 7 + j := by rw [ix7]; exact nI_clamp (by omega)
      have v7 : vp_in (7 + nI j) 5976 := by rw [ix7]; exact vp_in_nI (by omega) (by omega)
      have e2 : vi 96 (2 + nI j).toNatClampNeg = cW (aCu A) j := by rw [i2]; exact (hA.V.y hj).1
      by_cases h2 : cW (aCu A) j = 2
      · have g : ¬ ¬ vi 96 (2 + nI j).toNatClampNeg = 2 := fun q => q (by rw [e2]; exact h2)
        rw [if_pos h2] at hQ
        refine b_M_was_12 (fun h12 => b_M_was_17 (by first | assumption | decide | (refine vp_in_nI ?_ ?_ <;> omega) | omega | simp_all) (fun h17 => b_M_was_32 ?_) (fun h17 => absurd h17 (by first | decide | assumption | omega | simp_all))) (fun h12 => absurd h12 (by first | decide | assumption | omega | simp_all))
        refine c_M_against hW hA hm (fun hz => ?_) (fun f hf h1 h5 => ?_)
        · rw [if_pos hz] at hQ
          have g0 : ¬ ¬ (0 : Int32) ≤ 0 := by decide
          refine b_M_was_37 (fun h37 => b_M_was_44 (by first | assumption | decide | (refine vp_in_nI ?_ ?_ <;> omega) | omega | simp_all) ?_) (fun h37 => absurd h37 (by first | decide | assumption | omega | simp_all))
          rw [i7]
          have key := loop_up (P := fun s => ∀ w, onc vi w (7 + j) → wp X (d + 5) k_M_was 0 0 61 [some (.ref 95), some (.int (nI j)), some (.int (nI m)), some (.int 0), some (.int (vi 96 (7 + j))), some (.int (nI (bb (fun s => hpAs (sty (aCu A) j 2 (nI s)) (aRp A m)) s))), some (.int (nI s))] [] (mk w vl) post) 5 0 (by decide) ?_ ?_
          · exact key vi ⟨fun _ _ _ _ => rfl, fun _ _ => rfl⟩
          · intro w ho
            have g1 : ¬ ¬ (5 : Int32) ≤ nI 5 := by decide
            refine b_M_was_61 (fun h61 => b_M_was_105 (by first | assumption | decide | (refine vp_in_nI ?_ ?_ <;> omega) | omega | simp_all) (fun w105 hw105 => b_M_was_116 ?_)) (fun h61 => absurd h61 (by first | decide | assumption | omega | simp_all))
            rw [i7] at hw105
            have hsc : scM vi w105 := by rw [hw105]; exact onc_sc (onc_up ho) (by rw [up2_s, vau_s])
            exact hQ _ _ (AbM_sc hW hA hsc rfl rfl) (smC_sc hsc)
          · intro s _ hs ih w ho
            have g1 : ¬ (5 : Int32) ≤ nI s := nI_ge (a := s) (b := 5) hs (by omega)
            have hbs := bb_st (p := fun s => hpAs (sty (aCu A) j 2 (nI s)) (aRp A m)) (i := s) (by omega)
            refine b_M_was_61 (fun h61 => absurd h61 (by first | decide | assumption | omega | simp_all)) (fun h61 => b_M_was_67 (by first | assumption | decide | (refine vp_in_nI ?_ ?_ <;> omega) | omega | simp_all) (fun w67 hw67 => b_M_was_78 ?_))
            rw [i7] at hw67
            have ho2 : onc vi w67 (7 + j) := by rw [hw67]; exact onc_up ho
            have hV2 := MV_hol (s := nI s) hp.1 hA.V hj ho2 (by rw [hw67, up2_s, vau_s])
            rw [h2] at hV2
            refine c_M_isSo (c := sty (aCu A) j 2 (nI s)) (f := aRp A m) (sty_p hp (Or.inr (Or.inr rfl))) hV2 (by rw [ho2.1 95 (by decide) (by decide) (by decide)]; exact hA.w) hm (fun k hk => by rw [ho2.1 98 (by decide) (by decide) (by decide)]; exact (hA.1 m hm).2 k hk) (fun w3 ho3 => ?_)
            cases hb : hpAs (sty (aCu A) j 2 (nI s)) (aRp A m)
            · rw [hb, if_neg (fun q => by cases q)] at hbs
              refine b_M_was_85 (fun h85 => b_M_was_95 (b_M_was_96 ?_)) (fun h85 => absurd h85 (by first | decide | assumption | omega | simp_all))
              rw [hbs, nI_1]
              exact ih w3 (onc_45 ho2 ho3)
            · rw [hb, if_pos rfl] at hbs
              refine b_M_was_85 (fun h85 => absurd h85 (by first | decide | assumption | omega | simp_all)) (fun h85 => b_M_was_88 (b_M_was_96 ?_))
              rw [hbs, nI_1]
              exact ih w3 (onc_45 ho2 ho3)
        · rw [if_neg (by omega), hf] at hQ
          have g0 : ¬ (0 : Int32) ≤ -3 := by decide
          refine b_M_was_37 (fun h37 => absurd h37 (by first | decide | assumption | omega | simp_all)) (fun h37 => b_M_was_42 ?_)
          exact hQ _ _ (AbM_fd hW hA (by omega)) (smC_of fun j hj => fd_o hj)
      · have g : ¬ vi 96 (2 + nI j).toNatClampNeg = 2 := by rw [e2]; exact h2
        rw [if_neg h2] at hQ
        refine b_M_was_12 (fun h12 => b_M_was_17 (by first | assumption | decide | (refine vp_in_nI ?_ ?_ <;> omega) | omega | simp_all) (fun h17 => absurd h17 (by first | decide | assumption | omega | simp_all)) (fun h17 => b_M_was_29 ?_)) (fun h12 => absurd h12 (by first | decide | assumption | omega | simp_all))
        exact hQ _ _ hA smC_rf
    · rw [inB_f hr] at hQ ⊢
      rw [if_neg (fun q => by cases q.2)] at hQ
      refine b_M_was_12 (fun h12 => absurd h12 (by first | decide | assumption | omega | simp_all)) (fun h12 => b_M_was_15 ?_)
      exact hQ _ _ hA smC_rf
  · rw [inB_f hy] at hQ ⊢
    rw [if_neg (fun q => by cases q.1)] at hQ
    refine b_M_was_5 (fun h5 => b_M_was_15 ?_) (fun h5 => absurd h5 (by first | decide | assumption | omega | simp_all))
    exact hQ _ _ hA smC_rf
theorem knC_p {k : Nat} {q : Int32} (h : wfP c) (hq : vp_in q 6) : wfP (knC c k q) := ⟨knC_v h.1 hq, h.2⟩
theorem m_kinds {y r : Int32} (hW : wfA A) (hA : AbM A vi vl) (hQ : PM vi vl post (oKinds A y r)) : CallOk X (d + 5) 0 0 k_M_kinds [.ref 95, .int y, .int r] (mk vi vl) post := by
  refine CallOk.intro (by decide +kernel) rfl (Nat.le_of_ble_eq_true rfl) ?_
  unfold oKinds at hQ
  have h5' := hW.N5
  have h8' := hW.L8
  have hp := hW.2.2.1.p
  refine b_M_kinds_0 ?_
  refine c_M_isLaw hA.V h8' ?_
  by_cases hy : vp_in y (cL (aCu A))
  · rw [inB_t hy] at hQ ⊢
    obtain ⟨j, hj, rfl⟩ := vp_in_of hy (by omega)
    have cj : (nI j).toNatClampNeg = j := nI_clamp (by omega)
    refine b_M_kinds_5 (fun h5 => absurd h5 (by first | decide | assumption | omega | simp_all)) (fun h5 => b_M_kinds_8 ?_)
    refine c_M_isRow ?_
    by_cases hr : vp_in r 6
    · rw [inB_t hr] at hQ ⊢
      rw [if_pos ⟨rfl, rfl⟩, cj] at hQ
      obtain ⟨m, hm, rfl⟩ := vp_in_of hr (by decide)
      have cm : (nI m).toNatClampNeg = m := nI_clamp (by omega)
      rw [cm] at hQ
      have i7 : (12 + nI j).toNatClampNeg = 12 + j := by rw [ix12]; exact nI_clamp (by omega)
      have v7 : vp_in (12 + nI j) 5976 := by rw [ix12]; exact vp_in_nI (by omega) (by omega)
      refine b_M_kinds_12 (fun h12 => b_M_kinds_17 ?_) (fun h12 => absurd h12 (by first | decide | assumption | omega | simp_all))
      refine c_M_against hW hA hm (fun hz => ?_) (fun f hf h1 h5 => ?_)
      · rw [if_pos hz] at hQ
        have g0 : ¬ ¬ (0 : Int32) ≤ 0 := by decide
        refine b_M_kinds_22 (fun h22 => b_M_kinds_29 (by first | assumption | decide | (refine vp_in_nI ?_ ?_ <;> omega) | omega | simp_all) ?_) (fun h22 => absurd h22 (by first | decide | assumption | omega | simp_all))
        rw [i7]
        have key := loop_up (P := fun s => ∀ w, onc vi w (12 + j) → wp X (d + 5) k_M_kinds 0 0 46 [some (.ref 95), some (.int (nI j)), some (.int (nI m)), some (.int 0), some (.int (vi 96 (12 + j))), some (.int (nI (bb (fun s => hpAs (knC (aCu A) j (nI s)) (aRp A m)) s))), some (.int (nI s))] [] (mk w vl) post) 6 0 (by decide) ?_ ?_
        · exact key vi ⟨fun _ _ _ _ => rfl, fun _ _ => rfl⟩
        · intro w ho
          have g1 : ¬ ¬ (6 : Int32) ≤ nI 6 := by decide
          refine b_M_kinds_46 (fun h46 => b_M_kinds_91 (by first | assumption | decide | (refine vp_in_nI ?_ ?_ <;> omega) | omega | simp_all) (fun w91 hw91 => b_M_kinds_102 ?_)) (fun h46 => absurd h46 (by first | decide | assumption | omega | simp_all))
          rw [i7] at hw91
          have hsc : scM vi w91 := by rw [hw91]; exact onc_sc (onc_up ho) (by rw [up2_s, vau_s])
          exact hQ _ _ (AbM_sc hW hA hsc rfl rfl) (smC_sc hsc)
        · intro s _ hs ih w ho
          have g1 : ¬ (6 : Int32) ≤ nI s := nI_ge (a := s) (b := 6) hs (by omega)
          have hbs := bb_st (p := fun s => hpAs (knC (aCu A) j (nI s)) (aRp A m)) (i := s) (by omega)
          refine b_M_kinds_46 (fun h46 => absurd h46 (by first | decide | assumption | omega | simp_all)) (fun h46 => b_M_kinds_53 (by first | assumption | decide | (refine vp_in_nI ?_ ?_ <;> omega) | omega | simp_all) (fun w53 hw53 => b_M_kinds_64 ?_))
          rw [i7] at hw53
          have ho2 : onc vi w53 (12 + j) := by rw [hw53]; exact onc_up ho
          have hV2 := MV_knC (q := nI s) hp.1 hA.V hj ho2 (by rw [hw53, up2_s, vau_s])
          refine c_M_isSo (c := knC (aCu A) j (nI s)) (f := aRp A m) (knC_p hp (vp_in_nI (by omega) (by omega))) hV2 (by rw [ho2.1 95 (by decide) (by decide) (by decide)]; exact hA.w) hm (fun k hk => by rw [ho2.1 98 (by decide) (by decide) (by decide)]; exact (hA.1 m hm).2 k hk) (fun w3 ho3 => ?_)
          cases hb : hpAs (knC (aCu A) j (nI s)) (aRp A m)
          · rw [hb, if_neg (fun q => by cases q)] at hbs
            refine b_M_kinds_71 (fun h71 => b_M_kinds_81 (b_M_kinds_82 ?_)) (fun h71 => absurd h71 (by first | decide | assumption | omega | simp_all))
            rw [hbs, nI_1]
            exact ih w3 (onc_45 ho2 ho3)
          · rw [hb, if_pos rfl] at hbs
            refine b_M_kinds_71 (fun h71 => absurd h71 (by first | decide | assumption | omega | simp_all)) (fun h71 => b_M_kinds_74 (b_M_kinds_82 ?_))
            rw [hbs, nI_1]
            exact ih w3 (onc_45 ho2 ho3)
      · rw [if_neg (by omega), hf] at hQ
        have g0 : ¬ (0 : Int32) ≤ -3 := by decide
        refine b_M_kinds_22 (fun h22 => absurd h22 (by first | decide | assumption | omega | simp_all)) (fun h22 => b_M_kinds_27 ?_)
        exact hQ _ _ (AbM_fd hW hA (by omega)) (smC_of fun j hj => fd_o hj)
    · rw [inB_f hr] at hQ ⊢
      rw [if_neg (fun q => by cases q.2)] at hQ
      refine b_M_kinds_12 (fun h12 => absurd h12 (by first | decide | assumption | omega | simp_all)) (fun h12 => b_M_kinds_15 ?_)
      exact hQ _ _ hA smC_rf
  · rw [inB_f hy] at hQ ⊢
    rw [if_neg (fun q => by cases q.1)] at hQ
    refine b_M_kinds_5 (fun h5 => b_M_kinds_15 ?_) (fun h5 => absurd h5 (by first | decide | assumption | omega | simp_all))
    exact hQ _ _ hA smC_rf
end S64
