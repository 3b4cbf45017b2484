section S65
variable {X : aX} {d : Nat} {vi : Nat → Nat → Int32} {vl : Nat → Nat → Int64} {post : aO} {A : aA} {c : Cl} {f g : Nat → Int32}
theorem or_or (a b : Int32) : (a ||| b) ||| b = a ||| b := by rw [Int32.or_assoc, Int32.or_self]
theorem m_needed (hW : wfA A) (hA : AbM A vi vl) (hQ : PM vi vl post (oNeeded A)) : CallOk X (d + 4) 0 0 k_M_needed [.ref 95] (mk vi vl) post := by
  refine CallOk.intro (by decide +kernel) rfl (Nat.le_of_ble_eq_true rfl) ?_
  unfold oNeeded neeT at hQ
  have h5' := hW.N5
  have h8' := hW.L8
  have hp := hW.2.2.1.p
  have e0 : vi 96 0 = nI (cN (aCu A)) := hA.V.1
  have e1 : vi 96 1 = nI (cL (aCu A)) := hA.V.2.1
  refine b_M_needed_0 ?_
  refine a_plays hp hA.V hA.w (fun w1 ho1 hP1 => ?_)
  refine b_M_needed_4 ?_
  have key := loop_up (P := fun y => ∀ w, (∀ j, j ≠ 102 → w j = w1 j) → (∀ z, z < y → w 102 z = hap (aCu A) z) → wp X (d + 4) k_M_needed 0 0 8 [some (.ref 95), some (.int 0), some (.int (nI y)), none] [] (mk w vl) post) (cN (aCu A)) 0 (Nat.zero_le _) ?_ ?_
  · exact key w1 (fun _ _ => rfl) (fun z hz => absurd hz (Nat.not_lt_zero _))
  · intro w hw hz
    have ow : ∀ j, j ≠ 102 → j ≠ 104 → j ≠ 105 → w j = vi j := fun j a b c => by rw [hw j a, ho1 j b c]
    have g1 : ¬ ¬ w 96 0 ≤ nI (cN (aCu A)) := fun q => q (by rw [ow 96 (by decide) (by decide) (by decide), e0]; exact Int32.le_refl _)
    refine b_M_needed_8 (fun h8 => b_M_needed_36 ?_) (fun h8 => absurd h8 (by first | decide | assumption | omega | simp_all))
    have key2 := loop_up (P := fun k => ∀ u l3, (∀ j, j ≠ 95 → j ≠ 102 → j ≠ 104 → j ≠ 105 → u j = vi j) → (∀ s, s ≠ 16 → u 95 s = vi 95 s) → (∀ z, z < cN (aCu A) → u 102 z = hap (aCu A) z) → wp X (d + 4) k_M_needed 0 0 38 [some (.ref 95), some (.int (nI (bb (fun k => !hpAs (knC (aCu A) k 1) (hap (aCu A))) k))), some (.int (nI k)), l3] [] (mk u vl) post) (cL (aCu A)) 0 (Nat.zero_le _) ?_ ?_
    · exact key2 w _ (fun j a b c d => ow j b c d) (fun s _ => by rw [ow 95 (by decide) (by decide) (by decide)]) hz
    · intro u l3 hu hu5 hu2
      have g2 : ¬ ¬ u 96 1 ≤ nI (cL (aCu A)) := fun q => q (by rw [hu 96 (by decide) (by decide) (by decide) (by decide), e1]; exact Int32.le_refl _)
      refine b_M_needed_38 (fun h38 => b_M_needed_106 (fun w106 hw106 => b_M_needed_112 ?_)) (fun h38 => absurd h38 (by first | decide | assumption | omega | simp_all))
      have hs : scM vi w106 := ⟨fun j hj => by rw [hw106, up2_n (by omega)]; exact hu j (by omega) (by omega) (by omega) (by omega), fun k _ _ => by
        rw [hw106, up2_s]
        by_cases h16 : k = 16
        · subst h16; rw [vau_s]; exact hA.w.symm
        · rw [vau_n h16]; exact hu5 k h16, fun k _ => by rw [hw106, up2_n (by decide), hu 96 (by decide) (by decide) (by decide) (by decide)]⟩
      exact hQ _ _ (AbM_sc hW hA hs rfl rfl) (smC_sc hs)
    · intro k _ hk ih u l3 hu hu5 hu2
      have g2 : ¬ u 96 1 ≤ nI k := by rw [hu 96 (by decide) (by decide) (by decide) (by decide), e1]; exact nI_ge hk (by omega)
      have hbs := bb_st (p := fun k => !hpAs (knC (aCu A) k 1) (hap (aCu A))) (i := k) (by omega)
      refine b_M_needed_38 (fun h38 => absurd h38 (by first | decide | assumption | omega | simp_all)) (fun h38 => b_M_needed_48 (fun w48 hw48 => b_M_needed_53 ?_))
      have ev : w48 96 = vi 96 := by rw [hw48, up2_n (by decide)]; exact hu 96 (by decide) (by decide) (by decide) (by decide)
      refine c_M_plays (c := aCu A) hp (by rw [ev]; exact hA.V) (fun w2 ho2 hp2 => ?_)
      have e16 : w48 95 16 = nI k := by rw [hw48, up2_s, vau_s]
      rw [e16] at hp2
      have o2 : ∀ j, j ≠ 95 → j ≠ 102 → j ≠ 104 → j ≠ 105 → w2 j = vi j := fun j a b c d => by rw [ho2 j c d, hw48, up2_n a]; exact hu j a b c d
      have o25 : ∀ s, s ≠ 16 → w2 95 s = vi 95 s := fun s hs => by rw [ho2 95 (by decide) (by decide), hw48, up2_s, vau_n hs]; exact hu5 s hs
      have o22 : ∀ z, z < cN (aCu A) → w2 102 z = hap (aCu A) z := fun z hz => by rw [ho2 102 (by decide) (by decide), hw48, up2_n (by decide)]; exact hu2 z hz
      have o24 : ∀ z, z < cN (aCu A) → w2 104 z = hap (knC (aCu A) k 1) z := fun z hz => by rw [(hp2 z hz).1, woC_k h8' hk]
      have e02 : w2 96 0 = nI (cN (aCu A)) := by rw [o2 96 (by decide) (by decide) (by decide) (by decide)]; exact e0
      refine b_M_needed_57 ?_
      have key3 := loop_up (P := fun y => ∀ b : Bool, (!hpAs (knC (aCu A) k 1) (hap (aCu A))) = (b || !alF (fun x => decide (hap (knC (aCu A) k 1) x = hap (aCu A) x)) y (cN (aCu A) - y)) → wp X (d + 4) k_M_needed 0 0 59 [some (.ref 95), some (.int (nI (bb (fun k => !hpAs (knC (aCu A) k 1) (hap (aCu A))) k) ||| (if b then (1 : Int32) <<< (nI k &&& 31) else 0))), some (.int (nI k)), some (.int (nI y))] [] (mk w2 vl) post) (cN (aCu A)) 0 (Nat.zero_le _) ?_ ?_
      · have := key3 false (by rw [Bool.false_or]; rfl)
        rw [if_neg (fun q => by cases q), or_0b (by omega)] at this
        exact this
      · intro b hb
        rw [Nat.sub_self] at hb
        have hb : (!hpAs (knC (aCu A) k 1) (hap (aCu A))) = (b || false) := hb
        rw [Bool.or_false] at hb
        rw [hb] at hbs
        have g3 : ¬ ¬ w2 96 0 ≤ nI (cN (aCu A)) := fun q => q (by rw [e02]; exact Int32.le_refl _)
        refine b_M_needed_59 (fun h59 => b_M_needed_100 ?_) (fun h59 => absurd h59 (by first | decide | assumption | omega | simp_all))
        rw [nI_1, hbs]
        exact ih w2 _ o2 o25 o22
      · intro y _ hy ih3 b hb
        have g3 : ¬ w2 96 0 ≤ nI y := by rw [e02]; exact nI_ge hy (by omega)
        have cy : (nI y).toNatClampNeg = y := nI_clamp (by omega)
        have vy : vp_in (nI y) 5 := vp_in_nI (by omega) (by omega)
        have vy4 : vp_in (nI y) 40 := vp_in_nI (by omega) (by omega)
        rw [show cN (aCu A) - y = (cN (aCu A) - (y + 1)) + 1 by omega, alF_s] at hb
        by_cases h : hap (knC (aCu A) k 1) y = hap (aCu A) y
        · have g4 : ¬ ¬ w2 104 (nI y).toNatClampNeg = w2 102 (nI y).toNatClampNeg := fun q => q (by rw [cy, o24 y hy, o22 y hy]; exact h)
          rw [decide_eq_true h, Bool.true_and] at hb
          refine b_M_needed_59 (fun h59 => absurd h59 (by first | decide | assumption | omega | simp_all)) (fun h59 => b_M_needed_69 (by first | assumption | decide | (refine vp_in_nI ?_ ?_ <;> omega) | omega | simp_all) (by first | assumption | decide | (refine vp_in_nI ?_ ?_ <;> omega) | omega | simp_all) (fun h69 => absurd h69 (by first | decide | assumption | omega | simp_all)) (fun h69 => b_M_needed_85 (b_M_needed_92 ?_)))
          rw [nI_1, Int32.or_zero]
          exact ih3 b hb
        · have g4 : ¬ w2 104 (nI y).toNatClampNeg = w2 102 (nI y).toNatClampNeg := by rw [cy, o24 y hy, o22 y hy]; exact h
          rw [decide_eq_false h, Bool.false_and, Bool.not_false, Bool.or_true] at hb
          have ih4 := ih3 true (by rw [Bool.true_or]; exact hb)
          rw [if_pos rfl] at ih4
          refine b_M_needed_59 (fun h59 => absurd h59 (by first | decide | assumption | omega | simp_all)) (fun h59 => b_M_needed_69 (by first | assumption | decide | (refine vp_in_nI ?_ ?_ <;> omega) | omega | simp_all) (by first | assumption | decide | (refine vp_in_nI ?_ ?_ <;> omega) | omega | simp_all) (fun h69 => b_M_needed_89 (b_M_needed_92 ?_)) (fun h69 => absurd h69 (by first | decide | assumption | omega | simp_all)))
          rw [nI_1]
          cases b
          · rw [if_neg (fun q => by cases q), or_0b (by omega)]
            exact ih4
          · rw [if_pos rfl, or_or]
            exact ih4
  · intro y _ hy ih w hw hz
    have g1 : ¬ w 96 0 ≤ nI y := by rw [hw 96 (by decide), ho1 96 (by decide) (by decide), e0]; exact nI_ge hy (by omega)
    have cy : (nI y).toNatClampNeg = y := nI_clamp (by omega)
    have vy : vp_in (nI y) 5 := vp_in_nI (by omega) (by omega)
    have vy4 : vp_in (nI y) 40 := vp_in_nI (by omega) (by omega)
    refine b_M_needed_8 (fun h8 => absurd h8 (by first | decide | assumption | omega | simp_all)) (fun h8 => b_M_needed_18 (by first | assumption | decide | (refine vp_in_nI ?_ ?_ <;> omega) | omega | simp_all) (by first | assumption | decide | (refine vp_in_nI ?_ ?_ <;> omega) | omega | simp_all) (fun w18 hw18 => b_M_needed_30 ?_))
    rw [nI_1]
    rw [cy, hw 104 (by decide), (hP1.2 y hy).1] at hw18
    rw [hw18]
    refine ih _ (fun j hj => by rw [up2_n hj]; exact hw j hj) (fun z hz2 => ?_)
    rw [up2_s]
    by_cases hzy : z = y
    · subst hzy; rw [vau_s]
    · rw [vau_n hzy]; exact hz z (by omega)
theorem m_asked (hA : AbM A vi vl) (hQ : PM vi vl post (aAk A, A)) : CallOk X (d + 1) 0 0 k_M_asked [.ref 95] (mk vi vl) post := by
  refine CallOk.intro (by decide +kernel) rfl (Nat.le_of_ble_eq_true rfl) ?_
  refine b_M_asked_0 ?_
  rw [hA.2.2.2.2.2.1.1]
  exact hQ _ _ hA smC_rf
/-- what a call of the reference's comes to that answers a long -/
def PN (vi : Nat → Nat → Int32) (vl : Nat → Nat → Int64) (post : aO) (o : Int64 × aA) : Prop := ∀ w wl, AbM o.2 w wl → smC vi w vl wl → post (some (.long o.1)) (mk w wl)
theorem m_upper (hA : AbM A vi vl) (hQ : PN vi vl post (aUp A, A)) : CallOk X (d + 1) 0 0 k_M_upper [.ref 95] (mk vi vl) post := by
  refine CallOk.intro (by decide +kernel) rfl (Nat.le_of_ble_eq_true rfl) ?_
  refine b_M_upper_0 ?_
  rw [hA.2.2.2.2.2.1.2.1]
  exact hQ _ _ hA smC_rf
theorem m_lower (hA : AbM A vi vl) (hQ : PN vi vl post (aLo A, A)) : CallOk X (d + 1) 0 0 k_M_lower [.ref 95] (mk vi vl) post := by
  refine CallOk.intro (by decide +kernel) rfl (Nat.le_of_ble_eq_true rfl) ?_
  refine b_M_lower_0 ?_
  rw [hA.2.2.2.2.2.1.2.2]
  exact hQ _ _ hA smC_rf
theorem m_finding (hA : AbM A vi vl) (hQ : PM vi vl post (aFd A, A)) : CallOk X (d + 1) 0 0 k_M_finding [.ref 95] (mk vi vl) post := by
  refine CallOk.intro (by decide +kernel) rfl (Nat.le_of_ble_eq_true rfl) ?_
  refine b_M_finding_0 ?_
  rw [hA.2.2.2.2.1.1]
  exact hQ _ _ hA smC_rf
end S65
