/-! the reference: plays -/
def wfP (c : Cl) : Prop := wfV c ∧ ∀ y, y < cN c → cW c y = 0 ∨ cW c y = 1 ∨ cW c y = 2
theorem wfC.p {c : Cl} (h : wfC c) : wfP c := ⟨h.v, fun y hy => by rcases h.2.2.2.1 y hy with q | ⟨q | q, -⟩ <;> simp [q]⟩
def stK (c : Cl) (K : Nat → Int32) : Cl := (cN c, cL c, cT c, cW c, cS c, K, cC c, cEn c, cHW c, cHS c)
def woC (c : Cl) (wo : Int32) : Cl := stK c (fun j => if wo = nI j then 1 else cK c j)
theorem hap_stK {c : Cl} {K : Nat → Int32} (hL : cL c ≤ 8) (h : ∀ k, k < cL c → K k = cK c k) (y : Nat) : hap (stK c K) y = hap c y ∧ mak (stK c K) y = mak c y := by
  have hh : ∀ y, hap (stK c K) y = hap c y := fun y => hapF_cg hL h (fun _ _ => rfl) (fun _ _ => rfl) y (fun _ _ => rfl) (fun _ _ => rfl)
  exact ⟨hh y, mkF_cg rfl rfl h (fun _ _ => rfl) (fun j _ => hh j)⟩
theorem nI_n9 {j : Nat} (h : j < 2 ^ 31) : ¬ nI j = -9 := fun q => by
  have := congrArg Int32.toInt q; rw [nI_toInt h] at this
  have e9 : (-9 : Int32).toInt = -9 := by decide
  omega
theorem woC_9 {c : Cl} (hL : cL c ≤ 8) (y : Nat) : hap (woC c (-9)) y = hap c y ∧ mak (woC c (-9)) y = mak c y := hap_stK hL (fun k hk => by rw [if_neg (fun q => nI_n9 (by omega) q.symm)]) y
theorem woC_k {c : Cl} {k : Nat} (hL : cL c ≤ 8) (hk : k < cL c) (y : Nat) : hap (woC c (nI k)) y = hap (knC c k 1) y := by
  refine (hap_stK (c := knC c k 1) (K := fun j => if nI k = nI j then 1 else cK c j) hL (fun j hj => ?_) y).1
  have hj : j < cL c := hj
  show _ = va_up (cK c) k 1 j
  by_cases h : j = k
  · subst h; rw [vau_s, if_pos rfl]
  · rw [vau_n h, if_neg (fun q => h ((nI_eq (by omega) (by omega)).mp q).symm)]
theorem wfV_wo {c : Cl} {wo : Int32} (h : wfV c) : cN (woC c wo) = cN c ∧ cL (woC c wo) = cL c := ⟨rfl, rfl⟩
section S56
variable {X : aX} {d : Nat} {vi : Nat → Nat → Int32} {vl : Nat → Nat → Int64} {post : aO} {A : aA} {c : Cl}
/-- is the LAW k the one that holds in the YEAR y -/
def plB (c : Cl) (wo : Int32) (H : Nat → Int32) (y k : Nat) : Bool := (if cW c y = 2 then gapB (cK c) (cC c) (cS c y) k else hldB (cK c) (cC c) H k y) && !decide (nI k = wo)
theorem plB_wo {wo : Int32} {H : Nat → Int32} {y k : Nat} : plB c wo H y k = (if cW c y = 2 then gapB (cK (woC c wo)) (cC c) (cS c y) k else hldB (cK (woC c wo)) (cC c) H k y) := by
  unfold plB
  have e : cK (woC c wo) k = if wo = nI k then 1 else cK c k := rfl
  by_cases h : nI k = wo
  · have e1 : cK (woC c wo) k = 1 := by rw [e, if_pos h.symm]
    rw [decide_eq_true h, Bool.not_true, Bool.and_false]
    by_cases h2 : cW c y = 2
    · rw [if_pos h2]; unfold gapB; rw [e1]; rfl
    · rw [if_neg h2]; unfold hldB; simp only [e1]; rfl
  · have e1 : cK (woC c wo) k = cK c k := by rw [e, if_neg (fun q => h q.symm)]
    rw [decide_eq_false h, Bool.not_false, Bool.and_true]
    unfold gapB hldB; simp only [e1]
theorem mak_eq {y : Nat} : mak c y = if cW c y = 1 then -9 else frF (fun k => if cW c y = 2 then gapB (cK c) (cC c) (cS c y) k else hldB (cK c) (cC c) (hap c) k y) 0 (cL c) := by
  unfold mak mkF
  by_cases h1 : cW c y = 1
  · rw [if_pos h1, if_pos h1]
  · rw [if_neg h1, if_neg h1]
    by_cases h2 : cW c y = 2
    · simp only [if_pos h2]
    · simp only [if_neg h2]
theorem hap_eq {y : Nat} (hL : cL c ≤ 8) : hap c y = if cW c y = 1 then cS c y else if mak c y = -9 then -9 else cEn c (mak c y).toNatClampNeg := hapF_eq hL
theorem c_M_plays (hw : wfP c) (hV : MV c 0 (vi 96)) (hQ : ∀ w, (∀ j, j ≠ 104 → j ≠ 105 → w j = vi j) → (∀ y, y < cN c → w 104 y = hap (woC c (vi 95 16)) y ∧ w 105 y = mak (woC c (vi 95 16)) y) → post none (mk w vl)) : CallOk X (d + 3) 0 0 k_M_plays [.ref 95] (mk vi vl) post := by
  refine CallOk.intro (by decide +kernel) rfl (Nat.le_of_ble_eq_true rfl) ?_
  have hn5 := hw.1.1
  have hl8 := hw.1.2.1
  generalize hwo : vi 95 16 = wo at hQ
  refine b_M_plays_0 ?_
  have key := loop_up (P := fun y => ∀ w l2 l3 l4 l5, (∀ j, j ≠ 104 → j ≠ 105 → w j = vi j) → (∀ z, z < y → w 104 z = hap (woC c wo) z ∧ w 105 z = mak (woC c wo) z) → wp X (d + 3) k_M_plays 0 0 2 [some (.ref 95), some (.int (nI y)), l2, l3, l4, l5] [] (mk w vl) post) (cN c) 0 (Nat.zero_le _) ?_ ?_
  · exact key vi _ _ _ _ (fun _ _ _ => rfl) (fun z hz => absurd hz (Nat.not_lt_zero _))
  · intro w l2 l3 l4 l5 ho hz
    have g : ¬ ¬ w 96 0 ≤ nI (cN c) := fun q => q (by rw [ho 96 (by decide) (by decide), show vi 96 0 = nI (cN c) from hV.1]; exact Int32.le_refl _)
    refine b_M_plays_2 (fun h2 => b_M_plays_213 ?_) (fun h2 => absurd h2 (by first | decide | assumption | omega | simp_all))
    exact hQ w ho hz
  · intro y _ hy ih w l2 l3 l4 l5 ho hz
    have e96 : w 96 = vi 96 := ho 96 (by decide) (by decide)
    have hVw : MV c 0 (w 96) := by rw [e96]; exact hV
    have g : ¬ w 96 0 ≤ nI y := by rw [show w 96 0 = nI (cN c) from hVw.1]; exact nI_ge hy (by omega)
    obtain ⟨eW, eS⟩ := hVw.y hy
    have v2 : vp_in (2 + nI y) 5976 := by rw [ix2]; exact vp_in_nI (by omega) (by omega)
    have v7 : vp_in (7 + nI y) 5976 := by rw [ix7]; exact vp_in_nI (by omega) (by omega)
    have i2 : (2 + nI y).toNatClampNeg = 2 + y := by rw [ix2]; exact nI_clamp (by omega)
    have i7 : (7 + nI y).toNatClampNeg = 7 + y := by rw [ix7]; exact nI_clamp (by omega)
    have cy : (nI y).toNatClampNeg = y := nI_clamp (by omega)
    have vy : vp_in (nI y) 5 := vp_in_nI (by omega) (by omega)
    have hwo2 : w 95 16 = wo := by rw [ho 95 (by decide) (by decide)]; exact hwo
    -- what follows the scan
    have fin : ∀ fnd x3 l4 l5, fnd = mak (woC c wo) y → wp X (d + 3) k_M_plays 0 0 150 [some (.ref 95), some (.int (nI y)), some (.int fnd), some (.int x3), l4, l5] [] (mk w vl) post := by
      intro fnd x3 l4 l5 hf
      have done : ∀ (u : Nat → Nat → Int32) (x : Int32) l3 l4 l5, x = hap (woC c wo) y → u = up2 (up2 w 105 y fnd) 104 y x → wp X (d + 3) k_M_plays 0 0 2 [some (.ref 95), some (.int (nI (y + 1))), some (.int fnd), l3, l4, l5] [] (mk u vl) post := by
        intro u x l3 l4 l5 hx hu
        refine ih u _ _ _ _ (fun j a b => by rw [hu, up2_n a, up2_n b]; exact ho j a b) (fun z hz2 => ?_)
        rw [hu, up2_s, up2_n (show 105 ≠ 104 by decide), up2_s]
        by_cases hzy : z = y
        · subst hzy; rw [vau_s, vau_s]; exact ⟨hx, hf⟩
        · rw [vau_n hzy, vau_n hzy, up2_n (by decide)]; exact hz z (by omega)
      have eh := hap_eq (c := woC c wo) (y := y) hl8
      by_cases h1 : cW c y = 1
      · rw [if_pos (show cW (woC c wo) y = 1 from h1)] at eh
        have g1 : ¬ ¬ up2 w 105 y fnd 96 (2 + nI y).toNatClampNeg = 1 := fun q => q (by rw [up2_n (by decide), i2, eW]; exact h1)
        refine b_M_plays_150 (by first | assumption | decide | (refine vp_in_nI ?_ ?_ <;> omega) | omega | simp_all) (fun w150 hw150 => ?_)
        rw [cy] at hw150
        rw [hw150]
        refine b_M_plays_157 (by first | assumption | decide | (refine vp_in_nI ?_ ?_ <;> omega) | omega | simp_all) (fun h157 => absurd h157 (by first | decide | assumption | omega | simp_all)) (fun h157 => b_M_plays_174 (by first | assumption | decide | (refine vp_in_nI ?_ ?_ <;> omega) | omega | simp_all) (b_M_plays_206 (by first | assumption | decide | (refine vp_in_nI ?_ ?_ <;> omega) | omega | simp_all) (fun w206 hw206 => b_M_plays_207 ?_)))
        rw [nI_1]
        refine done _ (cS c y) _ _ _ eh.symm ?_
        rw [hw206, cy, i7, up2_n (show 96 ≠ 105 by decide), eS]
      · rw [if_neg (show ¬ cW (woC c wo) y = 1 from h1), ← hf] at eh
        have g1 : ¬ up2 w 105 y fnd 96 (2 + nI y).toNatClampNeg = 1 := by rw [up2_n (by decide), i2, eW]; exact h1
        refine b_M_plays_150 (by first | assumption | decide | (refine vp_in_nI ?_ ?_ <;> omega) | omega | simp_all) (fun w150 hw150 => ?_)
        rw [cy] at hw150
        rw [hw150]
        by_cases h9 : fnd = -9
        · rw [if_pos h9] at eh
          refine b_M_plays_157 (by first | assumption | decide | (refine vp_in_nI ?_ ?_ <;> omega) | omega | simp_all) (fun h157 => b_M_plays_186 (fun h186 => absurd h186 (by first | decide | assumption | omega | simp_all)) (fun h186 => b_M_plays_192 (b_M_plays_206 (by first | assumption | decide | (refine vp_in_nI ?_ ?_ <;> omega) | omega | simp_all) (fun w206 hw206 => b_M_plays_207 ?_)))) (fun h157 => absurd h157 (by first | decide | assumption | omega | simp_all))
          rw [nI_1]
          refine done _ (-9) _ _ _ eh.symm ?_
          rw [hw206, cy]
        · rw [if_neg h9] at eh
          have hor : ∃ k, k < cL c ∧ fnd = nI k := by
            have := mkF_or (W := cW (woC c wo)) (S := cS (woC c wo)) (K := cK (woC c wo)) (C := cC (woC c wo)) (H := hap (woC c wo)) (L := cL (woC c wo)) (y := y)
            rcases this with q | q
            · exact absurd (hf.trans q) h9
            · obtain ⟨k, hk, e⟩ := q; exact ⟨k, hk, hf.trans e⟩
          obtain ⟨k, hk, ek⟩ := hor
          have v28 : vp_in (28 + fnd) 5976 := by rw [ek, ix28]; exact vp_in_nI (by omega) (by omega)
          refine b_M_plays_157 (by first | assumption | decide | (refine vp_in_nI ?_ ?_ <;> omega) | omega | simp_all) (fun h157 => b_M_plays_186 (fun h186 => b_M_plays_197 (by first | assumption | decide | (refine vp_in_nI ?_ ?_ <;> omega) | omega | simp_all) (b_M_plays_206 (by first | assumption | decide | (refine vp_in_nI ?_ ?_ <;> omega) | omega | simp_all) (fun w206 hw206 => b_M_plays_207 ?_))) (fun h186 => absurd h186 (by first | decide | assumption | omega | simp_all))) (fun h157 => absurd h157 (by first | decide | assumption | omega | simp_all))
          rw [nI_1]
          refine done _ (cEn c k) _ _ _ ?_ ?_
          · rw [eh, ek, nI_clamp (by omega)]; rfl
          · rw [hw206, cy, up2_n (show 96 ≠ 105 by decide), ek, ix28, nI_clamp (by omega), (hVw.l hk).2.2]
    have emk : mak (woC c wo) y = if cW c y = 1 then -9 else frF (plB c wo (w 104) y) 0 (cL c) := by
      rw [mak_eq (c := woC c wo)]
      show (if cW c y = 1 then _ else _) = _
      by_cases h1 : cW c y = 1
      · rw [if_pos h1, if_pos h1]
      · rw [if_neg h1, if_neg h1]
        refine frF_cg _ _ (fun k _ hk => ?_)
        rw [plB_wo]
        show (if cW c y = 2 then _ else _) = _
        by_cases h2 : cW c y = 2
        · rw [if_pos h2, if_pos h2]; rfl
        · rw [if_neg h2, if_neg h2]
          exact hldB_cg rfl rfl (fun j hj => (hz j hj).1.symm)
    refine b_M_plays_2 (fun h2 => absurd h2 (by first | decide | assumption | omega | simp_all)) (fun h2 => b_M_plays_12 ?_)
    rw [show w 96 1 = nI (cL c) from hVw.2.1]
    by_cases h1 : cW c y = 1
    · rw [if_pos h1] at emk
      by_cases hL0 : cL c = 0
      · rw [hL0]
        have g1 : ¬ ¬ nI 0 - 1 < 0 := by decide
        refine b_M_plays_24 (fun h24 => ?_) (fun h24 => absurd h24 (by first | decide | assumption | omega | simp_all))
        exact fin _ _ _ _ emk.symm
      · have g1 : ¬ nI (cL c) - 1 < 0 := by
          have : nI (cL c) - 1 = nI (cL c - 1) := by rw [show (1 : Int32) = nI 1 from rfl, nI_sub (by omega)]
          rw [this]; exact nI_pos (by omega)
        have g2 : ¬ ¬ w 96 (2 + nI y).toNatClampNeg = 1 := fun q => q (by rw [i2, eW]; exact h1)
        refine b_M_plays_24 (fun h24 => absurd h24 (by first | decide | assumption | omega | simp_all)) (fun h24 => b_M_plays_28 (by first | assumption | decide | (refine vp_in_nI ?_ ?_ <;> omega) | omega | simp_all) (fun h28 => ?_) (fun h28 => absurd h28 (by first | decide | assumption | omega | simp_all)))
        exact fin _ _ _ _ emk.symm
    · rw [if_neg h1] at emk
      have scan : ∀ k, k ≤ cL c → ∀ l4 l5, wp X (d + 3) k_M_plays 0 0 24 [some (.ref 95), some (.int (nI y)), some (.int (frF (plB c wo (w 104) y) k (cL c - k))), some (.int (nI k - 1)), l4, l5] [] (mk w vl) post := by
        intro k
        induction k with
        | zero =>
          intro _ l4 l5
          have g1 : ¬ ¬ nI 0 - 1 < 0 := by decide
          refine b_M_plays_24 (fun h24 => ?_) (fun h24 => absurd h24 (by first | decide | assumption | omega | simp_all))
          refine fin _ _ _ _ ?_
          rw [emk, Nat.sub_zero]
        | succ k ihk =>
          intro hk l4 l5
          obtain ⟨eK, eC, eE⟩ := hVw.l (k := k) (by omega)
          have ihk := ihk (by omega)
          rw [show cL c - k = (cL c - (k + 1)) + 1 by omega] at ihk
          simp only [frF] at ihk
          generalize frF (plB c wo (w 104) y) (k + 1) (cL c - (k + 1)) = old at ihk ⊢
          rw [nI_pred]
          have em : nI k + -1 = nI k - 1 := by rw [Int32.sub_eq_add_neg]
          have g1 : ¬ nI k < 0 := nI_pos (by omega)
          have g2 : ¬ w 96 (2 + nI y).toNatClampNeg = 1 := by rw [i2, eW]; exact h1
          have i12 : (12 + nI k).toNatClampNeg = 12 + k := by rw [ix12]; exact nI_clamp (by omega)
          have i20 : (20 + nI k).toNatClampNeg = 20 + k := by rw [ix20]; exact nI_clamp (by omega)
          have v12 : vp_in (12 + nI k) 5976 := by rw [ix12]; exact vp_in_nI (by omega) (by omega)
          have v20 : vp_in (20 + nI k) 5976 := by rw [ix20]; exact vp_in_nI (by omega) (by omega)
          -- yes or no
          have yes : ∀ x4, (if cW c y = 2 then gapB (cK c) (cC c) (cS c y) k else hldB (cK c) (cC c) (w 104) k y) = true → wp X (d + 3) k_M_plays 0 0 123 [some (.ref 95), some (.int (nI y)), some (.int old), some (.int (nI k)), some (.int x4), l5] [.int 1] (mk w vl) post := by
            intro x4 hb
            by_cases hkw : nI k = wo
            · have g3 : ¬ ¬ nI k = w 95 16 := fun q => q (by rw [hwo2]; exact hkw)
              refine b_M_plays_123 (fun h123 => absurd h123 (by first | decide | assumption | omega | simp_all)) (fun h123 => b_M_plays_130 (fun h130 => b_M_plays_142 (b_M_plays_143 ?_)) (fun h130 => absurd h130 (by first | decide | assumption | omega | simp_all)))
              rw [em]
              have : plB c wo (w 104) y k = false := by unfold plB; rw [decide_eq_true hkw, Bool.not_true, Bool.and_false]
              rw [this, if_neg (fun q => by cases q)] at ihk
              exact ihk _ _
            · have g3 : ¬ nI k = w 95 16 := by rw [hwo2]; exact hkw
              refine b_M_plays_123 (fun h123 => absurd h123 (by first | decide | assumption | omega | simp_all)) (fun h123 => b_M_plays_130 (fun h130 => absurd h130 (by first | decide | assumption | omega | simp_all)) (fun h130 => b_M_plays_138 (b_M_plays_143 ?_)))
              rw [em]
              have : plB c wo (w 104) y k = true := by unfold plB; rw [decide_eq_false hkw, Bool.not_false, Bool.and_true]; exact hb
              rw [this, if_pos rfl] at ihk
              exact ihk _ _
          have no : ∀ x4, (if cW c y = 2 then gapB (cK c) (cC c) (cS c y) k else hldB (cK c) (cC c) (w 104) k y) = false → wp X (d + 3) k_M_plays 0 0 123 [some (.ref 95), some (.int (nI y)), some (.int old), some (.int (nI k)), some (.int x4), l5] [.int 0] (mk w vl) post := by
            intro x4 hb
            refine b_M_plays_123 (fun h123 => b_M_plays_142 (b_M_plays_143 ?_)) (fun h123 => absurd h123 (by first | decide | assumption | omega | simp_all))
            rw [em]
            have : plB c wo (w 104) y k = false := by unfold plB; rw [hb, Bool.false_and]
            rw [this, if_neg (fun q => by cases q)] at ihk
            exact ihk _ _
          by_cases h2 : cW c y = 2
          · rw [if_pos h2] at yes no
            have g4 : ¬ ¬ w 96 (2 + nI y).toNatClampNeg = 2 := fun q => q (by rw [i2, eW]; exact h2)
            have g5 : ¬ w 96 (2 + nI y).toNatClampNeg = 0 := by rw [i2, eW, h2]; decide
            unfold gapB at yes no
            by_cases hk2 : cK c k = 2
            · have g6 : ¬ ¬ w 96 (12 + nI k).toNatClampNeg = 2 := fun q => q (by rw [i12, eK]; exact hk2)
              by_cases hc : cC c k = cS c y
              · have g7 : ¬ ¬ w 96 (20 + nI k).toNatClampNeg = w 96 (7 + nI y).toNatClampNeg := fun q => q (by rw [i20, i7, eC, eS]; exact hc)
                refine b_M_plays_24 (fun h24 => absurd h24 (by first | decide | assumption | omega | simp_all)) (fun h24 => b_M_plays_28 (by first | assumption | decide | (refine vp_in_nI ?_ ?_ <;> omega) | omega | simp_all) (fun h28 => absurd h28 (by first | decide | assumption | omega | simp_all)) (fun h28 => b_M_plays_40 (by first | assumption | decide | (refine vp_in_nI ?_ ?_ <;> omega) | omega | simp_all) (fun h40 => absurd h40 (by first | decide | assumption | omega | simp_all)) (fun h40 => b_M_plays_52 (by first | assumption | decide | (refine vp_in_nI ?_ ?_ <;> omega) | omega | simp_all) (fun h52 => absurd h52 (by first | decide | assumption | omega | simp_all)) (fun h52 => b_M_plays_65 (by first | assumption | decide | (refine vp_in_nI ?_ ?_ <;> omega) | omega | simp_all) (by first | assumption | decide | (refine vp_in_nI ?_ ?_ <;> omega) | omega | simp_all) (fun h65 => absurd h65 (by first | decide | assumption | omega | simp_all)) (fun h65 => b_M_plays_86 (b_M_plays_91 (fun h91 => b_M_plays_118 ?_) (fun h91 => absurd h91 (by first | decide | assumption | omega | simp_all))))))))
                exact yes _ (by rw [decide_eq_true hk2, decide_eq_true hc]; rfl)
              · have g7 : ¬ w 96 (20 + nI k).toNatClampNeg = w 96 (7 + nI y).toNatClampNeg := by rw [i20, i7, eC, eS]; exact hc
                refine b_M_plays_24 (fun h24 => absurd h24 (by first | decide | assumption | omega | simp_all)) (fun h24 => b_M_plays_28 (by first | assumption | decide | (refine vp_in_nI ?_ ?_ <;> omega) | omega | simp_all) (fun h28 => absurd h28 (by first | decide | assumption | omega | simp_all)) (fun h28 => b_M_plays_40 (by first | assumption | decide | (refine vp_in_nI ?_ ?_ <;> omega) | omega | simp_all) (fun h40 => absurd h40 (by first | decide | assumption | omega | simp_all)) (fun h40 => b_M_plays_52 (by first | assumption | decide | (refine vp_in_nI ?_ ?_ <;> omega) | omega | simp_all) (fun h52 => absurd h52 (by first | decide | assumption | omega | simp_all)) (fun h52 => b_M_plays_65 (by first | assumption | decide | (refine vp_in_nI ?_ ?_ <;> omega) | omega | simp_all) (by first | assumption | decide | (refine vp_in_nI ?_ ?_ <;> omega) | omega | simp_all) (fun h65 => b_M_plays_90 (b_M_plays_91 (fun h91 => absurd h91 (by first | decide | assumption | omega | simp_all)) (fun h91 => b_M_plays_98 (by first | assumption | decide | (refine vp_in_nI ?_ ?_ <;> omega) | omega | simp_all) (fun h98 => b_M_plays_122 ?_) (fun h98 => absurd h98 (by first | decide | assumption | omega | simp_all))))) (fun h65 => absurd h65 (by first | decide | assumption | omega | simp_all))))))
                exact no _ (by rw [decide_eq_false hc, Bool.and_false])
            · have g6 : ¬ w 96 (12 + nI k).toNatClampNeg = 2 := by rw [i12, eK]; exact hk2
              refine b_M_plays_24 (fun h24 => absurd h24 (by first | decide | assumption | omega | simp_all)) (fun h24 => b_M_plays_28 (by first | assumption | decide | (refine vp_in_nI ?_ ?_ <;> omega) | omega | simp_all) (fun h28 => absurd h28 (by first | decide | assumption | omega | simp_all)) (fun h28 => b_M_plays_40 (by first | assumption | decide | (refine vp_in_nI ?_ ?_ <;> omega) | omega | simp_all) (fun h40 => absurd h40 (by first | decide | assumption | omega | simp_all)) (fun h40 => b_M_plays_52 (by first | assumption | decide | (refine vp_in_nI ?_ ?_ <;> omega) | omega | simp_all) (fun h52 => b_M_plays_90 (b_M_plays_91 (fun h91 => absurd h91 (by first | decide | assumption | omega | simp_all)) (fun h91 => b_M_plays_98 (by first | assumption | decide | (refine vp_in_nI ?_ ?_ <;> omega) | omega | simp_all) (fun h98 => b_M_plays_122 ?_) (fun h98 => absurd h98 (by first | decide | assumption | omega | simp_all))))) (fun h52 => absurd h52 (by first | decide | assumption | omega | simp_all)))))
              exact no _ (by rw [decide_eq_false hk2, Bool.false_and])
          · rw [if_neg h2] at yes no
            have h0 : cW c y = 0 := by rcases hw.2 y hy with q | q | q
                                       · exact q
                                       · exact absurd q h1
                                       · exact absurd q h2
            have g4 : ¬ w 96 (2 + nI y).toNatClampNeg = 2 := by rw [i2, eW]; exact h2
            have g5 : ¬ ¬ w 96 (2 + nI y).toNatClampNeg = 0 := fun q => q (by rw [i2, eW]; exact h0)
            refine b_M_plays_24 (fun h24 => absurd h24 (by first | decide | assumption | omega | simp_all)) (fun h24 => b_M_plays_28 (by first | assumption | decide | (refine vp_in_nI ?_ ?_ <;> omega) | omega | simp_all) (fun h28 => absurd h28 (by first | decide | assumption | omega | simp_all)) (fun h28 => b_M_plays_40 (by first | assumption | decide | (refine vp_in_nI ?_ ?_ <;> omega) | omega | simp_all) (fun h40 => b_M_plays_90 (b_M_plays_91 (fun h91 => absurd h91 (by first | decide | assumption | omega | simp_all)) (fun h91 => b_M_plays_98 (by first | assumption | decide | (refine vp_in_nI ?_ ?_ <;> omega) | omega | simp_all) (fun h98 => absurd h98 (by first | decide | assumption | omega | simp_all)) (fun h98 => b_M_plays_109 ?_)))) (fun h40 => absurd h40 (by first | decide | assumption | omega | simp_all))))
            refine c_M_holds (c := c) hVw hw.1 (by omega) (by omega) ?_
            cases hb : hldB (cK c) (cC c) (w 104) k y
            · refine b_M_plays_115 (fun h115 => b_M_plays_122 ?_) (fun h115 => absurd h115 (by first | decide | assumption | omega | simp_all))
              exact no _ hb
            · refine b_M_plays_115 (fun h115 => absurd h115 (by first | decide | assumption | omega | simp_all)) (fun h115 => b_M_plays_118 ?_)
              exact yes _ hb
      have := scan (cL c) (Nat.le_refl _)
      rw [Nat.sub_self] at this
      exact this _ _
end S56
