/-! the reference: fewest -/
section S78
variable {X : aX} {d : Nat} {vi : Nat → Nat → Int32} {vl : Nat → Nat → Int64} {post : aO} {A : aA} {c : Cl} {f g : Nat → Int32}
def cnd (s y : Int32) (c : Cl) : Bool := if y = -9 then decide (ysW c s = 0) else decide (hap c (y.toNatClampNeg) = s)
def fwG (c : Cl) (s y : Int32) (code : Nat) : Bool := alF (fun y => alC (cW c y) (dgc (cN c) code y)) 0 (cN c) && (decide (brb (plC c (dgc (cN c) code) (cN c)) = 0) && cnd s y (plC c (dgc (cN c) code) (cN c)))
def fwC (c : Cl) (code : Nat) : Nat := ctP (dgc (cN c) code) (cN c)
theorem asd_18 {w : Nat → Nat → Int32} {v : Int32} (h : asd vi w) : asd vi (up2 w 95 18 v) :=
  ⟨fun j a b c d e => by rw [up2_n a]; exact h.1 j a b c d e, fun k hk => by rw [up2_s, vau_n hk]; exact h.2.1 k hk, fun k hk => by rw [up2_n (by decide)]; exact h.2.2.1 k hk, fun k a b => by rw [up2_n (by decide)]; exact h.2.2.2 k a b⟩
theorem c_M_fewest {s y : Int32} (hw : wfP c) (hV : MV c 0 (vi 96)) (k16 : vi 95 16 = -9) (hm : y = -9 ∨ ∃ j, j < cN c ∧ y = nI j) (hQ : ∀ w, asd vi w → (∀ k, k < 36 → w 96 k = vi 96 k) → ((bsT (fwG c s y) (fwC c) (7 ^ cN c)).1 < 1000000 → w 95 18 = nI (bsT (fwG c s y) (fwC c) (7 ^ cN c)).2) → post (some (.int (nI (bsT (fwG c s y) (fwC c) (7 ^ cN c)).1))) (mk w vl)) : CallOk X (d + 5) 0 0 k_M_fewest [.ref 95, .int s, .int y] (mk vi vl) post := by
  refine CallOk.intro (by decide +kernel) rfl (Nat.le_of_ble_eq_true rfl) ?_
  have hn5 := hw.1.1
  have h7 := pow7_le hn5
  have hbd : ∀ k, (bsT (fwG c s y) (fwC c) k).1 ≤ 1000000 := fun k => by
    rcases bsT_in (G := fwG c s y) (ct := fwC c) k with q | q
    · omega
    · have : fwC c (bsT (fwG c s y) (fwC c) k).2 ≤ cN c := cn_le _ _
      omega
  refine b_M_fewest_0 ?_
  refine c_M_plans hw.1 hV ?_
  refine b_M_fewest_7 ?_
  refine c_M_lays (fun u0 ha0 h00 => ?_)
  refine b_M_fewest_13 ?_
  have key := loop_up (P := fun k => ∀ w l6 l7, asd vi w → (∀ q, q < 36 → w 96 q = vi 96 q) → ((bsT (fwG c s y) (fwC c) k).1 < 1000000 → w 95 18 = nI (bsT (fwG c s y) (fwC c) k).2) → wp X (d + 5) k_M_fewest 0 0 16 [some (.ref 95), some (.int s), some (.int y), some (.int (nI (bsT (fwG c s y) (fwC c) k).1)), some (.int (nI (7 ^ cN c))), some (.int (nI k)), l6, l7] [] (mk w vl) post) (7 ^ cN c) 0 (Nat.zero_le _) ?_ ?_
  · exact key u0 _ _ ha0 h00 (fun q => absurd (show 1000000 < 1000000 from q) (by decide))
  · intro w l6 l7 ha h0 hb
    have g1 : ¬ ¬ nI (7 ^ cN c) ≤ nI (7 ^ cN c) := fun q => q (Int32.le_refl _)
    refine b_M_fewest_16 (fun h16 => b_M_fewest_135 ?_) (fun h16 => absurd h16 (by first | decide | assumption | omega | simp_all))
    exact hQ w ha h0 hb
  · intro code _ hcode ih w l6 l7 ha h0 hb
    have g1 : ¬ nI (7 ^ cN c) ≤ nI code := nI_ge hcode (by omega)
    have hVw : MV c 0 (w 96) := MV_fr hw.1 hV (fun k _ hk => h0 k (by omega))
    have hbk := hbd code
    have stay : ∀ u x6 l7, bsT (fwG c s y) (fwC c) (code + 1) = bsT (fwG c s y) (fwC c) code → asd vi u → u 95 18 = w 95 18 → wp X (d + 5) k_M_fewest 0 0 125 [some (.ref 95), some (.int s), some (.int y), some (.int (nI (bsT (fwG c s y) (fwC c) code).1)), some (.int (nI (7 ^ cN c))), some (.int (nI code)), some (.int x6), l7] [] (mk u vl) post := by
      intro u x6 l7 hbs hau h18
      refine b_M_fewest_125 ?_
      refine c_M_putsBack hau (fun u2 hu2 hu0 ho => ?_)
      refine b_M_fewest_129 ?_
      rw [nI_1]
      have ih := ih u2 (some (.int x6)) l7 hu2 hu0
      rw [hbs] at ih
      exact ih (fun q => by rw [ho 95 (by decide), h18]; exact hb q)
    have no : ∀ u x6 x7, bsT (fwG c s y) (fwC c) (code + 1) = bsT (fwG c s y) (fwC c) code → asd vi u → u 95 18 = w 95 18 → wp X (d + 5) k_M_fewest 0 0 92 [some (.ref 95), some (.int s), some (.int y), some (.int (nI (bsT (fwG c s y) (fwC c) code).1)), some (.int (nI (7 ^ cN c))), some (.int (nI code)), some (.int x6), some (.int x7)] [] (mk u vl) post := by
      intro u x6 x7 hbs hau h18
      refine b_M_fewest_92 (b_M_fewest_93 (fun h93 => b_M_fewest_106 (b_M_fewest_110 (fun w110 hw110 => b_M_fewest_113 (fun h113 => b_M_fewest_123 (b_M_fewest_124 ?_)) (fun h113 => absurd h113 (by first | decide | assumption | omega | simp_all))))) (fun h93 => absurd h93 (by first | decide | assumption | omega | simp_all)))
      exact stay _ _ _ hbs (by rw [hw110]; exact asd_18 hau) (by rw [hw110, up2_s, vau_s]; exact h18)
    have yes : ∀ u x7, fwG c s y code = true → fwC c code < (bsT (fwG c s y) (fwC c) code).1 → asd vi u → wp X (d + 5) k_M_fewest 0 0 88 [some (.ref 95), some (.int s), some (.int y), some (.int (nI (bsT (fwG c s y) (fwC c) code).1)), some (.int (nI (7 ^ cN c))), some (.int (nI code)), some (.int (nI (fwC c code))), some (.int x7)] [] (mk u vl) post := by
      intro u x7 hg hlt hau
      refine b_M_fewest_88 (b_M_fewest_93 (fun h93 => absurd h93 (by first | decide | assumption | omega | simp_all)) (fun h93 => b_M_fewest_101 (b_M_fewest_110 (fun w110 hw110 => b_M_fewest_113 (fun h113 => absurd h113 (by first | decide | assumption | omega | simp_all)) (fun h113 => b_M_fewest_118 (b_M_fewest_124 ?_))))))
      refine b_M_fewest_125 ?_
      refine c_M_putsBack (by rw [hw110]; exact asd_18 hau) (fun u2 hu2 hu0 ho => ?_)
      refine b_M_fewest_129 ?_
      rw [nI_1]
      have ih := ih u2 (some (.int (nI (fwC c code)))) (some (.int 1)) hu2 hu0
      have hbs : bsT (fwG c s y) (fwC c) (code + 1) = (fwC c code, code) := if_pos ⟨hg, hlt⟩
      rw [hbs] at ih
      exact ih (fun _ => by rw [ho 95 (by decide), hw110, up2_s, vau_s])
    refine b_M_fewest_16 (fun h16 => absurd h16 (by first | decide | assumption | omega | simp_all)) (fun h16 => b_M_fewest_23 ?_)
    refine c_M_does hw.1 hcode ha hVw (fun u hal hau k95 _ _ => ?_) (fun u hal hau k95 hVu _ => ?_)
    · have g2 : ¬ ¬ (-1 : Int32) < 0 := by decide
      refine b_M_fewest_29 (fun h29 => ?_) (fun h29 => absurd h29 (by first | decide | assumption | omega | simp_all))
      exact stay u _ _ (if_neg (fun q => by have := q.1; unfold fwG at this; rw [hal, Bool.false_and] at this; cases this)) hau (by rw [k95])
    · have hct : ctP (dgc (cN c) code) (cN c) ≤ cN c := cn_le _ _
      have g2 : ¬ nI (ctP (dgc (cN c) code) (cN c)) < 0 := nI_pos (by omega)
      have eG : fwG c s y code = (decide (brb (plC c (dgc (cN c) code) (cN c)) = 0) && cnd s y (plC c (dgc (cN c) code) (cN c))) := by unfold fwG; rw [hal, Bool.true_and]
      by_cases hlt : fwC c code < (bsT (fwG c s y) (fwC c) code).1
      · have g3 : ¬ nI (bsT (fwG c s y) (fwC c) code).1 ≤ nI (ctP (dgc (cN c) code) (cN c)) := nI_ge hlt (by omega)
        refine b_M_fewest_29 (fun h29 => absurd h29 (by first | decide | assumption | omega | simp_all)) (fun h29 => b_M_fewest_36 (fun h36 => absurd h36 (by first | decide | assumption | omega | simp_all)) (fun h36 => b_M_fewest_42 ?_))
        refine c_M_brokenNow (c := plC c (dgc (cN c) code) (cN c)) (pl_wfP hw (fun _ => dgc_7)) hVu (by rw [hau.2.1 16 (by decide)]; exact k16) (fun w3 ho3 hP3 => ?_)
        have ha3 := asd_45 hau ho3
        have h318 : w3 95 18 = w 95 18 := by rw [ho3 95 (by decide) (by decide), k95]
        have hb256 : brb (plC c (dgc (cN c) code) (cN c)) < 256 := brb_256 (c := plC c (dgc (cN c) code) (cN c)) hw.1
        by_cases hz : brb (plC c (dgc (cN c) code) (cN c)) = 0
        · rw [decide_eq_true hz, Bool.true_and] at eG
          rw [hz]
          by_cases hy9 : y = -9
          · have eC : cnd s y (plC c (dgc (cN c) code) (cN c)) = decide (ysW (plC c (dgc (cN c) code) (cN c)) s = 0) := if_pos hy9
            have g9 : ¬ ¬ y = -9 := fun q => q hy9
            refine b_M_fewest_46 (fun h46 => absurd h46 (by first | decide | assumption | omega | simp_all)) (fun h46 => b_M_fewest_49 (b_M_fewest_54 (fun h54 => absurd h54 (by first | decide | assumption | omega | simp_all)) (fun h54 => b_M_fewest_61 (fun h61 => absurd h61 (by first | decide | assumption | omega | simp_all)) (fun h61 => b_M_fewest_67 ?_))))
            refine c_M_yearsOf (c := plC c (dgc (cN c) code) (cN c)) (pl_wfP hw (fun _ => dgc_7)).1 hP3 ?_
            have h32 := ysW_32 (c := plC c (dgc (cN c) code) (cN c)) (s := s) hn5
            by_cases hY : ysW (plC c (dgc (cN c) code) (cN c)) s = 0
            · rw [hY]
              refine b_M_fewest_72 (fun h72 => absurd h72 (by first | decide | assumption | omega | simp_all)) (fun h72 => b_M_fewest_75 ?_)
              exact yes w3 _ (by rw [eG, eC]; exact decide_eq_true hY) hlt ha3
            · have gY : ¬ nI (ysW (plC c (dgc (cN c) code) (cN c)) s) = 0 := nI_ne0 (by omega) (by omega)
              refine b_M_fewest_72 (fun h72 => ?_) (fun h72 => absurd h72 (by first | decide | assumption | omega | simp_all))
              exact no w3 _ _ (if_neg (fun q => by have := q.1; rw [eG, eC] at this; exact hY (of_decide_eq_true this))) ha3 h318
          · have eC : cnd s y (plC c (dgc (cN c) code) (cN c)) = decide (hap (plC c (dgc (cN c) code) (cN c)) (y.toNatClampNeg) = s) := if_neg hy9
            obtain ⟨j, hj, hyj⟩ := hm.resolve_left hy9
            have cj : y.toNatClampNeg = j := by rw [hyj]; exact nI_clamp (by omega)
            have vj : vp_in y 5 := by rw [hyj]; exact vp_in_nI (by omega) (by omega)
            have eh : w3 104 y.toNatClampNeg = hap (plC c (dgc (cN c) code) (cN c)) j := by
              have : y.toNatClampNeg = j := cj
              rw [this]; exact (hP3.2 j hj).1
            rw [cj] at eC
            by_cases hh : hap (plC c (dgc (cN c) code) (cN c)) j = s
            · have g4 : ¬ ¬ w3 104 y.toNatClampNeg = s := fun q => q (by rw [eh]; exact hh)
              refine b_M_fewest_46 (fun h46 => absurd h46 (by first | decide | assumption | omega | simp_all)) (fun h46 => b_M_fewest_49 (b_M_fewest_54 (fun h54 => absurd h54 (by first | decide | assumption | omega | simp_all)) (fun h54 => b_M_fewest_61 (fun h61 => b_M_fewest_78 (by first | assumption | decide | (refine vp_in_nI ?_ ?_ <;> omega) | omega | simp_all) (fun h78 => absurd h78 (by first | decide | assumption | omega | simp_all)) (fun h78 => ?_)) (fun h61 => absurd h61 (by first | decide | assumption | omega | simp_all)))))
              exact yes w3 _ (by rw [eG, eC]; exact decide_eq_true hh) hlt ha3
            · have g4 : ¬ w3 104 y.toNatClampNeg = s := by rw [eh]; exact hh
              refine b_M_fewest_46 (fun h46 => absurd h46 (by first | decide | assumption | omega | simp_all)) (fun h46 => b_M_fewest_49 (b_M_fewest_54 (fun h54 => absurd h54 (by first | decide | assumption | omega | simp_all)) (fun h54 => b_M_fewest_61 (fun h61 => b_M_fewest_78 (by first | assumption | decide | (refine vp_in_nI ?_ ?_ <;> omega) | omega | simp_all) (fun h78 => ?_) (fun h78 => absurd h78 (by first | decide | assumption | omega | simp_all))) (fun h61 => absurd h61 (by first | decide | assumption | omega | simp_all)))))
              exact no w3 _ _ (if_neg (fun q => by have := q.1; rw [eG, eC] at this; exact hh (of_decide_eq_true this))) ha3 h318
        · have g4 : ¬ nI (brb (plC c (dgc (cN c) code) (cN c))) = 0 := nI_ne0 (by omega) (by omega)
          refine b_M_fewest_46 (fun h46 => b_M_fewest_53 (b_M_fewest_54 (fun h54 => ?_) (fun h54 => absurd h54 (by first | decide | assumption | omega | simp_all)))) (fun h46 => absurd h46 (by first | decide | assumption | omega | simp_all))
          exact no w3 _ _ (if_neg (fun q => by have := q.1; rw [eG, decide_eq_false hz, Bool.false_and] at this; cases this)) ha3 h318
      · have g3 : ¬ ¬ nI (bsT (fwG c s y) (fwC c) code).1 ≤ nI (ctP (dgc (cN c) code) (cN c)) := fun q => q (nI_le (Nat.not_lt.mp hlt) (by omega))
        refine b_M_fewest_29 (fun h29 => absurd h29 (by first | decide | assumption | omega | simp_all)) (fun h29 => b_M_fewest_36 (fun h36 => ?_) (fun h36 => absurd h36 (by first | decide | assumption | omega | simp_all)))
        exact stay u _ _ (if_neg (fun q => hlt q.2)) hau (by rw [k95])
end S78
