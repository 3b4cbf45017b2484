/-! the reference: ways -/
theorem hap_rng {c : Cl} (hL : cL c ≤ 8) (hS : ∀ y, y < cN c → cW c y = 1 → vp_in (cS c y) 5) (hE : ∀ k, k < cL c → vp_in (cEn c k) 5) {y : Nat} (hy : y < cN c) : hap c y = -9 ∨ vp_in (hap c y) 5 := by
  have e := hap_eq (c := c) (y := y) hL
  by_cases h1 : cW c y = 1
  · rw [if_pos h1] at e; rw [e]; exact Or.inr (hS y hy h1)
  · rw [if_neg h1] at e
    by_cases h9 : mak c y = -9
    · rw [if_pos h9] at e; exact Or.inl e
    · rw [if_neg h9] at e
      have := mkF_or (W := cW c) (S := cS c) (K := cK c) (C := cC c) (H := hap c) (L := cL c) (y := y)
      rcases this with q | ⟨k, hk, q⟩
      · exact absurd q h9
      · have q : mak c y = nI k := q
        rw [q, nI_clamp (by omega)] at e
        rw [e]; exact Or.inr (hE k hk)
theorem pl_rng {c : Cl} {p : Nat → Nat} (hw : wfC c) (hp : ∀ y, p y < 7) (hal : ∀ y, y < cN c → alC (cW c y) (p y) = true) {y : Nat} (hy : y < cN c) : hap (plC c p (cN c)) y = -9 ∨ vp_in (hap (plC c p (cN c)) y) 5 := by
  refine hap_rng (c := plC c p (cN c)) hw.2.1 (fun z hz => ?_) (fun k hk => (hw.2.2.2.2.1 k hk).2.2) hy
  have hz : z < cN c := hz
  show (if z < cN c then chWi (cW c z) (nI (p z)) else cW c z) = 1 → vp_in (if z < cN c then chSi (cS c z) (nI (p z)) else cS c z) 5
  rw [if_pos hz, if_pos hz, chWi_n (hp z), chSi_n (hp z)]
  unfold chW chS
  by_cases h5 : p z = 5
  · rw [if_pos h5]; intro q; exact absurd q (by decide)
  · rw [if_neg h5, if_neg h5]
    by_cases h6 : p z = 6
    · rw [if_pos h6, if_pos h6]; intro q
      rcases hw.2.2.2.1 z hz with r | r
      · rw [r.1] at q; exact absurd q (by decide)
      · exact r.2
    · rw [if_neg h6, if_neg h6]; intro _
      have := hp z
      exact vp_in_nI (by omega) (by omega)
theorem pl_wfP {c : Cl} {p : Nat → Nat} (hw : wfP c) (hp : ∀ y, p y < 7) : wfP (plC c p (cN c)) := by
  refine ⟨hw.1, fun y hy => ?_⟩
  have hy : y < cN c := hy
  show (if y < cN c then chWi (cW c y) (nI (p y)) else cW c y) = 0 ∨ (if y < cN c then chWi (cW c y) (nI (p y)) else cW c y) = 1 ∨ (if y < cN c then chWi (cW c y) (nI (p y)) else cW c y) = 2
  rw [if_pos hy, chWi_n (hp y)]
  unfold chW
  by_cases h5 : p y = 5
  · rw [if_pos h5]; exact Or.inr (Or.inr rfl)
  · rw [if_neg h5]
    by_cases h6 : p y = 6
    · rw [if_pos h6]; exact hw.2 y hy
    · rw [if_neg h6]; exact Or.inr (Or.inl rfl)
/-- a SCENE in a YEAR -/
theorem gd_S {c : Cl} {y most code : Nat} {s : Int32} {wh : Bool} (hw : wfC c) (hy : y < cN c) (hs : vp_in s 5) : gd c (wanS y s) wh false most code = true ↔ alF (fun y => alC (cW c y) (dgc (cN c) code y)) 0 (cN c) = true ∧ ctP (dgc (cN c) code) (cN c) ≤ most ∧ (wh = true → brb (plC c (dgc (cN c) code) (cN c)) = 0) ∧ hap (plC c (dgc (cN c) code) (cN c)) y = s := by
  rw [gd_iff hw.2.1, alF_iff]
  constructor
  · rintro ⟨h1, h2, h3, h4⟩
    have hal : ∀ y, y < cN c → alC (cW c y) (dgc (cN c) code y) = true := fun y hy => by rw [← alP_f]; exact h1 y hy
    refine ⟨fun k _ hk => hal k (by omega), h2, h4, ?_⟩
    have := h3 y hy
    unfold wanS at this
    rw [vau_s, hb_S (pl_rng hw (fun _ => dgc_7) hal hy) hs] at this
    exact Decidable.not_not.mp this
  · rintro ⟨h1, h2, h3, h4⟩
    have hal : ∀ y, y < cN c → alC (cW c y) (dgc (cN c) code y) = true := fun y hy => h1 y (Nat.zero_le _) (by omega)
    refine ⟨fun y hy => by rw [alP_f]; exact hal y hy, h2, fun z hz => ?_, h3⟩
    unfold wanS
    by_cases hzy : z = y
    · subst hzy; rw [vau_s, hb_S (pl_rng hw (fun _ => dgc_7) hal hz) hs]; exact fun q => q h4
    · rw [vau_n hzy]; exact hb_63 (pl_rng hw (fun _ => dgc_7) hal hz)
section S73
variable {X : aX} {d : Nat} {vi : Nat → Nat → Int32} {vl : Nat → Nat → Int64} {post : aO} {A : aA} {c : Cl} {f g : Nat → Int32}
theorem AbM_ul {w : Nat → Nat → Int32} {wl : Nat → Nat → Int64} {u l : Int64} (hW : wfA A) (hA : AbM A vi vl) (hs : scM vi w) (hu : wl 95 11 = u) (hl : wl 95 12 = l) : AbM (tUl A u l) w wl := by
  obtain ⟨a1, a2, a3, a4, a5, a6, a7⟩ := AbM_sc (w := w) (wl := vl) hW hA hs rfl rfl
  exact ⟨a1, a2, a3, a4, a5, ⟨a6.1, hu, hl⟩, a7⟩
theorem m_ways {s y n : Int32} (hW : wfA A) (hA : AbM A vi vl) (hQ : PM vi vl post (oWays A s y n)) : CallOk X (d + 5) 0 0 k_M_ways [.ref 95, .int s, .int y, .int n] (mk vi vl) post := by
  refine CallOk.intro (by decide +kernel) rfl (Nat.le_of_ble_eq_true rfl) ?_
  unfold oWays at hQ
  have h5' := hW.N5
  have hp := hW.2.2.1.p
  have hwc := hW.2.2.1
  refine b_M_ways_0 ?_
  refine c_M_isTold ?_
  by_cases hs : vp_in s 5
  · rw [inB_t hs] at hQ ⊢
    refine b_M_ways_4 (fun h4 => absurd h4 (by first | decide | assumption | omega | simp_all)) (fun h4 => b_M_ways_7 ?_)
    refine c_M_isYear hA.V h5' ?_
    by_cases hy : vp_in y (cN (aCu A))
    · rw [inB_t hy] at hQ ⊢
      obtain ⟨j, hj, rfl⟩ := vp_in_of hy (by omega)
      have cj : (nI j).toNatClampNeg = j := nI_clamp (by omega)
      have vj : vp_in (nI j) 5 := vp_in_nI (by omega) (by omega)
      refine b_M_ways_12 (fun h12 => absurd h12 (by first | decide | assumption | omega | simp_all)) (fun h12 => b_M_ways_15 ?_)
      refine c_M_in ?_
      rw [show (5 : Int64) = lN 5 from rfl, inK (by omega)]
      by_cases hn : vp_in n 6
      · rw [inB_t hn] at hQ ⊢
        rw [if_pos ⟨rfl, rfl, rfl⟩, cj] at hQ
        obtain ⟨m, hm, rfl⟩ := vp_in_of hn (by decide)
        rw [nI_clamp (show m < 2 ^ 31 by omega)] at hQ
        have h7 := pow7_le h5'
        refine b_M_ways_24 (fun h24 => b_M_ways_29 ?_) (fun h24 => absurd h24 (by first | decide | assumption | omega | simp_all))
        refine c_M_plans hp.1 hA.V ?_
        refine b_M_ways_33 ?_
        refine c_M_lays (fun u0 ha0 h00 => ?_)
        refine b_M_ways_42 ?_
        have key := loop_up (P := fun code => ∀ w l7 l8, asd vi w → (∀ k, k < 36 → w 96 k = vi 96 k) → wp X (d + 5) k_M_ways 0 0 45 [some (.ref 95), some (.int s), some (.int (nI j)), some (.int (nI m)), some (.int (nI (7 ^ cN (aCu A)))), some (.int (nI (cn (gd (aCu A) (wanS j s) true false m) code))), some (.int (nI code)), l7, l8] [] (mk w vl) post) (7 ^ cN (aCu A)) 0 (Nat.zero_le _) ?_ ?_
        · exact key u0 _ _ ha0 h00
        · intro w l7 l8 ha h0
          have g1 : ¬ ¬ nI (7 ^ cN (aCu A)) ≤ nI (7 ^ cN (aCu A)) := fun q => q (Int32.le_refl _)
          refine b_M_ways_45 (fun h45 => b_M_ways_120 (fun w120 hw120 => b_M_ways_127 (fun w127 hw127 => b_M_ways_132 ?_))) (fun h45 => absurd h45 (by first | decide | assumption | omega | simp_all))
          have hle := num_le (c := aCu A) (wan := wanS j s) (wh := true) (pl := false) (most := m) h5'
          have hsc := asd_sc ha h0
          unfold frcT at hQ
          rw [Nat.gcd_one_right, Nat.div_one, Nat.div_one] at hQ
          refine hQ _ _ (AbM_ul hW hA hsc ?_ ?_) ⟨fun q hq => hsc.1 q (by omega), fun q hq => by rw [hw127, up2_n (by omega), hw120, up2_n (by omega)]⟩
          · rw [hw127, up2_s, vau_n (by decide), hw120, up2_s, vau_s]; exact nI_l (by unfold num at hle; omega)
          · rw [hw127, up2_s, vau_s]; rfl
        · intro code _ hcode ih w l7 l8 ha h0
          have g1 : ¬ nI (7 ^ cN (aCu A)) ≤ nI code := nI_ge hcode (by omega)
          have hV : MV (aCu A) 0 (w 96) := MV_fr hp.1 hA.V (fun k _ hk => h0 k (by omega))
          have hgd := gd_S (most := m) (code := code) (wh := true) hwc hj hs
          have yes : ∀ u x7 x8, gd (aCu A) (wanS j s) true false m code = true → asd vi u → wp X (d + 5) k_M_ways 0 0 107 [some (.ref 95), some (.int s), some (.int (nI j)), some (.int (nI m)), some (.int (nI (7 ^ cN (aCu A)))), some (.int (nI (cn (gd (aCu A) (wanS j s) true false m) code))), some (.int (nI code)), some (.int x7), some (.int x8)] [.int 1, .int (nI (cn (gd (aCu A) (wanS j s) true false m) code))] (mk u vl) post := by
            intro u x7 x8 hg hu
            refine b_M_ways_107 ?_
            refine c_M_putsBack hu (fun u2 hu2 hu0 _ => ?_)
            refine b_M_ways_114 ?_
            rw [nI_1, nI_1, ← cn_t hg]
            exact ih u2 _ _ hu2 hu0
          have no : ∀ u x7 x8, ¬ gd (aCu A) (wanS j s) true false m code = true → asd vi u → wp X (d + 5) k_M_ways 0 0 107 [some (.ref 95), some (.int s), some (.int (nI j)), some (.int (nI m)), some (.int (nI (7 ^ cN (aCu A)))), some (.int (nI (cn (gd (aCu A) (wanS j s) true false m) code))), some (.int (nI code)), some (.int x7), some (.int x8)] [.int 0, .int (nI (cn (gd (aCu A) (wanS j s) true false m) code))] (mk u vl) post := by
            intro u x7 x8 hg hu
            refine b_M_ways_107 ?_
            refine c_M_putsBack hu (fun u2 hu2 hu0 _ => ?_)
            refine b_M_ways_114 ?_
            rw [nI_1, Int32.add_zero, ← cn_f (Bool.eq_false_iff.mpr hg)]
            exact ih u2 _ _ hu2 hu0
          refine b_M_ways_45 (fun h45 => absurd h45 (by first | decide | assumption | omega | simp_all)) (fun h45 => b_M_ways_52 ?_)
          refine c_M_does (c := aCu A) hp.1 hcode ha hV (fun u hal hau _ _ _ => ?_) (fun u hal hau _ hVu _ => ?_)
          · have g2 : ¬ ¬ (-1 : Int32) < 0 := by decide
            refine b_M_ways_58 (fun h58 => b_M_ways_82 (b_M_ways_83 (fun h83 => b_M_ways_106 ?_) (fun h83 => absurd h83 (by first | decide | assumption | omega | simp_all)))) (fun h58 => absurd h58 (by first | decide | assumption | omega | simp_all))
            exact no u _ _ (fun q => by have := (hgd.mp q).1; rw [hal] at this; cases this) hau
          · have hct : ctP (dgc (cN (aCu A)) code) (cN (aCu A)) ≤ cN (aCu A) := cn_le _ _
            have g2 : ¬ nI (ctP (dgc (cN (aCu A)) code) (cN (aCu A))) < 0 := nI_pos (by omega)
            by_cases hc : ctP (dgc (cN (aCu A)) code) (cN (aCu A)) ≤ m
            · have g3 : ¬ nI m < nI (ctP (dgc (cN (aCu A)) code) (cN (aCu A))) := nI_nlt hc (by omega)
              refine b_M_ways_58 (fun h58 => absurd h58 (by first | decide | assumption | omega | simp_all)) (fun h58 => b_M_ways_65 (fun h65 => absurd h65 (by first | decide | assumption | omega | simp_all)) (fun h65 => b_M_ways_71 ?_))
              refine c_M_brokenNow (c := plC (aCu A) (dgc (cN (aCu A)) code) (cN (aCu A))) (pl_wfP hp (fun _ => dgc_7)) hVu (by rw [hau.2.1 16 (by decide)]; exact hA.w) (fun w3 ho3 hP3 => ?_)
              have ha3 := asd_45 hau ho3
              have hb256 : brb (plC (aCu A) (dgc (cN (aCu A)) code) (cN (aCu A))) < 256 := brb_256 (c := plC (aCu A) (dgc (cN (aCu A)) code) (cN (aCu A))) hp.1
              by_cases hz : brb (plC (aCu A) (dgc (cN (aCu A)) code) (cN (aCu A))) = 0
              · have eh : w3 104 (nI j).toNatClampNeg = hap (plC (aCu A) (dgc (cN (aCu A)) code) (cN (aCu A))) j := by rw [cj]; exact (hP3.2 j hj).1
                rw [hz]
                by_cases hh : hap (plC (aCu A) (dgc (cN (aCu A)) code) (cN (aCu A))) j = s
                · have g4 : ¬ ¬ w3 104 (nI j).toNatClampNeg = s := fun q => q (by rw [eh]; exact hh)
                  refine b_M_ways_75 (fun h75 => absurd h75 (by first | decide | assumption | omega | simp_all)) (fun h75 => b_M_ways_78 (b_M_ways_83 (fun h83 => absurd h83 (by first | decide | assumption | omega | simp_all)) (fun h83 => b_M_ways_92 (by first | assumption | decide | (refine vp_in_nI ?_ ?_ <;> omega) | omega | simp_all) (fun h92 => absurd h92 (by first | decide | assumption | omega | simp_all)) (fun h92 => b_M_ways_102 ?_))))
                  exact yes w3 _ _ (hgd.mpr ⟨hal, hc, fun _ => hz, hh⟩) ha3
                · have g4 : ¬ w3 104 (nI j).toNatClampNeg = s := by rw [eh]; exact hh
                  refine b_M_ways_75 (fun h75 => absurd h75 (by first | decide | assumption | omega | simp_all)) (fun h75 => b_M_ways_78 (b_M_ways_83 (fun h83 => absurd h83 (by first | decide | assumption | omega | simp_all)) (fun h83 => b_M_ways_92 (by first | assumption | decide | (refine vp_in_nI ?_ ?_ <;> omega) | omega | simp_all) (fun h92 => b_M_ways_106 ?_) (fun h92 => absurd h92 (by first | decide | assumption | omega | simp_all)))))
                  exact no w3 _ _ (fun q => hh (hgd.mp q).2.2.2) ha3
              · have g4 : ¬ nI (brb (plC (aCu A) (dgc (cN (aCu A)) code) (cN (aCu A)))) = 0 := nI_ne0 (by omega) (by omega)
                refine b_M_ways_75 (fun h75 => b_M_ways_82 (b_M_ways_83 (fun h83 => b_M_ways_106 ?_) (fun h83 => absurd h83 (by first | decide | assumption | omega | simp_all)))) (fun h75 => absurd h75 (by first | decide | assumption | omega | simp_all))
                exact no w3 _ _ (fun q => hz ((hgd.mp q).2.2.1 rfl)) ha3
            · have g3 : ¬ ¬ nI m < nI (ctP (dgc (cN (aCu A)) code) (cN (aCu A))) := fun q => q (nI_lt (by omega) (by omega))
              refine b_M_ways_58 (fun h58 => absurd h58 (by first | decide | assumption | omega | simp_all)) (fun h58 => b_M_ways_65 (fun h65 => b_M_ways_82 (b_M_ways_83 (fun h83 => b_M_ways_106 ?_) (fun h83 => absurd h83 (by first | decide | assumption | omega | simp_all)))) (fun h65 => absurd h65 (by first | decide | assumption | omega | simp_all)))
              exact no u _ _ (fun q => hc (hgd.mp q).2.1) hau
      · rw [inB_f hn] at hQ ⊢
        rw [if_neg (fun q => by cases q.2.2)] at hQ
        refine b_M_ways_24 (fun h24 => absurd h24 (by first | decide | assumption | omega | simp_all)) (fun h24 => b_M_ways_27 ?_)
        exact hQ _ _ hA smC_rf
    · rw [inB_f hy] at hQ ⊢
      rw [if_neg (fun q => by cases q.2.1)] at hQ
      refine b_M_ways_12 (fun h12 => b_M_ways_27 ?_) (fun h12 => absurd h12 (by first | decide | assumption | omega | simp_all))
      exact hQ _ _ hA smC_rf
  · rw [inB_f hs] at hQ ⊢
    rw [if_neg (fun q => by cases q.1)] at hQ
    refine b_M_ways_4 (fun h4 => b_M_ways_27 ?_) (fun h4 => absurd h4 (by first | decide | assumption | omega | simp_all))
    exact hQ _ _ hA smC_rf
end S73
